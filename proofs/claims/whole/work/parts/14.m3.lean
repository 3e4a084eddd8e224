theorem dX3_addEntry_0 : zD cX3_addEntry 0 (.aload_n 0) 1 1 := ⟨by decide +kernel, rfl⟩
theorem dX3_addEntry_1 : zD cX3_addEntry 1 (.dup) 1 2 := ⟨by decide +kernel, rfl⟩
theorem dX3_addEntry_2 : zD cX3_addEntry 2 (.getfield 26) 3 5 := ⟨by decide +kernel, rfl⟩
theorem dX3_addEntry_5 : zD cX3_addEntry 5 (.iconst 1) 1 6 := ⟨by decide +kernel, rfl⟩
theorem dX3_addEntry_6 : zD cX3_addEntry 6 (.iadd) 1 7 := ⟨by decide +kernel, rfl⟩
theorem dX3_addEntry_7 : zD cX3_addEntry 7 (.putfield 26) 3 10 := ⟨by decide +kernel, rfl⟩
theorem dX3_addEntry_10 : zD cX3_addEntry 10 (.aload_n 0) 1 11 := ⟨by decide +kernel, rfl⟩
theorem dX3_addEntry_11 : zD cX3_addEntry 11 (.invokevirtual 66) 3 14 := ⟨by decide +kernel, rfl⟩
theorem dX3_addEntry_14 : zD cX3_addEntry 14 (.ifCond .eq 12) 3 17 := ⟨by decide +kernel, rfl⟩
theorem dX3_addEntry_17 : zD cX3_addEntry 17 (.aload_n 0) 1 18 := ⟨by decide +kernel, rfl⟩
theorem dX3_addEntry_18 : zD cX3_addEntry 18 (.aload_n 0) 1 19 := ⟨by decide +kernel, rfl⟩
theorem dX3_addEntry_19 : zD cX3_addEntry 19 (.iconst (-1)) 1 20 := ⟨by decide +kernel, rfl⟩
theorem dX3_addEntry_20 : zD cX3_addEntry 20 (.invokevirtual 77) 3 23 := ⟨by decide +kernel, rfl⟩
theorem dX3_addEntry_23 : zD cX3_addEntry 23 (.invokevirtual 81) 3 26 := ⟨by decide +kernel, rfl⟩
theorem dX3_addEntry_26 : zD cX3_addEntry 26 (.aload_n 0) 1 27 := ⟨by decide +kernel, rfl⟩
theorem dX3_addEntry_27 : zD cX3_addEntry 27 (.iload_n 2) 1 28 := ⟨by decide +kernel, rfl⟩
theorem dX3_addEntry_28 : zD cX3_addEntry 28 (.iconst (-1)) 1 29 := ⟨by decide +kernel, rfl⟩
theorem dX3_addEntry_29 : zD cX3_addEntry 29 (.invokevirtual 85) 3 32 := ⟨by decide +kernel, rfl⟩
theorem dX3_addEntry_32 : zD cX3_addEntry 32 (.aload_n 0) 1 33 := ⟨by decide +kernel, rfl⟩
theorem dX3_addEntry_33 : zD cX3_addEntry 33 (.invokevirtual 66) 3 36 := ⟨by decide +kernel, rfl⟩
theorem dX3_addEntry_36 : zD cX3_addEntry 36 (.ifCond .eq 4) 3 39 := ⟨by decide +kernel, rfl⟩
theorem dX3_addEntry_39 : zD cX3_addEntry 39 (.return_) 1 40 := ⟨by decide +kernel, rfl⟩
theorem dX3_addEntry_40 : zD cX3_addEntry 40 (.aload_n 0) 1 41 := ⟨by decide +kernel, rfl⟩
theorem dX3_addEntry_41 : zD cX3_addEntry 41 (.getfield 11) 3 44 := ⟨by decide +kernel, rfl⟩
theorem dX3_addEntry_44 : zD cX3_addEntry 44 (.aload_n 0) 1 45 := ⟨by decide +kernel, rfl⟩
theorem dX3_addEntry_45 : zD cX3_addEntry 45 (.getfield 22) 3 48 := ⟨by decide +kernel, rfl⟩
theorem dX3_addEntry_48 : zD cX3_addEntry 48 (.aaload) 1 49 := ⟨by decide +kernel, rfl⟩
theorem dX3_addEntry_49 : zD cX3_addEntry 49 (.iload_n 1) 1 50 := ⟨by decide +kernel, rfl⟩
theorem dX3_addEntry_50 : zD cX3_addEntry 50 (.iload_n 2) 1 51 := ⟨by decide +kernel, rfl⟩
theorem dX3_addEntry_51 : zD cX3_addEntry 51 (.aload_n 0) 1 52 := ⟨by decide +kernel, rfl⟩
theorem dX3_addEntry_52 : zD cX3_addEntry 52 (.getfield 26) 3 55 := ⟨by decide +kernel, rfl⟩
theorem dX3_addEntry_55 : zD cX3_addEntry 55 (.invokevirtual 89) 3 58 := ⟨by decide +kernel, rfl⟩
theorem dX3_addEntry_58 : zD cX3_addEntry 58 (.aload_n 0) 1 59 := ⟨by decide +kernel, rfl⟩
theorem dX3_addEntry_59 : zD cX3_addEntry 59 (.dup) 1 60 := ⟨by decide +kernel, rfl⟩
theorem dX3_addEntry_60 : zD cX3_addEntry 60 (.getfield 22) 3 63 := ⟨by decide +kernel, rfl⟩
theorem dX3_addEntry_63 : zD cX3_addEntry 63 (.iconst 1) 1 64 := ⟨by decide +kernel, rfl⟩
theorem dX3_addEntry_64 : zD cX3_addEntry 64 (.iadd) 1 65 := ⟨by decide +kernel, rfl⟩
theorem dX3_addEntry_65 : zD cX3_addEntry 65 (.putfield 22) 3 68 := ⟨by decide +kernel, rfl⟩
theorem dX3_addEntry_68 : zD cX3_addEntry 68 (.aload_n 0) 1 69 := ⟨by decide +kernel, rfl⟩
theorem dX3_addEntry_69 : zD cX3_addEntry 69 (.aload_n 0) 1 70 := ⟨by decide +kernel, rfl⟩
theorem dX3_addEntry_70 : zD cX3_addEntry 70 (.getfield 22) 3 73 := ⟨by decide +kernel, rfl⟩
theorem dX3_addEntry_73 : zD cX3_addEntry 73 (.iconst 1) 1 74 := ⟨by decide +kernel, rfl⟩
theorem dX3_addEntry_74 : zD cX3_addEntry 74 (.isub) 1 75 := ⟨by decide +kernel, rfl⟩
theorem dX3_addEntry_75 : zD cX3_addEntry 75 (.invokevirtual 93) 3 78 := ⟨by decide +kernel, rfl⟩
theorem dX3_addEntry_78 : zD cX3_addEntry 78 (.return_) 1 79 := ⟨by decide +kernel, rfl⟩
theorem dX6_copy_0 : zD cX6_copy 0 (.aload_n 0) 1 1 := ⟨by decide +kernel, rfl⟩
theorem dX6_copy_1 : zD cX6_copy 1 (.iload_n 1) 1 2 := ⟨by decide +kernel, rfl⟩
theorem dX6_copy_2 : zD cX6_copy 2 (.invokevirtual 190) 3 5 := ⟨by decide +kernel, rfl⟩
theorem dX6_copy_5 : zD cX6_copy 5 (.iload_n 2) 1 6 := ⟨by decide +kernel, rfl⟩
theorem dX6_copy_6 : zD cX6_copy 6 (.invokestatic 203) 3 9 := ⟨by decide +kernel, rfl⟩
theorem dX6_copy_9 : zD cX6_copy 9 (.aload_n 0) 1 10 := ⟨by decide +kernel, rfl⟩
theorem dX6_copy_10 : zD cX6_copy 10 (.getfield 36) 3 13 := ⟨by decide +kernel, rfl⟩
theorem dX6_copy_13 : zD cX6_copy 13 (.iload_n 2) 1 14 := ⟨by decide +kernel, rfl⟩
theorem dX6_copy_14 : zD cX6_copy 14 (.invokevirtual 206) 3 17 := ⟨by decide +kernel, rfl⟩
theorem dX6_copy_17 : zD cX6_copy 17 (.ifCond .ne 13) 3 20 := ⟨by decide +kernel, rfl⟩
theorem dX6_copy_20 : zD cX6_copy 20 (.new 78) 3 23 := ⟨by decide +kernel, rfl⟩
theorem dX6_copy_23 : zD cX6_copy 23 (.dup) 1 24 := ⟨by decide +kernel, rfl⟩
theorem dX6_copy_24 : zD cX6_copy 24 (.ldc 209) 2 26 := ⟨by decide +kernel, rfl⟩
theorem dX6_copy_26 : zD cX6_copy 26 (.invokespecial 82) 3 29 := ⟨by decide +kernel, rfl⟩
theorem dX6_copy_29 : zD cX6_copy 29 (.athrow) 1 30 := ⟨by decide +kernel, rfl⟩
theorem dX6_copy_30 : zD cX6_copy 30 (.aload_n 0) 1 31 := ⟨by decide +kernel, rfl⟩
theorem dX6_copy_31 : zD cX6_copy 31 (.invokevirtual 211) 3 34 := ⟨by decide +kernel, rfl⟩
theorem dX6_copy_34 : zD cX6_copy 34 (.aload_n 0) 1 35 := ⟨by decide +kernel, rfl⟩
theorem dX6_copy_35 : zD cX6_copy 35 (.getfield 36) 3 38 := ⟨by decide +kernel, rfl⟩
theorem dX6_copy_38 : zD cX6_copy 38 (.iload_n 1) 1 39 := ⟨by decide +kernel, rfl⟩
theorem dX6_copy_39 : zD cX6_copy 39 (.iload_n 2) 1 40 := ⟨by decide +kernel, rfl⟩
theorem dX6_copy_40 : zD cX6_copy 40 (.invokevirtual 214) 3 43 := ⟨by decide +kernel, rfl⟩
theorem dX6_copy_43 : zD cX6_copy 43 (.aload_n 0) 1 44 := ⟨by decide +kernel, rfl⟩
theorem dX6_copy_44 : zD cX6_copy 44 (.getfield 36) 3 47 := ⟨by decide +kernel, rfl⟩
theorem dX6_copy_47 : zD cX6_copy 47 (.invokevirtual 112) 3 50 := ⟨by decide +kernel, rfl⟩
theorem dX6_copy_50 : zD cX6_copy 50 (.ireturn) 1 51 := ⟨by decide +kernel, rfl⟩
theorem dX3_canAddForm_0 : zD cX3_canAddForm 0 (.aload_n 0) 1 1 := ⟨by decide +kernel, rfl⟩
theorem dX3_canAddForm_1 : zD cX3_canAddForm 1 (.getfield 22) 3 4 := ⟨by decide +kernel, rfl⟩
theorem dX3_canAddForm_4 : zD cX3_canAddForm 4 (.iconst 1) 1 5 := ⟨by decide +kernel, rfl⟩
theorem dX3_canAddForm_5 : zD cX3_canAddForm 5 (.if_icmp .ge 5) 3 8 := ⟨by decide +kernel, rfl⟩
theorem dX3_canAddForm_8 : zD cX3_canAddForm 8 (.iconst 0) 1 9 := ⟨by decide +kernel, rfl⟩
theorem dX3_canAddForm_9 : zD cX3_canAddForm 9 (.ireturn) 1 10 := ⟨by decide +kernel, rfl⟩
theorem dX3_canAddForm_10 : zD cX3_canAddForm 10 (.aload_n 0) 1 11 := ⟨by decide +kernel, rfl⟩
theorem dX3_canAddForm_11 : zD cX3_canAddForm 11 (.getfield 11) 3 14 := ⟨by decide +kernel, rfl⟩
theorem dX3_canAddForm_14 : zD cX3_canAddForm 14 (.iconst 0) 1 15 := ⟨by decide +kernel, rfl⟩
theorem dX3_canAddForm_15 : zD cX3_canAddForm 15 (.aaload) 1 16 := ⟨by decide +kernel, rfl⟩
theorem dX3_canAddForm_16 : zD cX3_canAddForm 16 (.astore_n 3) 1 17 := ⟨by decide +kernel, rfl⟩
theorem dX3_canAddForm_17 : zD cX3_canAddForm 17 (.aload_n 3) 1 18 := ⟨by decide +kernel, rfl⟩
theorem dX3_canAddForm_18 : zD cX3_canAddForm 18 (.iload_n 1) 1 19 := ⟨by decide +kernel, rfl⟩
theorem dX3_canAddForm_19 : zD cX3_canAddForm 19 (.invokevirtual 96) 3 22 := ⟨by decide +kernel, rfl⟩
theorem dX3_canAddForm_22 : zD cX3_canAddForm 22 (.ifCond .eq 13) 3 25 := ⟨by decide +kernel, rfl⟩
theorem dX3_canAddForm_25 : zD cX3_canAddForm 25 (.aload_n 3) 1 26 := ⟨by decide +kernel, rfl⟩
theorem dX3_canAddForm_26 : zD cX3_canAddForm 26 (.iload_n 1) 1 27 := ⟨by decide +kernel, rfl⟩
theorem dX3_canAddForm_27 : zD cX3_canAddForm 27 (.invokevirtual 99) 3 30 := ⟨by decide +kernel, rfl⟩
theorem dX3_canAddForm_30 : zD cX3_canAddForm 30 (.ifCond .ne 5) 3 33 := ⟨by decide +kernel, rfl⟩
theorem dX3_canAddForm_33 : zD cX3_canAddForm 33 (.iconst 0) 1 34 := ⟨by decide +kernel, rfl⟩
theorem dX3_canAddForm_34 : zD cX3_canAddForm 34 (.ireturn) 1 35 := ⟨by decide +kernel, rfl⟩
theorem dX3_canAddForm_35 : zD cX3_canAddForm 35 (.aload_n 3) 1 36 := ⟨by decide +kernel, rfl⟩
theorem dX3_canAddForm_36 : zD cX3_canAddForm 36 (.iload_n 1) 1 37 := ⟨by decide +kernel, rfl⟩
theorem dX3_canAddForm_37 : zD cX3_canAddForm 37 (.invokevirtual 99) 3 40 := ⟨by decide +kernel, rfl⟩
theorem dX3_canAddForm_40 : zD cX3_canAddForm 40 (.ifCond .eq 12) 3 43 := ⟨by decide +kernel, rfl⟩
theorem dX3_canAddForm_43 : zD cX3_canAddForm 43 (.aload_n 3) 1 44 := ⟨by decide +kernel, rfl⟩
theorem dX3_canAddForm_44 : zD cX3_canAddForm 44 (.getfield 102) 3 47 := ⟨by decide +kernel, rfl⟩
theorem dX3_canAddForm_47 : zD cX3_canAddForm 47 (.iload_n 1) 1 48 := ⟨by decide +kernel, rfl⟩
theorem dX3_canAddForm_48 : zD cX3_canAddForm 48 (.iaload) 1 49 := ⟨by decide +kernel, rfl⟩
theorem dX3_canAddForm_49 : zD cX3_canAddForm 49 (.goto 4) 3 52 := ⟨by decide +kernel, rfl⟩
theorem dX3_canAddForm_52 : zD cX3_canAddForm 52 (.iconst 0) 1 53 := ⟨by decide +kernel, rfl⟩
theorem dX3_canAddForm_53 : zD cX3_canAddForm 53 (.istore 4) 2 55 := ⟨by decide +kernel, rfl⟩
theorem dX3_canAddForm_55 : zD cX3_canAddForm 55 (.aload_n 0) 1 56 := ⟨by decide +kernel, rfl⟩
theorem dX3_canAddForm_56 : zD cX3_canAddForm 56 (.iconst 0) 1 57 := ⟨by decide +kernel, rfl⟩
theorem dX3_canAddForm_57 : zD cX3_canAddForm 57 (.iconst 0) 1 58 := ⟨by decide +kernel, rfl⟩
theorem dX3_canAddForm_58 : zD cX3_canAddForm 58 (.invokevirtual 73) 3 61 := ⟨by decide +kernel, rfl⟩
theorem dX3_canAddForm_61 : zD cX3_canAddForm 61 (.iload 4) 2 63 := ⟨by decide +kernel, rfl⟩
theorem dX3_canAddForm_63 : zD cX3_canAddForm 63 (.isub) 1 64 := ⟨by decide +kernel, rfl⟩
theorem dX3_canAddForm_64 : zD cX3_canAddForm 64 (.iload_n 2) 1 65 := ⟨by decide +kernel, rfl⟩
theorem dX3_canAddForm_65 : zD cX3_canAddForm 65 (.iadd) 1 66 := ⟨by decide +kernel, rfl⟩
theorem dX3_canAddForm_66 : zD cX3_canAddForm 66 (.aload_n 0) 1 67 := ⟨by decide +kernel, rfl⟩
theorem dX3_canAddForm_67 : zD cX3_canAddForm 67 (.getfield 37) 3 70 := ⟨by decide +kernel, rfl⟩
theorem dX3_canAddForm_70 : zD cX3_canAddForm 70 (.if_icmp .gt 7) 3 73 := ⟨by decide +kernel, rfl⟩
theorem dX3_canAddForm_73 : zD cX3_canAddForm 73 (.iconst 1) 1 74 := ⟨by decide +kernel, rfl⟩
theorem dX3_canAddForm_74 : zD cX3_canAddForm 74 (.goto 4) 3 77 := ⟨by decide +kernel, rfl⟩
theorem dX3_canAddForm_77 : zD cX3_canAddForm 77 (.iconst 0) 1 78 := ⟨by decide +kernel, rfl⟩
theorem dX3_canAddForm_78 : zD cX3_canAddForm 78 (.ireturn) 1 79 := ⟨by decide +kernel, rfl⟩
theorem dX3_addForm_0 : zD cX3_addForm 0 (.aload_n 0) 1 1 := ⟨by decide +kernel, rfl⟩
theorem dX3_addForm_1 : zD cX3_addForm 1 (.getfield 22) 3 4 := ⟨by decide +kernel, rfl⟩
theorem dX3_addForm_4 : zD cX3_addForm 4 (.iconst 1) 1 5 := ⟨by decide +kernel, rfl⟩
theorem dX3_addForm_5 : zD cX3_addForm 5 (.if_icmp .ge 4) 3 8 := ⟨by decide +kernel, rfl⟩
theorem dX3_addForm_8 : zD cX3_addForm 8 (.return_) 1 9 := ⟨by decide +kernel, rfl⟩
theorem dX3_addForm_9 : zD cX3_addForm 9 (.aload_n 0) 1 10 := ⟨by decide +kernel, rfl⟩
theorem dX3_addForm_10 : zD cX3_addForm 10 (.dup) 1 11 := ⟨by decide +kernel, rfl⟩
theorem dX3_addForm_11 : zD cX3_addForm 11 (.getfield 26) 3 14 := ⟨by decide +kernel, rfl⟩
theorem dX3_addForm_14 : zD cX3_addForm 14 (.iconst 1) 1 15 := ⟨by decide +kernel, rfl⟩
theorem dX3_addForm_15 : zD cX3_addForm 15 (.iadd) 1 16 := ⟨by decide +kernel, rfl⟩
theorem dX3_addForm_16 : zD cX3_addForm 16 (.putfield 26) 3 19 := ⟨by decide +kernel, rfl⟩
theorem dX3_addForm_19 : zD cX3_addForm 19 (.aload_n 0) 1 20 := ⟨by decide +kernel, rfl⟩
theorem dX3_addForm_20 : zD cX3_addForm 20 (.getfield 11) 3 23 := ⟨by decide +kernel, rfl⟩
theorem dX3_addForm_23 : zD cX3_addForm 23 (.iconst 0) 1 24 := ⟨by decide +kernel, rfl⟩
theorem dX3_addForm_24 : zD cX3_addForm 24 (.aaload) 1 25 := ⟨by decide +kernel, rfl⟩
theorem dX3_addForm_25 : zD cX3_addForm 25 (.iload_n 1) 1 26 := ⟨by decide +kernel, rfl⟩
theorem dX3_addForm_26 : zD cX3_addForm 26 (.invokevirtual 105) 3 29 := ⟨by decide +kernel, rfl⟩
theorem dX3_addForm_29 : zD cX3_addForm 29 (.aload_n 0) 1 30 := ⟨by decide +kernel, rfl⟩
theorem dX3_addForm_30 : zD cX3_addForm 30 (.iload_n 2) 1 31 := ⟨by decide +kernel, rfl⟩
theorem dX3_addForm_31 : zD cX3_addForm 31 (.iconst 0) 1 32 := ⟨by decide +kernel, rfl⟩
theorem dX3_addForm_32 : zD cX3_addForm 32 (.invokevirtual 85) 3 35 := ⟨by decide +kernel, rfl⟩
theorem dX3_addForm_35 : zD cX3_addForm 35 (.aload_n 0) 1 36 := ⟨by decide +kernel, rfl⟩
theorem dX3_addForm_36 : zD cX3_addForm 36 (.getfield 11) 3 39 := ⟨by decide +kernel, rfl⟩
theorem dX3_addForm_39 : zD cX3_addForm 39 (.iconst 0) 1 40 := ⟨by decide +kernel, rfl⟩
theorem dX3_addForm_40 : zD cX3_addForm 40 (.aaload) 1 41 := ⟨by decide +kernel, rfl⟩
theorem dX3_addForm_41 : zD cX3_addForm 41 (.iload_n 1) 1 42 := ⟨by decide +kernel, rfl⟩
theorem dX3_addForm_42 : zD cX3_addForm 42 (.iload_n 2) 1 43 := ⟨by decide +kernel, rfl⟩
theorem dX3_addForm_43 : zD cX3_addForm 43 (.iconst 0) 1 44 := ⟨by decide +kernel, rfl⟩
theorem dX3_addForm_44 : zD cX3_addForm 44 (.iconst 0) 1 45 := ⟨by decide +kernel, rfl⟩
theorem dX3_addForm_45 : zD cX3_addForm 45 (.invokevirtual 108) 3 48 := ⟨by decide +kernel, rfl⟩
theorem dX3_addForm_48 : zD cX3_addForm 48 (.return_) 1 49 := ⟨by decide +kernel, rfl⟩
theorem dX6_offer_0 : zD cX6_offer 0 (.aload_n 0) 1 1 := ⟨by decide +kernel, rfl⟩
theorem dX6_offer_1 : zD cX6_offer 1 (.iload_n 1) 1 2 := ⟨by decide +kernel, rfl⟩
theorem dX6_offer_2 : zD cX6_offer 2 (.invokevirtual 190) 3 5 := ⟨by decide +kernel, rfl⟩
theorem dX6_offer_5 : zD cX6_offer 5 (.iload_n 2) 1 6 := ⟨by decide +kernel, rfl⟩
theorem dX6_offer_6 : zD cX6_offer 6 (.invokestatic 203) 3 9 := ⟨by decide +kernel, rfl⟩
theorem dX6_offer_9 : zD cX6_offer 9 (.aload_n 0) 1 10 := ⟨by decide +kernel, rfl⟩
theorem dX6_offer_10 : zD cX6_offer 10 (.getfield 36) 3 13 := ⟨by decide +kernel, rfl⟩
theorem dX6_offer_13 : zD cX6_offer 13 (.iload_n 1) 1 14 := ⟨by decide +kernel, rfl⟩
theorem dX6_offer_14 : zD cX6_offer 14 (.iload_n 2) 1 15 := ⟨by decide +kernel, rfl⟩
theorem dX6_offer_15 : zD cX6_offer 15 (.invokevirtual 218) 3 18 := ⟨by decide +kernel, rfl⟩
theorem dX6_offer_18 : zD cX6_offer 18 (.ifCond .ne 13) 3 21 := ⟨by decide +kernel, rfl⟩
theorem dX6_offer_21 : zD cX6_offer 21 (.new 78) 3 24 := ⟨by decide +kernel, rfl⟩
theorem dX6_offer_24 : zD cX6_offer 24 (.dup) 1 25 := ⟨by decide +kernel, rfl⟩
theorem dX6_offer_25 : zD cX6_offer 25 (.ldc 222) 2 27 := ⟨by decide +kernel, rfl⟩
theorem dX6_offer_27 : zD cX6_offer 27 (.invokespecial 82) 3 30 := ⟨by decide +kernel, rfl⟩
theorem dX6_offer_30 : zD cX6_offer 30 (.athrow) 1 31 := ⟨by decide +kernel, rfl⟩
theorem dX6_offer_31 : zD cX6_offer 31 (.aload_n 0) 1 32 := ⟨by decide +kernel, rfl⟩
theorem dX6_offer_32 : zD cX6_offer 32 (.invokevirtual 211) 3 35 := ⟨by decide +kernel, rfl⟩
theorem dX6_offer_35 : zD cX6_offer 35 (.aload_n 0) 1 36 := ⟨by decide +kernel, rfl⟩
theorem dX6_offer_36 : zD cX6_offer 36 (.getfield 36) 3 39 := ⟨by decide +kernel, rfl⟩
theorem dX6_offer_39 : zD cX6_offer 39 (.iload_n 1) 1 40 := ⟨by decide +kernel, rfl⟩
theorem dX6_offer_40 : zD cX6_offer 40 (.iload_n 2) 1 41 := ⟨by decide +kernel, rfl⟩
theorem dX6_offer_41 : zD cX6_offer 41 (.invokevirtual 224) 3 44 := ⟨by decide +kernel, rfl⟩
theorem dX6_offer_44 : zD cX6_offer 44 (.aload_n 0) 1 45 := ⟨by decide +kernel, rfl⟩
theorem dX6_offer_45 : zD cX6_offer 45 (.getfield 36) 3 48 := ⟨by decide +kernel, rfl⟩
theorem dX6_offer_48 : zD cX6_offer 48 (.invokevirtual 112) 3 51 := ⟨by decide +kernel, rfl⟩
theorem dX6_offer_51 : zD cX6_offer 51 (.ireturn) 1 52 := ⟨by decide +kernel, rfl⟩
theorem dX2_rankOf_0 : zD cX2_rankOf 0 (.aload_n 0) 1 1 := ⟨by decide +kernel, rfl⟩
theorem dX2_rankOf_1 : zD cX2_rankOf 1 (.getfield 19) 3 4 := ⟨by decide +kernel, rfl⟩
theorem dX2_rankOf_4 : zD cX2_rankOf 4 (.iload_n 1) 1 5 := ⟨by decide +kernel, rfl⟩
theorem dX2_rankOf_5 : zD cX2_rankOf 5 (.aaload) 1 6 := ⟨by decide +kernel, rfl⟩
theorem dX2_rankOf_6 : zD cX2_rankOf 6 (.iload_n 2) 1 7 := ⟨by decide +kernel, rfl⟩
theorem dX2_rankOf_7 : zD cX2_rankOf 7 (.iaload) 1 8 := ⟨by decide +kernel, rfl⟩
theorem dX2_rankOf_8 : zD cX2_rankOf 8 (.ireturn) 1 9 := ⟨by decide +kernel, rfl⟩
theorem dX0_sizeAfterStep_0 : zD cX0_sizeAfterStep 0 (.iload_n 2) 1 1 := ⟨by decide +kernel, rfl⟩
theorem dX0_sizeAfterStep_1 : zD cX0_sizeAfterStep 1 (.aload_n 0) 1 2 := ⟨by decide +kernel, rfl⟩
theorem dX0_sizeAfterStep_2 : zD cX0_sizeAfterStep 2 (.getfield 21) 3 5 := ⟨by decide +kernel, rfl⟩
theorem dX0_sizeAfterStep_5 : zD cX0_sizeAfterStep 5 (.iload_n 1) 1 6 := ⟨by decide +kernel, rfl⟩
theorem dX0_sizeAfterStep_6 : zD cX0_sizeAfterStep 6 (.iaload) 1 7 := ⟨by decide +kernel, rfl⟩
theorem dX0_sizeAfterStep_7 : zD cX0_sizeAfterStep 7 (.imul) 1 8 := ⟨by decide +kernel, rfl⟩
theorem dX0_sizeAfterStep_8 : zD cX0_sizeAfterStep 8 (.bipush 9) 2 10 := ⟨by decide +kernel, rfl⟩
theorem dX0_sizeAfterStep_10 : zD cX0_sizeAfterStep 10 (.iadd) 1 11 := ⟨by decide +kernel, rfl⟩
theorem dX0_sizeAfterStep_11 : zD cX0_sizeAfterStep 11 (.bipush 10) 2 13 := ⟨by decide +kernel, rfl⟩
theorem dX0_sizeAfterStep_13 : zD cX0_sizeAfterStep 13 (.idiv) 1 14 := ⟨by decide +kernel, rfl⟩
theorem dX0_sizeAfterStep_14 : zD cX0_sizeAfterStep 14 (.istore_n 3) 1 15 := ⟨by decide +kernel, rfl⟩
theorem dX0_sizeAfterStep_15 : zD cX0_sizeAfterStep 15 (.iload_n 3) 1 16 := ⟨by decide +kernel, rfl⟩
theorem dX0_sizeAfterStep_16 : zD cX0_sizeAfterStep 16 (.ldc 78) 2 18 := ⟨by decide +kernel, rfl⟩
theorem dX0_sizeAfterStep_18 : zD cX0_sizeAfterStep 18 (.if_icmp .le 8) 3 21 := ⟨by decide +kernel, rfl⟩
theorem dX0_sizeAfterStep_21 : zD cX0_sizeAfterStep 21 (.ldc 78) 2 23 := ⟨by decide +kernel, rfl⟩
theorem dX0_sizeAfterStep_23 : zD cX0_sizeAfterStep 23 (.goto 4) 3 26 := ⟨by decide +kernel, rfl⟩
theorem dX0_sizeAfterStep_26 : zD cX0_sizeAfterStep 26 (.iload_n 3) 1 27 := ⟨by decide +kernel, rfl⟩
theorem dX0_sizeAfterStep_27 : zD cX0_sizeAfterStep 27 (.ireturn) 1 28 := ⟨by decide +kernel, rfl⟩
theorem dX2_sizeAtEnd_0 : zD cX2_sizeAtEnd 0 (.iload_n 3) 1 1 := ⟨by decide +kernel, rfl⟩
theorem dX2_sizeAtEnd_1 : zD cX2_sizeAtEnd 1 (.istore 5) 2 3 := ⟨by decide +kernel, rfl⟩
theorem dX2_sizeAtEnd_3 : zD cX2_sizeAtEnd 3 (.iload_n 1) 1 4 := ⟨by decide +kernel, rfl⟩
theorem dX2_sizeAtEnd_4 : zD cX2_sizeAtEnd 4 (.istore 6) 2 6 := ⟨by decide +kernel, rfl⟩
theorem dX2_sizeAtEnd_6 : zD cX2_sizeAtEnd 6 (.iconst 0) 1 7 := ⟨by decide +kernel, rfl⟩
theorem dX2_sizeAtEnd_7 : zD cX2_sizeAtEnd 7 (.istore 7) 2 9 := ⟨by decide +kernel, rfl⟩
theorem dX2_sizeAtEnd_9 : zD cX2_sizeAtEnd 9 (.iload 7) 2 11 := ⟨by decide +kernel, rfl⟩
theorem dX2_sizeAtEnd_11 : zD cX2_sizeAtEnd 11 (.bipush 8) 2 13 := ⟨by decide +kernel, rfl⟩
theorem dX2_sizeAtEnd_13 : zD cX2_sizeAtEnd 13 (.if_icmp .ge 56) 3 16 := ⟨by decide +kernel, rfl⟩
theorem dX2_sizeAtEnd_16 : zD cX2_sizeAtEnd 16 (.iload 6) 2 18 := ⟨by decide +kernel, rfl⟩
theorem dX2_sizeAtEnd_18 : zD cX2_sizeAtEnd 18 (.iload_n 2) 1 19 := ⟨by decide +kernel, rfl⟩
theorem dX2_sizeAtEnd_19 : zD cX2_sizeAtEnd 19 (.if_icmp .eq 50) 3 22 := ⟨by decide +kernel, rfl⟩
theorem dX2_sizeAtEnd_22 : zD cX2_sizeAtEnd 22 (.aload_n 0) 1 23 := ⟨by decide +kernel, rfl⟩
theorem dX2_sizeAtEnd_23 : zD cX2_sizeAtEnd 23 (.getfield 22) 3 26 := ⟨by decide +kernel, rfl⟩
theorem dX2_sizeAtEnd_26 : zD cX2_sizeAtEnd 26 (.iload 6) 2 28 := ⟨by decide +kernel, rfl⟩
theorem dX2_sizeAtEnd_28 : zD cX2_sizeAtEnd 28 (.aaload) 1 29 := ⟨by decide +kernel, rfl⟩
theorem dX2_sizeAtEnd_29 : zD cX2_sizeAtEnd 29 (.iload_n 2) 1 30 := ⟨by decide +kernel, rfl⟩
theorem dX2_sizeAtEnd_30 : zD cX2_sizeAtEnd 30 (.iaload) 1 31 := ⟨by decide +kernel, rfl⟩
theorem dX2_sizeAtEnd_31 : zD cX2_sizeAtEnd 31 (.istore 8) 2 33 := ⟨by decide +kernel, rfl⟩
theorem dX2_sizeAtEnd_33 : zD cX2_sizeAtEnd 33 (.iload 8) 2 35 := ⟨by decide +kernel, rfl⟩
theorem dX2_sizeAtEnd_35 : zD cX2_sizeAtEnd 35 (.iconst (-1)) 1 36 := ⟨by decide +kernel, rfl⟩
theorem dX2_sizeAtEnd_36 : zD cX2_sizeAtEnd 36 (.if_icmp .ne 6) 3 39 := ⟨by decide +kernel, rfl⟩
theorem dX2_sizeAtEnd_39 : zD cX2_sizeAtEnd 39 (.bipush (-9)) 2 41 := ⟨by decide +kernel, rfl⟩
theorem dX2_sizeAtEnd_41 : zD cX2_sizeAtEnd 41 (.ireturn) 1 42 := ⟨by decide +kernel, rfl⟩
theorem dX2_sizeAtEnd_42 : zD cX2_sizeAtEnd 42 (.aload 4) 2 44 := ⟨by decide +kernel, rfl⟩
theorem dX2_sizeAtEnd_44 : zD cX2_sizeAtEnd 44 (.iload 8) 2 46 := ⟨by decide +kernel, rfl⟩
theorem dX2_sizeAtEnd_46 : zD cX2_sizeAtEnd 46 (.iload 5) 2 48 := ⟨by decide +kernel, rfl⟩
theorem dX2_sizeAtEnd_48 : zD cX2_sizeAtEnd 48 (.invokevirtual 65) 3 51 := ⟨by decide +kernel, rfl⟩
theorem dX2_sizeAtEnd_51 : zD cX2_sizeAtEnd 51 (.istore 5) 2 53 := ⟨by decide +kernel, rfl⟩
theorem dX2_sizeAtEnd_53 : zD cX2_sizeAtEnd 53 (.aload 4) 2 55 := ⟨by decide +kernel, rfl⟩
theorem dX2_sizeAtEnd_55 : zD cX2_sizeAtEnd 55 (.getfield 38) 3 58 := ⟨by decide +kernel, rfl⟩
theorem dX2_sizeAtEnd_58 : zD cX2_sizeAtEnd 58 (.iload 8) 2 60 := ⟨by decide +kernel, rfl⟩
theorem dX2_sizeAtEnd_60 : zD cX2_sizeAtEnd 60 (.iaload) 1 61 := ⟨by decide +kernel, rfl⟩
theorem dX2_sizeAtEnd_61 : zD cX2_sizeAtEnd 61 (.istore 6) 2 63 := ⟨by decide +kernel, rfl⟩
theorem dX2_sizeAtEnd_63 : zD cX2_sizeAtEnd 63 (.iinc 7 1) 3 66 := ⟨by decide +kernel, rfl⟩
theorem dX2_sizeAtEnd_66 : zD cX2_sizeAtEnd 66 (.goto (-57)) 3 69 := ⟨by decide +kernel, rfl⟩
theorem dX2_sizeAtEnd_69 : zD cX2_sizeAtEnd 69 (.iload 5) 2 71 := ⟨by decide +kernel, rfl⟩
theorem dX2_sizeAtEnd_71 : zD cX2_sizeAtEnd 71 (.ireturn) 1 72 := ⟨by decide +kernel, rfl⟩
theorem dX2_costOf_0 : zD cX2_costOf 0 (.aload_n 0) 1 1 := ⟨by decide +kernel, rfl⟩
theorem dX2_costOf_1 : zD cX2_costOf 1 (.iload_n 1) 1 2 := ⟨by decide +kernel, rfl⟩
theorem dX2_costOf_2 : zD cX2_costOf 2 (.iload_n 2) 1 3 := ⟨by decide +kernel, rfl⟩
theorem dX2_costOf_3 : zD cX2_costOf 3 (.invokevirtual 55) 3 6 := ⟨by decide +kernel, rfl⟩
theorem dX2_costOf_6 : zD cX2_costOf 6 (.ifCond .eq 17) 3 9 := ⟨by decide +kernel, rfl⟩
theorem dX2_costOf_9 : zD cX2_costOf 9 (.aload_n 0) 1 10 := ⟨by decide +kernel, rfl⟩
theorem dX2_costOf_10 : zD cX2_costOf 10 (.getfield 19) 3 13 := ⟨by decide +kernel, rfl⟩
theorem dX2_costOf_13 : zD cX2_costOf 13 (.iload_n 1) 1 14 := ⟨by decide +kernel, rfl⟩
theorem dX2_costOf_14 : zD cX2_costOf 14 (.aaload) 1 15 := ⟨by decide +kernel, rfl⟩
theorem dX2_costOf_15 : zD cX2_costOf 15 (.iload_n 2) 1 16 := ⟨by decide +kernel, rfl⟩
theorem dX2_costOf_16 : zD cX2_costOf 16 (.iaload) 1 17 := ⟨by decide +kernel, rfl⟩
theorem dX2_costOf_17 : zD cX2_costOf 17 (.bipush 8) 2 19 := ⟨by decide +kernel, rfl⟩
theorem dX2_costOf_19 : zD cX2_costOf 19 (.idiv) 1 20 := ⟨by decide +kernel, rfl⟩
theorem dX2_costOf_20 : zD cX2_costOf 20 (.goto 5) 3 23 := ⟨by decide +kernel, rfl⟩
theorem dX2_costOf_23 : zD cX2_costOf 23 (.bipush (-9)) 2 25 := ⟨by decide +kernel, rfl⟩
theorem dX2_costOf_25 : zD cX2_costOf 25 (.ireturn) 1 26 := ⟨by decide +kernel, rfl⟩
theorem dX2_lossOf_0 : zD cX2_lossOf 0 (.iconst 0) 1 1 := ⟨by decide +kernel, rfl⟩
theorem dX2_lossOf_1 : zD cX2_lossOf 1 (.istore 4) 2 3 := ⟨by decide +kernel, rfl⟩
theorem dX2_lossOf_3 : zD cX2_lossOf 3 (.iload_n 1) 1 4 := ⟨by decide +kernel, rfl⟩
theorem dX2_lossOf_4 : zD cX2_lossOf 4 (.istore 5) 2 6 := ⟨by decide +kernel, rfl⟩
theorem dX2_lossOf_6 : zD cX2_lossOf 6 (.iconst 0) 1 7 := ⟨by decide +kernel, rfl⟩
theorem dX2_lossOf_7 : zD cX2_lossOf 7 (.istore 6) 2 9 := ⟨by decide +kernel, rfl⟩
theorem dX2_lossOf_9 : zD cX2_lossOf 9 (.iload 6) 2 11 := ⟨by decide +kernel, rfl⟩
theorem dX2_lossOf_11 : zD cX2_lossOf 11 (.bipush 8) 2 13 := ⟨by decide +kernel, rfl⟩
theorem dX2_lossOf_13 : zD cX2_lossOf 13 (.if_icmp .ge 56) 3 16 := ⟨by decide +kernel, rfl⟩
theorem dX2_lossOf_16 : zD cX2_lossOf 16 (.iload 5) 2 18 := ⟨by decide +kernel, rfl⟩
theorem dX2_lossOf_18 : zD cX2_lossOf 18 (.iload_n 2) 1 19 := ⟨by decide +kernel, rfl⟩
theorem dX2_lossOf_19 : zD cX2_lossOf 19 (.if_icmp .eq 50) 3 22 := ⟨by decide +kernel, rfl⟩
theorem dX2_lossOf_22 : zD cX2_lossOf 22 (.aload_n 0) 1 23 := ⟨by decide +kernel, rfl⟩
theorem dX2_lossOf_23 : zD cX2_lossOf 23 (.getfield 22) 3 26 := ⟨by decide +kernel, rfl⟩
theorem dX2_lossOf_26 : zD cX2_lossOf 26 (.iload 5) 2 28 := ⟨by decide +kernel, rfl⟩
theorem dX2_lossOf_28 : zD cX2_lossOf 28 (.aaload) 1 29 := ⟨by decide +kernel, rfl⟩
theorem dX2_lossOf_29 : zD cX2_lossOf 29 (.iload_n 2) 1 30 := ⟨by decide +kernel, rfl⟩
theorem dX2_lossOf_30 : zD cX2_lossOf 30 (.iaload) 1 31 := ⟨by decide +kernel, rfl⟩
theorem dX2_lossOf_31 : zD cX2_lossOf 31 (.istore 7) 2 33 := ⟨by decide +kernel, rfl⟩
theorem dX2_lossOf_33 : zD cX2_lossOf 33 (.iload 7) 2 35 := ⟨by decide +kernel, rfl⟩
theorem dX2_lossOf_35 : zD cX2_lossOf 35 (.iconst (-1)) 1 36 := ⟨by decide +kernel, rfl⟩
theorem dX2_lossOf_36 : zD cX2_lossOf 36 (.if_icmp .ne 6) 3 39 := ⟨by decide +kernel, rfl⟩
theorem dX2_lossOf_39 : zD cX2_lossOf 39 (.bipush (-9)) 2 41 := ⟨by decide +kernel, rfl⟩
theorem dX2_lossOf_41 : zD cX2_lossOf 41 (.ireturn) 1 42 := ⟨by decide +kernel, rfl⟩
theorem dX2_lossOf_42 : zD cX2_lossOf 42 (.iload 4) 2 44 := ⟨by decide +kernel, rfl⟩
theorem dX2_lossOf_44 : zD cX2_lossOf 44 (.aload_n 3) 1 45 := ⟨by decide +kernel, rfl⟩
theorem dX2_lossOf_45 : zD cX2_lossOf 45 (.getfield 62) 3 48 := ⟨by decide +kernel, rfl⟩
theorem dX2_lossOf_48 : zD cX2_lossOf 48 (.iload 7) 2 50 := ⟨by decide +kernel, rfl⟩
theorem dX2_lossOf_50 : zD cX2_lossOf 50 (.iaload) 1 51 := ⟨by decide +kernel, rfl⟩
theorem dX2_lossOf_51 : zD cX2_lossOf 51 (.iadd) 1 52 := ⟨by decide +kernel, rfl⟩
theorem dX2_lossOf_52 : zD cX2_lossOf 52 (.istore 4) 2 54 := ⟨by decide +kernel, rfl⟩
theorem dX2_lossOf_54 : zD cX2_lossOf 54 (.aload_n 3) 1 55 := ⟨by decide +kernel, rfl⟩
theorem dX2_lossOf_55 : zD cX2_lossOf 55 (.getfield 38) 3 58 := ⟨by decide +kernel, rfl⟩
theorem dX2_lossOf_58 : zD cX2_lossOf 58 (.iload 7) 2 60 := ⟨by decide +kernel, rfl⟩
theorem dX2_lossOf_60 : zD cX2_lossOf 60 (.iaload) 1 61 := ⟨by decide +kernel, rfl⟩
theorem dX2_lossOf_61 : zD cX2_lossOf 61 (.istore 5) 2 63 := ⟨by decide +kernel, rfl⟩
theorem dX2_lossOf_63 : zD cX2_lossOf 63 (.iinc 6 1) 3 66 := ⟨by decide +kernel, rfl⟩
theorem dX2_lossOf_66 : zD cX2_lossOf 66 (.goto (-57)) 3 69 := ⟨by decide +kernel, rfl⟩
theorem dX2_lossOf_69 : zD cX2_lossOf 69 (.iload 4) 2 71 := ⟨by decide +kernel, rfl⟩
theorem dX2_lossOf_71 : zD cX2_lossOf 71 (.ireturn) 1 72 := ⟨by decide +kernel, rfl⟩
theorem dX5_search_0 : zD cX5_search 0 (.ldc 9) 2 2 := ⟨by decide +kernel, rfl⟩
theorem dX5_search_2 : zD cX5_search 2 (.istore 5) 2 4 := ⟨by decide +kernel, rfl⟩
theorem dX5_search_4 : zD cX5_search 4 (.iconst 0) 1 5 := ⟨by decide +kernel, rfl⟩
theorem dX5_search_5 : zD cX5_search 5 (.istore 6) 2 7 := ⟨by decide +kernel, rfl⟩
theorem dX5_search_7 : zD cX5_search 7 (.iload 6) 2 9 := ⟨by decide +kernel, rfl⟩
theorem dX5_search_9 : zD cX5_search 9 (.aload_n 3) 1 10 := ⟨by decide +kernel, rfl⟩
theorem dX5_search_10 : zD cX5_search 10 (.getfield 10) 3 13 := ⟨by decide +kernel, rfl⟩
theorem dX5_search_13 : zD cX5_search 13 (.if_icmp .ge 114) 3 16 := ⟨by decide +kernel, rfl⟩
theorem dX5_search_16 : zD cX5_search 16 (.iconst 0) 1 17 := ⟨by decide +kernel, rfl⟩
theorem dX5_search_17 : zD cX5_search 17 (.istore 7) 2 19 := ⟨by decide +kernel, rfl⟩
theorem dX5_search_19 : zD cX5_search 19 (.iload 7) 2 21 := ⟨by decide +kernel, rfl⟩
theorem dX5_search_21 : zD cX5_search 21 (.aload_n 3) 1 22 := ⟨by decide +kernel, rfl⟩
theorem dX5_search_22 : zD cX5_search 22 (.getfield 10) 3 25 := ⟨by decide +kernel, rfl⟩
theorem dX5_search_25 : zD cX5_search 25 (.if_icmp .ge 96) 3 28 := ⟨by decide +kernel, rfl⟩
theorem dX5_search_28 : zD cX5_search 28 (.aload_n 3) 1 29 := ⟨by decide +kernel, rfl⟩
theorem dX5_search_29 : zD cX5_search 29 (.getfield 16) 3 32 := ⟨by decide +kernel, rfl⟩
theorem dX5_search_32 : zD cX5_search 32 (.iload_n 2) 1 33 := ⟨by decide +kernel, rfl⟩
theorem dX5_search_33 : zD cX5_search 33 (.iaload) 1 34 := ⟨by decide +kernel, rfl⟩
theorem dX5_search_34 : zD cX5_search 34 (.iload 6) 2 36 := ⟨by decide +kernel, rfl⟩
theorem dX5_search_36 : zD cX5_search 36 (.ishr) 1 37 := ⟨by decide +kernel, rfl⟩
theorem dX5_search_37 : zD cX5_search 37 (.iconst 1) 1 38 := ⟨by decide +kernel, rfl⟩
theorem dX5_search_38 : zD cX5_search 38 (.iand) 1 39 := ⟨by decide +kernel, rfl⟩
theorem dX5_search_39 : zD cX5_search 39 (.iconst 1) 1 40 := ⟨by decide +kernel, rfl⟩
theorem dX5_search_40 : zD cX5_search 40 (.if_icmp .ne 75) 3 43 := ⟨by decide +kernel, rfl⟩
theorem dX5_search_43 : zD cX5_search 43 (.aload_n 1) 1 44 := ⟨by decide +kernel, rfl⟩
theorem dX5_search_44 : zD cX5_search 44 (.iload 7) 2 46 := ⟨by decide +kernel, rfl⟩
theorem dX5_search_46 : zD cX5_search 46 (.invokevirtual 20) 3 49 := ⟨by decide +kernel, rfl⟩
theorem dX5_search_49 : zD cX5_search 49 (.ifCond .eq 66) 3 52 := ⟨by decide +kernel, rfl⟩
theorem dX5_search_52 : zD cX5_search 52 (.aload 4) 2 54 := ⟨by decide +kernel, rfl⟩
theorem dX5_search_54 : zD cX5_search 54 (.iload 7) 2 56 := ⟨by decide +kernel, rfl⟩
theorem dX5_search_56 : zD cX5_search 56 (.iload 6) 2 58 := ⟨by decide +kernel, rfl⟩
theorem dX5_search_58 : zD cX5_search 58 (.invokevirtual 26) 3 61 := ⟨by decide +kernel, rfl⟩
theorem dX5_search_61 : zD cX5_search 61 (.iload 5) 2 63 := ⟨by decide +kernel, rfl⟩
theorem dX5_search_63 : zD cX5_search 63 (.if_icmp .ge 52) 3 66 := ⟨by decide +kernel, rfl⟩
theorem dX5_search_66 : zD cX5_search 66 (.aload 4) 2 68 := ⟨by decide +kernel, rfl⟩
theorem dX5_search_68 : zD cX5_search 68 (.iload 7) 2 70 := ⟨by decide +kernel, rfl⟩
theorem dX5_search_70 : zD cX5_search 70 (.iload 6) 2 72 := ⟨by decide +kernel, rfl⟩
theorem dX5_search_72 : zD cX5_search 72 (.aload_n 1) 1 73 := ⟨by decide +kernel, rfl⟩
theorem dX5_search_73 : zD cX5_search 73 (.getfield 30) 3 76 := ⟨by decide +kernel, rfl⟩
theorem dX5_search_76 : zD cX5_search 76 (.iload 7) 2 78 := ⟨by decide +kernel, rfl⟩
theorem dX5_search_78 : zD cX5_search 78 (.iaload) 1 79 := ⟨by decide +kernel, rfl⟩
theorem dX5_search_79 : zD cX5_search 79 (.aload_n 3) 1 80 := ⟨by decide +kernel, rfl⟩
theorem dX5_search_80 : zD cX5_search 80 (.invokevirtual 33) 3 83 := ⟨by decide +kernel, rfl⟩
theorem dX5_search_83 : zD cX5_search 83 (.aload_n 3) 1 84 := ⟨by decide +kernel, rfl⟩
theorem dX5_search_84 : zD cX5_search 84 (.getfield 37) 3 87 := ⟨by decide +kernel, rfl⟩
theorem dX5_search_87 : zD cX5_search 87 (.iload_n 2) 1 88 := ⟨by decide +kernel, rfl⟩
theorem dX5_search_88 : zD cX5_search 88 (.iaload) 1 89 := ⟨by decide +kernel, rfl⟩
theorem dX5_search_89 : zD cX5_search 89 (.if_icmp .gt 26) 3 92 := ⟨by decide +kernel, rfl⟩
theorem dX5_search_92 : zD cX5_search 92 (.aload 4) 2 94 := ⟨by decide +kernel, rfl⟩
theorem dX5_search_94 : zD cX5_search 94 (.iload 7) 2 96 := ⟨by decide +kernel, rfl⟩
theorem dX5_search_96 : zD cX5_search 96 (.iload 6) 2 98 := ⟨by decide +kernel, rfl⟩
theorem dX5_search_98 : zD cX5_search 98 (.invokevirtual 26) 3 101 := ⟨by decide +kernel, rfl⟩
theorem dX5_search_101 : zD cX5_search 101 (.istore 5) 2 103 := ⟨by decide +kernel, rfl⟩
theorem dX5_search_103 : zD cX5_search 103 (.aload_n 0) 1 104 := ⟨by decide +kernel, rfl⟩
theorem dX5_search_104 : zD cX5_search 104 (.iload 7) 2 106 := ⟨by decide +kernel, rfl⟩
theorem dX5_search_106 : zD cX5_search 106 (.putfield 40) 3 109 := ⟨by decide +kernel, rfl⟩
theorem dX5_search_109 : zD cX5_search 109 (.aload_n 0) 1 110 := ⟨by decide +kernel, rfl⟩
theorem dX5_search_110 : zD cX5_search 110 (.iload 6) 2 112 := ⟨by decide +kernel, rfl⟩
theorem dX5_search_112 : zD cX5_search 112 (.putfield 45) 3 115 := ⟨by decide +kernel, rfl⟩
theorem dX5_search_115 : zD cX5_search 115 (.iinc 7 1) 3 118 := ⟨by decide +kernel, rfl⟩
theorem dX5_search_118 : zD cX5_search 118 (.goto (-99)) 3 121 := ⟨by decide +kernel, rfl⟩
theorem dX5_search_121 : zD cX5_search 121 (.iinc 6 1) 3 124 := ⟨by decide +kernel, rfl⟩
theorem dX5_search_124 : zD cX5_search 124 (.goto (-117)) 3 127 := ⟨by decide +kernel, rfl⟩
theorem dX5_search_127 : zD cX5_search 127 (.iload 5) 2 129 := ⟨by decide +kernel, rfl⟩
theorem dX5_search_129 : zD cX5_search 129 (.ldc 9) 2 131 := ⟨by decide +kernel, rfl⟩
theorem dX5_search_131 : zD cX5_search 131 (.if_icmp .ne 5) 3 134 := ⟨by decide +kernel, rfl⟩
theorem dX5_search_134 : zD cX5_search 134 (.iconst 0) 1 135 := ⟨by decide +kernel, rfl⟩
theorem dX5_search_135 : zD cX5_search 135 (.ireturn) 1 136 := ⟨by decide +kernel, rfl⟩
theorem dX5_search_136 : zD cX5_search 136 (.aload_n 0) 1 137 := ⟨by decide +kernel, rfl⟩
theorem dX5_search_137 : zD cX5_search 137 (.aload 4) 2 139 := ⟨by decide +kernel, rfl⟩
theorem dX5_search_139 : zD cX5_search 139 (.aload_n 0) 1 140 := ⟨by decide +kernel, rfl⟩
theorem dX5_search_140 : zD cX5_search 140 (.getfield 40) 3 143 := ⟨by decide +kernel, rfl⟩
theorem dX5_search_143 : zD cX5_search 143 (.aload_n 0) 1 144 := ⟨by decide +kernel, rfl⟩
theorem dX5_search_144 : zD cX5_search 144 (.getfield 45) 3 147 := ⟨by decide +kernel, rfl⟩
theorem dX5_search_147 : zD cX5_search 147 (.invokevirtual 48) 3 150 := ⟨by decide +kernel, rfl⟩
theorem dX5_search_150 : zD cX5_search 150 (.putfield 51) 3 153 := ⟨by decide +kernel, rfl⟩
theorem dX5_search_153 : zD cX5_search 153 (.aload_n 0) 1 154 := ⟨by decide +kernel, rfl⟩
theorem dX5_search_154 : zD cX5_search 154 (.aload 4) 2 156 := ⟨by decide +kernel, rfl⟩
theorem dX5_search_156 : zD cX5_search 156 (.aload_n 0) 1 157 := ⟨by decide +kernel, rfl⟩
theorem dX5_search_157 : zD cX5_search 157 (.getfield 40) 3 160 := ⟨by decide +kernel, rfl⟩
theorem dX5_search_160 : zD cX5_search 160 (.aload_n 0) 1 161 := ⟨by decide +kernel, rfl⟩
theorem dX5_search_161 : zD cX5_search 161 (.getfield 45) 3 164 := ⟨by decide +kernel, rfl⟩
theorem dX5_search_164 : zD cX5_search 164 (.aload_n 1) 1 165 := ⟨by decide +kernel, rfl⟩
theorem dX5_search_165 : zD cX5_search 165 (.getfield 30) 3 168 := ⟨by decide +kernel, rfl⟩
theorem dX5_search_168 : zD cX5_search 168 (.aload_n 0) 1 169 := ⟨by decide +kernel, rfl⟩
theorem dX5_search_169 : zD cX5_search 169 (.getfield 40) 3 172 := ⟨by decide +kernel, rfl⟩
theorem dX5_search_172 : zD cX5_search 172 (.iaload) 1 173 := ⟨by decide +kernel, rfl⟩
theorem dX5_search_173 : zD cX5_search 173 (.aload_n 3) 1 174 := ⟨by decide +kernel, rfl⟩
theorem dX5_search_174 : zD cX5_search 174 (.invokevirtual 33) 3 177 := ⟨by decide +kernel, rfl⟩
theorem dX5_search_177 : zD cX5_search 177 (.putfield 54) 3 180 := ⟨by decide +kernel, rfl⟩
theorem dX5_search_180 : zD cX5_search 180 (.aload_n 0) 1 181 := ⟨by decide +kernel, rfl⟩
theorem dX5_search_181 : zD cX5_search 181 (.aload_n 1) 1 182 := ⟨by decide +kernel, rfl⟩
theorem dX5_search_182 : zD cX5_search 182 (.getfield 57) 3 185 := ⟨by decide +kernel, rfl⟩
theorem dX5_search_185 : zD cX5_search 185 (.aload_n 0) 1 186 := ⟨by decide +kernel, rfl⟩
theorem dX5_search_186 : zD cX5_search 186 (.getfield 40) 3 189 := ⟨by decide +kernel, rfl⟩
theorem dX5_search_189 : zD cX5_search 189 (.iaload) 1 190 := ⟨by decide +kernel, rfl⟩
theorem dX5_search_190 : zD cX5_search 190 (.aload 4) 2 192 := ⟨by decide +kernel, rfl⟩
theorem dX5_search_192 : zD cX5_search 192 (.aload_n 0) 1 193 := ⟨by decide +kernel, rfl⟩
theorem dX5_search_193 : zD cX5_search 193 (.getfield 40) 3 196 := ⟨by decide +kernel, rfl⟩
theorem dX5_search_196 : zD cX5_search 196 (.aload_n 0) 1 197 := ⟨by decide +kernel, rfl⟩
theorem dX5_search_197 : zD cX5_search 197 (.getfield 45) 3 200 := ⟨by decide +kernel, rfl⟩
theorem dX5_search_200 : zD cX5_search 200 (.aload_n 3) 1 201 := ⟨by decide +kernel, rfl⟩
theorem dX5_search_201 : zD cX5_search 201 (.invokevirtual 60) 3 204 := ⟨by decide +kernel, rfl⟩
theorem dX5_search_204 : zD cX5_search 204 (.iadd) 1 205 := ⟨by decide +kernel, rfl⟩
theorem dX5_search_205 : zD cX5_search 205 (.putfield 64) 3 208 := ⟨by decide +kernel, rfl⟩
theorem dX5_search_208 : zD cX5_search 208 (.iconst 1) 1 209 := ⟨by decide +kernel, rfl⟩
theorem dX5_search_209 : zD cX5_search 209 (.ireturn) 1 210 := ⟨by decide +kernel, rfl⟩
theorem dX6_findWay_0 : zD cX6_findWay 0 (.aload_n 0) 1 1 := ⟨by decide +kernel, rfl⟩
theorem dX6_findWay_1 : zD cX6_findWay 1 (.getfield 29) 3 4 := ⟨by decide +kernel, rfl⟩
theorem dX6_findWay_4 : zD cX6_findWay 4 (.aload_n 1) 1 5 := ⟨by decide +kernel, rfl⟩
theorem dX6_findWay_5 : zD cX6_findWay 5 (.getfield 159) 3 8 := ⟨by decide +kernel, rfl⟩
theorem dX6_findWay_8 : zD cX6_findWay 8 (.iload_n 2) 1 9 := ⟨by decide +kernel, rfl⟩
theorem dX6_findWay_9 : zD cX6_findWay 9 (.aaload) 1 10 := ⟨by decide +kernel, rfl⟩
theorem dX6_findWay_10 : zD cX6_findWay 10 (.iload_n 3) 1 11 := ⟨by decide +kernel, rfl⟩
theorem dX6_findWay_11 : zD cX6_findWay 11 (.aload_n 0) 1 12 := ⟨by decide +kernel, rfl⟩
theorem dX6_findWay_12 : zD cX6_findWay 12 (.getfield 57) 3 15 := ⟨by decide +kernel, rfl⟩
theorem dX6_findWay_15 : zD cX6_findWay 15 (.aload_n 0) 1 16 := ⟨by decide +kernel, rfl⟩
theorem dX6_findWay_16 : zD cX6_findWay 16 (.getfield 19) 3 19 := ⟨by decide +kernel, rfl⟩
theorem dX6_findWay_19 : zD cX6_findWay 19 (.invokevirtual 380) 3 22 := ⟨by decide +kernel, rfl⟩
theorem dX6_findWay_22 : zD cX6_findWay 22 (.ireturn) 1 23 := ⟨by decide +kernel, rfl⟩
theorem dX3_useEntry_0 : zD cX3_useEntry 0 (.aload_n 0) 1 1 := ⟨by decide +kernel, rfl⟩
theorem dX3_useEntry_1 : zD cX3_useEntry 1 (.iload_n 1) 1 2 := ⟨by decide +kernel, rfl⟩
theorem dX3_useEntry_2 : zD cX3_useEntry 2 (.invokevirtual 58) 3 5 := ⟨by decide +kernel, rfl⟩
theorem dX3_useEntry_5 : zD cX3_useEntry 5 (.ifCond .ne 4) 3 8 := ⟨by decide +kernel, rfl⟩
theorem dX3_useEntry_8 : zD cX3_useEntry 8 (.return_) 1 9 := ⟨by decide +kernel, rfl⟩
theorem dX3_useEntry_9 : zD cX3_useEntry 9 (.aload_n 0) 1 10 := ⟨by decide +kernel, rfl⟩
theorem dX3_useEntry_10 : zD cX3_useEntry 10 (.getfield 11) 3 13 := ⟨by decide +kernel, rfl⟩
theorem dX3_useEntry_13 : zD cX3_useEntry 13 (.iload_n 1) 1 14 := ⟨by decide +kernel, rfl⟩
theorem dX3_useEntry_14 : zD cX3_useEntry 14 (.aaload) 1 15 := ⟨by decide +kernel, rfl⟩
theorem dX3_useEntry_15 : zD cX3_useEntry 15 (.astore_n 3) 1 16 := ⟨by decide +kernel, rfl⟩
theorem dX3_useEntry_16 : zD cX3_useEntry 16 (.aload_n 0) 1 17 := ⟨by decide +kernel, rfl⟩
theorem dX3_useEntry_17 : zD cX3_useEntry 17 (.dup) 1 18 := ⟨by decide +kernel, rfl⟩
theorem dX3_useEntry_18 : zD cX3_useEntry 18 (.getfield 26) 3 21 := ⟨by decide +kernel, rfl⟩
theorem dX3_useEntry_21 : zD cX3_useEntry 21 (.iconst 1) 1 22 := ⟨by decide +kernel, rfl⟩
theorem dX3_useEntry_22 : zD cX3_useEntry 22 (.iadd) 1 23 := ⟨by decide +kernel, rfl⟩
theorem dX3_useEntry_23 : zD cX3_useEntry 23 (.putfield 26) 3 26 := ⟨by decide +kernel, rfl⟩
theorem dX3_useEntry_26 : zD cX3_useEntry 26 (.aload_n 0) 1 27 := ⟨by decide +kernel, rfl⟩
theorem dX3_useEntry_27 : zD cX3_useEntry 27 (.dup) 1 28 := ⟨by decide +kernel, rfl⟩
theorem dX3_useEntry_28 : zD cX3_useEntry 28 (.getfield 29) 3 31 := ⟨by decide +kernel, rfl⟩
theorem dX3_useEntry_31 : zD cX3_useEntry 31 (.aload_n 2) 1 32 := ⟨by decide +kernel, rfl⟩
theorem dX3_useEntry_32 : zD cX3_useEntry 32 (.getfield 112) 3 35 := ⟨by decide +kernel, rfl⟩
theorem dX3_useEntry_35 : zD cX3_useEntry 35 (.iadd) 1 36 := ⟨by decide +kernel, rfl⟩
theorem dX3_useEntry_36 : zD cX3_useEntry 36 (.putfield 29) 3 39 := ⟨by decide +kernel, rfl⟩
theorem dX3_useEntry_39 : zD cX3_useEntry 39 (.aload_n 3) 1 40 := ⟨by decide +kernel, rfl⟩
theorem dX3_useEntry_40 : zD cX3_useEntry 40 (.dup) 1 41 := ⟨by decide +kernel, rfl⟩
theorem dX3_useEntry_41 : zD cX3_useEntry 41 (.getfield 116) 3 44 := ⟨by decide +kernel, rfl⟩
theorem dX3_useEntry_44 : zD cX3_useEntry 44 (.iconst 1) 1 45 := ⟨by decide +kernel, rfl⟩
theorem dX3_useEntry_45 : zD cX3_useEntry 45 (.iadd) 1 46 := ⟨by decide +kernel, rfl⟩
theorem dX3_useEntry_46 : zD cX3_useEntry 46 (.putfield 116) 3 49 := ⟨by decide +kernel, rfl⟩
theorem dX3_useEntry_49 : zD cX3_useEntry 49 (.aload_n 3) 1 50 := ⟨by decide +kernel, rfl⟩
theorem dX3_useEntry_50 : zD cX3_useEntry 50 (.aload_n 0) 1 51 := ⟨by decide +kernel, rfl⟩
theorem dX3_useEntry_51 : zD cX3_useEntry 51 (.getfield 26) 3 54 := ⟨by decide +kernel, rfl⟩
theorem dX3_useEntry_54 : zD cX3_useEntry 54 (.putfield 119) 3 57 := ⟨by decide +kernel, rfl⟩
theorem dX3_useEntry_57 : zD cX3_useEntry 57 (.aload_n 3) 1 58 := ⟨by decide +kernel, rfl⟩
theorem dX3_useEntry_58 : zD cX3_useEntry 58 (.aload_n 2) 1 59 := ⟨by decide +kernel, rfl⟩
theorem dX3_useEntry_59 : zD cX3_useEntry 59 (.getfield 122) 3 62 := ⟨by decide +kernel, rfl⟩
theorem dX3_useEntry_62 : zD cX3_useEntry 62 (.invokevirtual 96) 3 65 := ⟨by decide +kernel, rfl⟩
theorem dX3_useEntry_65 : zD cX3_useEntry 65 (.ifCond .ne 47) 3 68 := ⟨by decide +kernel, rfl⟩
theorem dX3_useEntry_68 : zD cX3_useEntry 68 (.aload_n 0) 1 69 := ⟨by decide +kernel, rfl⟩
theorem dX3_useEntry_69 : zD cX3_useEntry 69 (.iload_n 1) 1 70 := ⟨by decide +kernel, rfl⟩
theorem dX3_useEntry_70 : zD cX3_useEntry 70 (.iconst 1) 1 71 := ⟨by decide +kernel, rfl⟩
theorem dX3_useEntry_71 : zD cX3_useEntry 71 (.invokevirtual 73) 3 74 := ⟨by decide +kernel, rfl⟩
theorem dX3_useEntry_74 : zD cX3_useEntry 74 (.aload_n 2) 1 75 := ⟨by decide +kernel, rfl⟩
theorem dX3_useEntry_75 : zD cX3_useEntry 75 (.getfield 125) 3 78 := ⟨by decide +kernel, rfl⟩
theorem dX3_useEntry_78 : zD cX3_useEntry 78 (.iadd) 1 79 := ⟨by decide +kernel, rfl⟩
theorem dX3_useEntry_79 : zD cX3_useEntry 79 (.aload_n 0) 1 80 := ⟨by decide +kernel, rfl⟩
theorem dX3_useEntry_80 : zD cX3_useEntry 80 (.getfield 37) 3 83 := ⟨by decide +kernel, rfl⟩
theorem dX3_useEntry_83 : zD cX3_useEntry 83 (.if_icmp .gt 29) 3 86 := ⟨by decide +kernel, rfl⟩
theorem dX3_useEntry_86 : zD cX3_useEntry 86 (.aload_n 0) 1 87 := ⟨by decide +kernel, rfl⟩
theorem dX3_useEntry_87 : zD cX3_useEntry 87 (.aload_n 2) 1 88 := ⟨by decide +kernel, rfl⟩
theorem dX3_useEntry_88 : zD cX3_useEntry 88 (.getfield 125) 3 91 := ⟨by decide +kernel, rfl⟩
theorem dX3_useEntry_91 : zD cX3_useEntry 91 (.iload_n 1) 1 92 := ⟨by decide +kernel, rfl⟩
theorem dX3_useEntry_92 : zD cX3_useEntry 92 (.invokevirtual 85) 3 95 := ⟨by decide +kernel, rfl⟩
theorem dX3_useEntry_95 : zD cX3_useEntry 95 (.aload_n 3) 1 96 := ⟨by decide +kernel, rfl⟩
theorem dX3_useEntry_96 : zD cX3_useEntry 96 (.aload_n 2) 1 97 := ⟨by decide +kernel, rfl⟩
theorem dX3_useEntry_97 : zD cX3_useEntry 97 (.getfield 122) 3 100 := ⟨by decide +kernel, rfl⟩
theorem dX3_useEntry_100 : zD cX3_useEntry 100 (.aload_n 2) 1 101 := ⟨by decide +kernel, rfl⟩
theorem dX3_useEntry_101 : zD cX3_useEntry 101 (.getfield 125) 3 104 := ⟨by decide +kernel, rfl⟩
theorem dX3_useEntry_104 : zD cX3_useEntry 104 (.aload_n 2) 1 105 := ⟨by decide +kernel, rfl⟩
theorem dX3_useEntry_105 : zD cX3_useEntry 105 (.getfield 126) 3 108 := ⟨by decide +kernel, rfl⟩
theorem dX3_useEntry_108 : zD cX3_useEntry 108 (.iconst 1) 1 109 := ⟨by decide +kernel, rfl⟩
theorem dX3_useEntry_109 : zD cX3_useEntry 109 (.invokevirtual 108) 3 112 := ⟨by decide +kernel, rfl⟩
theorem dX3_useEntry_112 : zD cX3_useEntry 112 (.aload_n 0) 1 113 := ⟨by decide +kernel, rfl⟩
theorem dX3_useEntry_113 : zD cX3_useEntry 113 (.iload_n 1) 1 114 := ⟨by decide +kernel, rfl⟩
theorem dX3_useEntry_114 : zD cX3_useEntry 114 (.invokevirtual 93) 3 117 := ⟨by decide +kernel, rfl⟩
theorem dX3_useEntry_117 : zD cX3_useEntry 117 (.return_) 1 118 := ⟨by decide +kernel, rfl⟩
theorem dX6_paste_0 : zD cX6_paste 0 (.aload_n 0) 1 1 := ⟨by decide +kernel, rfl⟩
theorem dX6_paste_1 : zD cX6_paste 1 (.iload_n 1) 1 2 := ⟨by decide +kernel, rfl⟩
theorem dX6_paste_2 : zD cX6_paste 2 (.invokevirtual 156) 3 5 := ⟨by decide +kernel, rfl⟩
theorem dX6_paste_5 : zD cX6_paste 5 (.aload_n 0) 1 6 := ⟨by decide +kernel, rfl⟩
theorem dX6_paste_6 : zD cX6_paste 6 (.iload_n 2) 1 7 := ⟨by decide +kernel, rfl⟩
theorem dX6_paste_7 : zD cX6_paste 7 (.invokevirtual 145) 3 10 := ⟨by decide +kernel, rfl⟩
theorem dX6_paste_10 : zD cX6_paste 10 (.aload_n 0) 1 11 := ⟨by decide +kernel, rfl⟩
theorem dX6_paste_11 : zD cX6_paste 11 (.aload_n 0) 1 12 := ⟨by decide +kernel, rfl⟩
theorem dX6_paste_12 : zD cX6_paste 12 (.getfield 36) 3 15 := ⟨by decide +kernel, rfl⟩
theorem dX6_paste_15 : zD cX6_paste 15 (.iload_n 1) 1 16 := ⟨by decide +kernel, rfl⟩
theorem dX6_paste_16 : zD cX6_paste 16 (.iload_n 2) 1 17 := ⟨by decide +kernel, rfl⟩
theorem dX6_paste_17 : zD cX6_paste 17 (.invokevirtual 227) 3 20 := ⟨by decide +kernel, rfl⟩
theorem dX6_paste_20 : zD cX6_paste 20 (.ifCond .ne 13) 3 23 := ⟨by decide +kernel, rfl⟩
theorem dX6_paste_23 : zD cX6_paste 23 (.new 78) 3 26 := ⟨by decide +kernel, rfl⟩
theorem dX6_paste_26 : zD cX6_paste 26 (.dup) 1 27 := ⟨by decide +kernel, rfl⟩
theorem dX6_paste_27 : zD cX6_paste 27 (.ldc 231) 2 29 := ⟨by decide +kernel, rfl⟩
theorem dX6_paste_29 : zD cX6_paste 29 (.invokespecial 82) 3 32 := ⟨by decide +kernel, rfl⟩
theorem dX6_paste_32 : zD cX6_paste 32 (.athrow) 1 33 := ⟨by decide +kernel, rfl⟩
theorem dX6_paste_33 : zD cX6_paste 33 (.aload_n 0) 1 34 := ⟨by decide +kernel, rfl⟩
theorem dX6_paste_34 : zD cX6_paste 34 (.invokevirtual 211) 3 37 := ⟨by decide +kernel, rfl⟩
theorem dX6_paste_37 : zD cX6_paste 37 (.aload_n 0) 1 38 := ⟨by decide +kernel, rfl⟩
theorem dX6_paste_38 : zD cX6_paste 38 (.getfield 36) 3 41 := ⟨by decide +kernel, rfl⟩
theorem dX6_paste_41 : zD cX6_paste 41 (.iload_n 1) 1 42 := ⟨by decide +kernel, rfl⟩
theorem dX6_paste_42 : zD cX6_paste 42 (.aload_n 0) 1 43 := ⟨by decide +kernel, rfl⟩
theorem dX6_paste_43 : zD cX6_paste 43 (.getfield 29) 3 46 := ⟨by decide +kernel, rfl⟩
theorem dX6_paste_46 : zD cX6_paste 46 (.invokevirtual 233) 3 49 := ⟨by decide +kernel, rfl⟩
theorem dX6_paste_49 : zD cX6_paste 49 (.aload_n 0) 1 50 := ⟨by decide +kernel, rfl⟩
theorem dX6_paste_50 : zD cX6_paste 50 (.getfield 29) 3 53 := ⟨by decide +kernel, rfl⟩
theorem dX6_paste_53 : zD cX6_paste 53 (.getfield 237) 3 56 := ⟨by decide +kernel, rfl⟩
theorem dX6_paste_56 : zD cX6_paste 56 (.ireturn) 1 57 := ⟨by decide +kernel, rfl⟩
theorem dX3_switchPin_0 : zD cX3_switchPin 0 (.aload_n 0) 1 1 := ⟨by decide +kernel, rfl⟩
theorem dX3_switchPin_1 : zD cX3_switchPin 1 (.iload_n 1) 1 2 := ⟨by decide +kernel, rfl⟩
theorem dX3_switchPin_2 : zD cX3_switchPin 2 (.invokevirtual 58) 3 5 := ⟨by decide +kernel, rfl⟩
theorem dX3_switchPin_5 : zD cX3_switchPin 5 (.ifCond .eq 29) 3 8 := ⟨by decide +kernel, rfl⟩
theorem dX3_switchPin_8 : zD cX3_switchPin 8 (.aload_n 0) 1 9 := ⟨by decide +kernel, rfl⟩
theorem dX3_switchPin_9 : zD cX3_switchPin 9 (.getfield 11) 3 12 := ⟨by decide +kernel, rfl⟩
theorem dX3_switchPin_12 : zD cX3_switchPin 12 (.iload_n 1) 1 13 := ⟨by decide +kernel, rfl⟩
theorem dX3_switchPin_13 : zD cX3_switchPin 13 (.aaload) 1 14 := ⟨by decide +kernel, rfl⟩
theorem dX3_switchPin_14 : zD cX3_switchPin 14 (.aload_n 0) 1 15 := ⟨by decide +kernel, rfl⟩
theorem dX3_switchPin_15 : zD cX3_switchPin 15 (.getfield 11) 3 18 := ⟨by decide +kernel, rfl⟩
theorem dX3_switchPin_18 : zD cX3_switchPin 18 (.iload_n 1) 1 19 := ⟨by decide +kernel, rfl⟩
theorem dX3_switchPin_19 : zD cX3_switchPin 19 (.aaload) 1 20 := ⟨by decide +kernel, rfl⟩
theorem dX3_switchPin_20 : zD cX3_switchPin 20 (.getfield 54) 3 23 := ⟨by decide +kernel, rfl⟩
theorem dX3_switchPin_23 : zD cX3_switchPin 23 (.ifCond .ne 7) 3 26 := ⟨by decide +kernel, rfl⟩
theorem dX3_switchPin_26 : zD cX3_switchPin 26 (.iconst 1) 1 27 := ⟨by decide +kernel, rfl⟩
theorem dX3_switchPin_27 : zD cX3_switchPin 27 (.goto 4) 3 30 := ⟨by decide +kernel, rfl⟩
theorem dX3_switchPin_30 : zD cX3_switchPin 30 (.iconst 0) 1 31 := ⟨by decide +kernel, rfl⟩
theorem dX3_switchPin_31 : zD cX3_switchPin 31 (.putfield 54) 3 34 := ⟨by decide +kernel, rfl⟩
theorem dX3_switchPin_34 : zD cX3_switchPin 34 (.return_) 1 35 := ⟨by decide +kernel, rfl⟩
theorem dX6_togglePin_0 : zD cX6_togglePin 0 (.aload_n 0) 1 1 := ⟨by decide +kernel, rfl⟩
theorem dX6_togglePin_1 : zD cX6_togglePin 1 (.iload_n 1) 1 2 := ⟨by decide +kernel, rfl⟩
theorem dX6_togglePin_2 : zD cX6_togglePin 2 (.invokevirtual 156) 3 5 := ⟨by decide +kernel, rfl⟩
theorem dX6_togglePin_5 : zD cX6_togglePin 5 (.aload_n 0) 1 6 := ⟨by decide +kernel, rfl⟩
theorem dX6_togglePin_6 : zD cX6_togglePin 6 (.invokevirtual 211) 3 9 := ⟨by decide +kernel, rfl⟩
theorem dX6_togglePin_9 : zD cX6_togglePin 9 (.aload_n 0) 1 10 := ⟨by decide +kernel, rfl⟩
theorem dX6_togglePin_10 : zD cX6_togglePin 10 (.getfield 36) 3 13 := ⟨by decide +kernel, rfl⟩
theorem dX6_togglePin_13 : zD cX6_togglePin 13 (.iload_n 1) 1 14 := ⟨by decide +kernel, rfl⟩
theorem dX6_togglePin_14 : zD cX6_togglePin 14 (.invokevirtual 240) 3 17 := ⟨by decide +kernel, rfl⟩
theorem dX6_togglePin_17 : zD cX6_togglePin 17 (.aload_n 0) 1 18 := ⟨by decide +kernel, rfl⟩
theorem dX6_togglePin_18 : zD cX6_togglePin 18 (.getfield 36) 3 21 := ⟨by decide +kernel, rfl⟩
theorem dX6_togglePin_21 : zD cX6_togglePin 21 (.invokevirtual 243) 3 24 := ⟨by decide +kernel, rfl⟩
theorem dX6_togglePin_24 : zD cX6_togglePin 24 (.ireturn) 1 25 := ⟨by decide +kernel, rfl⟩
theorem dX6_remove_0 : zD cX6_remove 0 (.aload_n 0) 1 1 := ⟨by decide +kernel, rfl⟩
theorem dX6_remove_1 : zD cX6_remove 1 (.iload_n 1) 1 2 := ⟨by decide +kernel, rfl⟩
theorem dX6_remove_2 : zD cX6_remove 2 (.invokevirtual 156) 3 5 := ⟨by decide +kernel, rfl⟩
theorem dX6_remove_5 : zD cX6_remove 5 (.aload_n 0) 1 6 := ⟨by decide +kernel, rfl⟩
theorem dX6_remove_6 : zD cX6_remove 6 (.invokevirtual 211) 3 9 := ⟨by decide +kernel, rfl⟩
theorem dX6_remove_9 : zD cX6_remove 9 (.aload_n 0) 1 10 := ⟨by decide +kernel, rfl⟩
theorem dX6_remove_10 : zD cX6_remove 10 (.getfield 36) 3 13 := ⟨by decide +kernel, rfl⟩
theorem dX6_remove_13 : zD cX6_remove 13 (.getfield 159) 3 16 := ⟨by decide +kernel, rfl⟩
theorem dX6_remove_16 : zD cX6_remove 16 (.iload_n 1) 1 17 := ⟨by decide +kernel, rfl⟩
theorem dX6_remove_17 : zD cX6_remove 17 (.aaload) 1 18 := ⟨by decide +kernel, rfl⟩
theorem dX6_remove_18 : zD cX6_remove 18 (.getfield 163) 3 21 := ⟨by decide +kernel, rfl⟩
theorem dX6_remove_21 : zD cX6_remove 21 (.istore_n 2) 1 22 := ⟨by decide +kernel, rfl⟩
theorem dX6_remove_22 : zD cX6_remove 22 (.aload_n 0) 1 23 := ⟨by decide +kernel, rfl⟩
theorem dX6_remove_23 : zD cX6_remove 23 (.getfield 36) 3 26 := ⟨by decide +kernel, rfl⟩
theorem dX6_remove_26 : zD cX6_remove 26 (.iload_n 1) 1 27 := ⟨by decide +kernel, rfl⟩
theorem dX6_remove_27 : zD cX6_remove 27 (.invokevirtual 246) 3 30 := ⟨by decide +kernel, rfl⟩
theorem dX6_remove_30 : zD cX6_remove 30 (.iload_n 2) 1 31 := ⟨by decide +kernel, rfl⟩
theorem dX6_remove_31 : zD cX6_remove 31 (.ireturn) 1 32 := ⟨by decide +kernel, rfl⟩
theorem dX6_setBudget_0 : zD cX6_setBudget 0 (.iload_n 1) 1 1 := ⟨by decide +kernel, rfl⟩
theorem dX6_setBudget_1 : zD cX6_setBudget 1 (.iconst 1) 1 2 := ⟨by decide +kernel, rfl⟩
theorem dX6_setBudget_2 : zD cX6_setBudget 2 (.if_icmp .lt 9) 3 5 := ⟨by decide +kernel, rfl⟩
theorem dX6_setBudget_5 : zD cX6_setBudget 5 (.iload_n 1) 1 6 := ⟨by decide +kernel, rfl⟩
theorem dX6_setBudget_6 : zD cX6_setBudget 6 (.ldc 249) 2 8 := ⟨by decide +kernel, rfl⟩
theorem dX6_setBudget_8 : zD cX6_setBudget 8 (.if_icmp .le 13) 3 11 := ⟨by decide +kernel, rfl⟩
theorem dX6_setBudget_11 : zD cX6_setBudget 11 (.new 67) 3 14 := ⟨by decide +kernel, rfl⟩
theorem dX6_setBudget_14 : zD cX6_setBudget 14 (.dup) 1 15 := ⟨by decide +kernel, rfl⟩
theorem dX6_setBudget_15 : zD cX6_setBudget 15 (.ldc 250) 2 17 := ⟨by decide +kernel, rfl⟩
theorem dX6_setBudget_17 : zD cX6_setBudget 17 (.invokespecial 71) 3 20 := ⟨by decide +kernel, rfl⟩
theorem dX6_setBudget_20 : zD cX6_setBudget 20 (.athrow) 1 21 := ⟨by decide +kernel, rfl⟩
theorem dX6_setBudget_21 : zD cX6_setBudget 21 (.aload_n 0) 1 22 := ⟨by decide +kernel, rfl⟩
theorem dX6_setBudget_22 : zD cX6_setBudget 22 (.getfield 36) 3 25 := ⟨by decide +kernel, rfl⟩
theorem dX6_setBudget_25 : zD cX6_setBudget 25 (.iconst (-1)) 1 26 := ⟨by decide +kernel, rfl⟩
theorem dX6_setBudget_26 : zD cX6_setBudget 26 (.iconst 0) 1 27 := ⟨by decide +kernel, rfl⟩
theorem dX6_setBudget_27 : zD cX6_setBudget 27 (.invokevirtual 252) 3 30 := ⟨by decide +kernel, rfl⟩
theorem dX6_setBudget_30 : zD cX6_setBudget 30 (.iload_n 1) 1 31 := ⟨by decide +kernel, rfl⟩
theorem dX6_setBudget_31 : zD cX6_setBudget 31 (.if_icmp .le 14) 3 34 := ⟨by decide +kernel, rfl⟩
theorem dX6_setBudget_34 : zD cX6_setBudget 34 (.new 78) 3 37 := ⟨by decide +kernel, rfl⟩
theorem dX6_setBudget_37 : zD cX6_setBudget 37 (.dup) 1 38 := ⟨by decide +kernel, rfl⟩
theorem dX6_setBudget_38 : zD cX6_setBudget 38 (.ldc_w 256) 3 41 := ⟨by decide +kernel, rfl⟩
theorem dX6_setBudget_41 : zD cX6_setBudget 41 (.invokespecial 82) 3 44 := ⟨by decide +kernel, rfl⟩
theorem dX6_setBudget_44 : zD cX6_setBudget 44 (.athrow) 1 45 := ⟨by decide +kernel, rfl⟩
theorem dX6_setBudget_45 : zD cX6_setBudget 45 (.aload_n 0) 1 46 := ⟨by decide +kernel, rfl⟩
theorem dX6_setBudget_46 : zD cX6_setBudget 46 (.invokevirtual 211) 3 49 := ⟨by decide +kernel, rfl⟩
theorem dX6_setBudget_49 : zD cX6_setBudget 49 (.aload_n 0) 1 50 := ⟨by decide +kernel, rfl⟩
theorem dX6_setBudget_50 : zD cX6_setBudget 50 (.getfield 36) 3 53 := ⟨by decide +kernel, rfl⟩
theorem dX6_setBudget_53 : zD cX6_setBudget 53 (.iload_n 1) 1 54 := ⟨by decide +kernel, rfl⟩
theorem dX6_setBudget_54 : zD cX6_setBudget 54 (.putfield 109) 3 57 := ⟨by decide +kernel, rfl⟩
theorem dX6_setBudget_57 : zD cX6_setBudget 57 (.aload_n 0) 1 58 := ⟨by decide +kernel, rfl⟩
theorem dX6_setBudget_58 : zD cX6_setBudget 58 (.getfield 36) 3 61 := ⟨by decide +kernel, rfl⟩
theorem dX6_setBudget_61 : zD cX6_setBudget 61 (.iconst 0) 1 62 := ⟨by decide +kernel, rfl⟩
theorem dX6_setBudget_62 : zD cX6_setBudget 62 (.iconst (-1)) 1 63 := ⟨by decide +kernel, rfl⟩
theorem dX6_setBudget_63 : zD cX6_setBudget 63 (.invokevirtual 258) 3 66 := ⟨by decide +kernel, rfl⟩
theorem dX6_setBudget_66 : zD cX6_setBudget 66 (.aload_n 0) 1 67 := ⟨by decide +kernel, rfl⟩
theorem dX6_setBudget_67 : zD cX6_setBudget 67 (.getfield 36) 3 70 := ⟨by decide +kernel, rfl⟩
theorem dX6_setBudget_70 : zD cX6_setBudget 70 (.invokevirtual 112) 3 73 := ⟨by decide +kernel, rfl⟩
theorem dX6_setBudget_73 : zD cX6_setBudget 73 (.ireturn) 1 74 := ⟨by decide +kernel, rfl⟩
theorem dX6_setCost_0 : zD cX6_setCost 0 (.aload_n 0) 1 1 := ⟨by decide +kernel, rfl⟩
theorem dX6_setCost_1 : zD cX6_setCost 1 (.iload_n 1) 1 2 := ⟨by decide +kernel, rfl⟩
theorem dX6_setCost_2 : zD cX6_setCost 2 (.invokevirtual 124) 3 5 := ⟨by decide +kernel, rfl⟩
theorem dX6_setCost_5 : zD cX6_setCost 5 (.iload_n 2) 1 6 := ⟨by decide +kernel, rfl⟩
theorem dX6_setCost_6 : zD cX6_setCost 6 (.iconst 1) 1 7 := ⟨by decide +kernel, rfl⟩
theorem dX6_setCost_7 : zD cX6_setCost 7 (.if_icmp .lt 9) 3 10 := ⟨by decide +kernel, rfl⟩
theorem dX6_setCost_10 : zD cX6_setCost 10 (.iload_n 2) 1 11 := ⟨by decide +kernel, rfl⟩
theorem dX6_setCost_11 : zD cX6_setCost 11 (.bipush 99) 2 13 := ⟨by decide +kernel, rfl⟩
theorem dX6_setCost_13 : zD cX6_setCost 13 (.if_icmp .le 14) 3 16 := ⟨by decide +kernel, rfl⟩
theorem dX6_setCost_16 : zD cX6_setCost 16 (.new 67) 3 19 := ⟨by decide +kernel, rfl⟩
theorem dX6_setCost_19 : zD cX6_setCost 19 (.dup) 1 20 := ⟨by decide +kernel, rfl⟩
theorem dX6_setCost_20 : zD cX6_setCost 20 (.ldc_w 261) 3 23 := ⟨by decide +kernel, rfl⟩
theorem dX6_setCost_23 : zD cX6_setCost 23 (.invokespecial 71) 3 26 := ⟨by decide +kernel, rfl⟩
theorem dX6_setCost_26 : zD cX6_setCost 26 (.athrow) 1 27 := ⟨by decide +kernel, rfl⟩
theorem dX6_setCost_27 : zD cX6_setCost 27 (.aload_n 0) 1 28 := ⟨by decide +kernel, rfl⟩
theorem dX6_setCost_28 : zD cX6_setCost 28 (.invokevirtual 211) 3 31 := ⟨by decide +kernel, rfl⟩
theorem dX6_setCost_31 : zD cX6_setCost 31 (.aload_n 0) 1 32 := ⟨by decide +kernel, rfl⟩
theorem dX6_setCost_32 : zD cX6_setCost 32 (.getfield 36) 3 35 := ⟨by decide +kernel, rfl⟩
theorem dX6_setCost_35 : zD cX6_setCost 35 (.getfield 134) 3 38 := ⟨by decide +kernel, rfl⟩
theorem dX6_setCost_38 : zD cX6_setCost 38 (.iload_n 1) 1 39 := ⟨by decide +kernel, rfl⟩
theorem dX6_setCost_39 : zD cX6_setCost 39 (.iaload) 1 40 := ⟨by decide +kernel, rfl⟩
theorem dX6_setCost_40 : zD cX6_setCost 40 (.istore_n 3) 1 41 := ⟨by decide +kernel, rfl⟩
theorem dX6_setCost_41 : zD cX6_setCost 41 (.aload_n 0) 1 42 := ⟨by decide +kernel, rfl⟩
theorem dX6_setCost_42 : zD cX6_setCost 42 (.getfield 36) 3 45 := ⟨by decide +kernel, rfl⟩
theorem dX6_setCost_45 : zD cX6_setCost 45 (.getfield 134) 3 48 := ⟨by decide +kernel, rfl⟩
theorem dX6_setCost_48 : zD cX6_setCost 48 (.iload_n 1) 1 49 := ⟨by decide +kernel, rfl⟩
theorem dX6_setCost_49 : zD cX6_setCost 49 (.iload_n 2) 1 50 := ⟨by decide +kernel, rfl⟩
theorem dX6_setCost_50 : zD cX6_setCost 50 (.iastore) 1 51 := ⟨by decide +kernel, rfl⟩
theorem dX6_setCost_51 : zD cX6_setCost 51 (.aload_n 0) 1 52 := ⟨by decide +kernel, rfl⟩
theorem dX6_setCost_52 : zD cX6_setCost 52 (.invokevirtual 263) 3 55 := ⟨by decide +kernel, rfl⟩
theorem dX6_setCost_55 : zD cX6_setCost 55 (.iload_n 3) 1 56 := ⟨by decide +kernel, rfl⟩
theorem dX6_setCost_56 : zD cX6_setCost 56 (.ireturn) 1 57 := ⟨by decide +kernel, rfl⟩
theorem dX6_undo_0 : zD cX6_undo 0 (.aload_n 0) 1 1 := ⟨by decide +kernel, rfl⟩
theorem dX6_undo_1 : zD cX6_undo 1 (.getfield 266) 3 4 := ⟨by decide +kernel, rfl⟩
theorem dX6_undo_4 : zD cX6_undo 4 (.iconst 1) 1 5 := ⟨by decide +kernel, rfl⟩
theorem dX6_undo_5 : zD cX6_undo 5 (.if_icmp .lt 15) 3 8 := ⟨by decide +kernel, rfl⟩
theorem dX6_undo_8 : zD cX6_undo 8 (.aload_n 0) 1 9 := ⟨by decide +kernel, rfl⟩
theorem dX6_undo_9 : zD cX6_undo 9 (.getfield 266) 3 12 := ⟨by decide +kernel, rfl⟩
theorem dX6_undo_12 : zD cX6_undo 12 (.aload_n 0) 1 13 := ⟨by decide +kernel, rfl⟩
theorem dX6_undo_13 : zD cX6_undo 13 (.getfield 43) 3 16 := ⟨by decide +kernel, rfl⟩
theorem dX6_undo_16 : zD cX6_undo 16 (.arraylength) 1 17 := ⟨by decide +kernel, rfl⟩
theorem dX6_undo_17 : zD cX6_undo 17 (.if_icmp .le 14) 3 20 := ⟨by decide +kernel, rfl⟩
theorem dX6_undo_20 : zD cX6_undo 20 (.new 78) 3 23 := ⟨by decide +kernel, rfl⟩
theorem dX6_undo_23 : zD cX6_undo 23 (.dup) 1 24 := ⟨by decide +kernel, rfl⟩
theorem dX6_undo_24 : zD cX6_undo 24 (.ldc_w 269) 3 27 := ⟨by decide +kernel, rfl⟩
theorem dX6_undo_27 : zD cX6_undo 27 (.invokespecial 82) 3 30 := ⟨by decide +kernel, rfl⟩
theorem dX6_undo_30 : zD cX6_undo 30 (.athrow) 1 31 := ⟨by decide +kernel, rfl⟩
theorem dX6_undo_31 : zD cX6_undo 31 (.aload_n 0) 1 32 := ⟨by decide +kernel, rfl⟩
theorem dX6_undo_32 : zD cX6_undo 32 (.dup) 1 33 := ⟨by decide +kernel, rfl⟩
theorem dX6_undo_33 : zD cX6_undo 33 (.getfield 266) 3 36 := ⟨by decide +kernel, rfl⟩
theorem dX6_undo_36 : zD cX6_undo 36 (.iconst 1) 1 37 := ⟨by decide +kernel, rfl⟩
theorem dX6_undo_37 : zD cX6_undo 37 (.isub) 1 38 := ⟨by decide +kernel, rfl⟩
theorem dX6_undo_38 : zD cX6_undo 38 (.putfield 266) 3 41 := ⟨by decide +kernel, rfl⟩
theorem dX6_undo_41 : zD cX6_undo 41 (.aload_n 0) 1 42 := ⟨by decide +kernel, rfl⟩
theorem dX6_undo_42 : zD cX6_undo 42 (.getfield 36) 3 45 := ⟨by decide +kernel, rfl⟩
theorem dX6_undo_45 : zD cX6_undo 45 (.aload_n 0) 1 46 := ⟨by decide +kernel, rfl⟩
theorem dX6_undo_46 : zD cX6_undo 46 (.getfield 43) 3 49 := ⟨by decide +kernel, rfl⟩
theorem dX6_undo_49 : zD cX6_undo 49 (.aload_n 0) 1 50 := ⟨by decide +kernel, rfl⟩
theorem dX6_undo_50 : zD cX6_undo 50 (.getfield 266) 3 53 := ⟨by decide +kernel, rfl⟩
theorem dX6_undo_53 : zD cX6_undo 53 (.aaload) 1 54 := ⟨by decide +kernel, rfl⟩
theorem dX6_undo_54 : zD cX6_undo 54 (.invokevirtual 271) 3 57 := ⟨by decide +kernel, rfl⟩
theorem dX6_undo_57 : zD cX6_undo 57 (.aload_n 0) 1 58 := ⟨by decide +kernel, rfl⟩
theorem dX6_undo_58 : zD cX6_undo 58 (.invokevirtual 263) 3 61 := ⟨by decide +kernel, rfl⟩
theorem dX6_undo_61 : zD cX6_undo 61 (.aload_n 0) 1 62 := ⟨by decide +kernel, rfl⟩
theorem dX6_undo_62 : zD cX6_undo 62 (.getfield 266) 3 65 := ⟨by decide +kernel, rfl⟩
theorem dX6_undo_65 : zD cX6_undo 65 (.ireturn) 1 66 := ⟨by decide +kernel, rfl⟩
theorem dX2_stepsOf_0 : zD cX2_stepsOf 0 (.aload_n 0) 1 1 := ⟨by decide +kernel, rfl⟩
theorem dX2_stepsOf_1 : zD cX2_stepsOf 1 (.iload_n 1) 1 2 := ⟨by decide +kernel, rfl⟩
theorem dX2_stepsOf_2 : zD cX2_stepsOf 2 (.iload_n 2) 1 3 := ⟨by decide +kernel, rfl⟩
theorem dX2_stepsOf_3 : zD cX2_stepsOf 3 (.invokevirtual 55) 3 6 := ⟨by decide +kernel, rfl⟩
theorem dX2_stepsOf_6 : zD cX2_stepsOf 6 (.ifCond .eq 17) 3 9 := ⟨by decide +kernel, rfl⟩
theorem dX2_stepsOf_9 : zD cX2_stepsOf 9 (.aload_n 0) 1 10 := ⟨by decide +kernel, rfl⟩
theorem dX2_stepsOf_10 : zD cX2_stepsOf 10 (.getfield 19) 3 13 := ⟨by decide +kernel, rfl⟩
theorem dX2_stepsOf_13 : zD cX2_stepsOf 13 (.iload_n 1) 1 14 := ⟨by decide +kernel, rfl⟩
theorem dX2_stepsOf_14 : zD cX2_stepsOf 14 (.aaload) 1 15 := ⟨by decide +kernel, rfl⟩
theorem dX2_stepsOf_15 : zD cX2_stepsOf 15 (.iload_n 2) 1 16 := ⟨by decide +kernel, rfl⟩
theorem dX2_stepsOf_16 : zD cX2_stepsOf 16 (.iaload) 1 17 := ⟨by decide +kernel, rfl⟩
theorem dX2_stepsOf_17 : zD cX2_stepsOf 17 (.bipush 8) 2 19 := ⟨by decide +kernel, rfl⟩
theorem dX2_stepsOf_19 : zD cX2_stepsOf 19 (.irem) 1 20 := ⟨by decide +kernel, rfl⟩
theorem dX2_stepsOf_20 : zD cX2_stepsOf 20 (.goto 5) 3 23 := ⟨by decide +kernel, rfl⟩
theorem dX2_stepsOf_23 : zD cX2_stepsOf 23 (.bipush (-9)) 2 25 := ⟨by decide +kernel, rfl⟩
theorem dX2_stepsOf_25 : zD cX2_stepsOf 25 (.ireturn) 1 26 := ⟨by decide +kernel, rfl⟩
theorem dX6_path_0 : zD cX6_path 0 (.aload_n 0) 1 1 := ⟨by decide +kernel, rfl⟩
theorem dX6_path_1 : zD cX6_path 1 (.iload_n 1) 1 2 := ⟨by decide +kernel, rfl⟩
theorem dX6_path_2 : zD cX6_path 2 (.invokevirtual 190) 3 5 := ⟨by decide +kernel, rfl⟩
theorem dX6_path_5 : zD cX6_path 5 (.aload_n 0) 1 6 := ⟨by decide +kernel, rfl⟩
theorem dX6_path_6 : zD cX6_path 6 (.iload_n 2) 1 7 := ⟨by decide +kernel, rfl⟩
theorem dX6_path_7 : zD cX6_path 7 (.invokevirtual 190) 3 10 := ⟨by decide +kernel, rfl⟩
theorem dX6_path_10 : zD cX6_path 10 (.iload_n 3) 1 11 := ⟨by decide +kernel, rfl⟩
theorem dX6_path_11 : zD cX6_path 11 (.tableswitch 59 0 2 #[25, 35, 45]) 25 36 := ⟨by decide +kernel, rfl⟩
theorem dX6_path_36 : zD cX6_path 36 (.aload_n 0) 1 37 := ⟨by decide +kernel, rfl⟩
theorem dX6_path_37 : zD cX6_path 37 (.getfield 19) 3 40 := ⟨by decide +kernel, rfl⟩
theorem dX6_path_40 : zD cX6_path 40 (.iload_n 1) 1 41 := ⟨by decide +kernel, rfl⟩
theorem dX6_path_41 : zD cX6_path 41 (.iload_n 2) 1 42 := ⟨by decide +kernel, rfl⟩
theorem dX6_path_42 : zD cX6_path 42 (.invokevirtual 275) 3 45 := ⟨by decide +kernel, rfl⟩
theorem dX6_path_45 : zD cX6_path 45 (.ireturn) 1 46 := ⟨by decide +kernel, rfl⟩
theorem dX6_path_46 : zD cX6_path 46 (.aload_n 0) 1 47 := ⟨by decide +kernel, rfl⟩
theorem dX6_path_47 : zD cX6_path 47 (.getfield 19) 3 50 := ⟨by decide +kernel, rfl⟩
theorem dX6_path_50 : zD cX6_path 50 (.iload_n 1) 1 51 := ⟨by decide +kernel, rfl⟩
theorem dX6_path_51 : zD cX6_path 51 (.iload_n 2) 1 52 := ⟨by decide +kernel, rfl⟩
theorem dX6_path_52 : zD cX6_path 52 (.invokevirtual 279) 3 55 := ⟨by decide +kernel, rfl⟩
theorem dX6_path_55 : zD cX6_path 55 (.ireturn) 1 56 := ⟨by decide +kernel, rfl⟩
theorem dX6_path_56 : zD cX6_path 56 (.aload_n 0) 1 57 := ⟨by decide +kernel, rfl⟩
theorem dX6_path_57 : zD cX6_path 57 (.getfield 19) 3 60 := ⟨by decide +kernel, rfl⟩
theorem dX6_path_60 : zD cX6_path 60 (.iload_n 1) 1 61 := ⟨by decide +kernel, rfl⟩
theorem dX6_path_61 : zD cX6_path 61 (.iload_n 2) 1 62 := ⟨by decide +kernel, rfl⟩
theorem dX6_path_62 : zD cX6_path 62 (.aload_n 0) 1 63 := ⟨by decide +kernel, rfl⟩
theorem dX6_path_63 : zD cX6_path 63 (.getfield 57) 3 66 := ⟨by decide +kernel, rfl⟩
theorem dX6_path_66 : zD cX6_path 66 (.invokevirtual 282) 3 69 := ⟨by decide +kernel, rfl⟩
theorem dX6_path_69 : zD cX6_path 69 (.ireturn) 1 70 := ⟨by decide +kernel, rfl⟩
theorem dX6_path_70 : zD cX6_path 70 (.new 67) 3 73 := ⟨by decide +kernel, rfl⟩
theorem dX6_path_73 : zD cX6_path 73 (.dup) 1 74 := ⟨by decide +kernel, rfl⟩
theorem dX6_path_74 : zD cX6_path 74 (.ldc_w 286) 3 77 := ⟨by decide +kernel, rfl⟩
theorem dX6_path_77 : zD cX6_path 77 (.invokespecial 71) 3 80 := ⟨by decide +kernel, rfl⟩
theorem dX6_path_80 : zD cX6_path 80 (.athrow) 1 81 := ⟨by decide +kernel, rfl⟩
theorem dX2_formatAt_0 : zD cX2_formatAt 0 (.aload_n 0) 1 1 := ⟨by decide +kernel, rfl⟩
theorem dX2_formatAt_1 : zD cX2_formatAt 1 (.iload_n 1) 1 2 := ⟨by decide +kernel, rfl⟩
theorem dX2_formatAt_2 : zD cX2_formatAt 2 (.iload_n 2) 1 3 := ⟨by decide +kernel, rfl⟩
theorem dX2_formatAt_3 : zD cX2_formatAt 3 (.invokevirtual 55) 3 6 := ⟨by decide +kernel, rfl⟩
theorem dX2_formatAt_6 : zD cX2_formatAt 6 (.ifCond .ne 6) 3 9 := ⟨by decide +kernel, rfl⟩
theorem dX2_formatAt_9 : zD cX2_formatAt 9 (.bipush (-9)) 2 11 := ⟨by decide +kernel, rfl⟩
theorem dX2_formatAt_11 : zD cX2_formatAt 11 (.ireturn) 1 12 := ⟨by decide +kernel, rfl⟩
theorem dX2_formatAt_12 : zD cX2_formatAt 12 (.iload_n 1) 1 13 := ⟨by decide +kernel, rfl⟩
theorem dX2_formatAt_13 : zD cX2_formatAt 13 (.istore 5) 2 15 := ⟨by decide +kernel, rfl⟩
theorem dX2_formatAt_15 : zD cX2_formatAt 15 (.iconst 0) 1 16 := ⟨by decide +kernel, rfl⟩
theorem dX2_formatAt_16 : zD cX2_formatAt 16 (.istore 6) 2 18 := ⟨by decide +kernel, rfl⟩
theorem dX2_formatAt_18 : zD cX2_formatAt 18 (.iload 6) 2 20 := ⟨by decide +kernel, rfl⟩
theorem dX2_formatAt_20 : zD cX2_formatAt 20 (.bipush 8) 2 22 := ⟨by decide +kernel, rfl⟩
theorem dX2_formatAt_22 : zD cX2_formatAt 22 (.if_icmp .ge 45) 3 25 := ⟨by decide +kernel, rfl⟩
theorem dX2_formatAt_25 : zD cX2_formatAt 25 (.iload 6) 2 27 := ⟨by decide +kernel, rfl⟩
theorem dX2_formatAt_27 : zD cX2_formatAt 27 (.iload_n 3) 1 28 := ⟨by decide +kernel, rfl⟩
theorem dX2_formatAt_28 : zD cX2_formatAt 28 (.if_icmp .ge 39) 3 31 := ⟨by decide +kernel, rfl⟩
theorem dX2_formatAt_31 : zD cX2_formatAt 31 (.aload_n 0) 1 32 := ⟨by decide +kernel, rfl⟩
theorem dX2_formatAt_32 : zD cX2_formatAt 32 (.getfield 22) 3 35 := ⟨by decide +kernel, rfl⟩
theorem dX2_formatAt_35 : zD cX2_formatAt 35 (.iload 5) 2 37 := ⟨by decide +kernel, rfl⟩
theorem dX2_formatAt_37 : zD cX2_formatAt 37 (.aaload) 1 38 := ⟨by decide +kernel, rfl⟩
theorem dX2_formatAt_38 : zD cX2_formatAt 38 (.iload_n 2) 1 39 := ⟨by decide +kernel, rfl⟩
theorem dX2_formatAt_39 : zD cX2_formatAt 39 (.iaload) 1 40 := ⟨by decide +kernel, rfl⟩
theorem dX2_formatAt_40 : zD cX2_formatAt 40 (.istore 7) 2 42 := ⟨by decide +kernel, rfl⟩
theorem dX2_formatAt_42 : zD cX2_formatAt 42 (.iload 7) 2 44 := ⟨by decide +kernel, rfl⟩
theorem dX2_formatAt_44 : zD cX2_formatAt 44 (.iconst (-1)) 1 45 := ⟨by decide +kernel, rfl⟩
theorem dX2_formatAt_45 : zD cX2_formatAt 45 (.if_icmp .ne 6) 3 48 := ⟨by decide +kernel, rfl⟩
theorem dX2_formatAt_48 : zD cX2_formatAt 48 (.bipush (-9)) 2 50 := ⟨by decide +kernel, rfl⟩
theorem dX2_formatAt_50 : zD cX2_formatAt 50 (.ireturn) 1 51 := ⟨by decide +kernel, rfl⟩
theorem dX2_formatAt_51 : zD cX2_formatAt 51 (.aload 4) 2 53 := ⟨by decide +kernel, rfl⟩
theorem dX2_formatAt_53 : zD cX2_formatAt 53 (.getfield 38) 3 56 := ⟨by decide +kernel, rfl⟩
theorem dX2_formatAt_56 : zD cX2_formatAt 56 (.iload 7) 2 58 := ⟨by decide +kernel, rfl⟩
theorem dX2_formatAt_58 : zD cX2_formatAt 58 (.iaload) 1 59 := ⟨by decide +kernel, rfl⟩
theorem dX2_formatAt_59 : zD cX2_formatAt 59 (.istore 5) 2 61 := ⟨by decide +kernel, rfl⟩
theorem dX2_formatAt_61 : zD cX2_formatAt 61 (.iinc 6 1) 3 64 := ⟨by decide +kernel, rfl⟩
theorem dX2_formatAt_64 : zD cX2_formatAt 64 (.goto (-46)) 3 67 := ⟨by decide +kernel, rfl⟩
theorem dX2_formatAt_67 : zD cX2_formatAt 67 (.iload 5) 2 69 := ⟨by decide +kernel, rfl⟩
theorem dX2_formatAt_69 : zD cX2_formatAt 69 (.ireturn) 1 70 := ⟨by decide +kernel, rfl⟩
theorem dX6_step_0 : zD cX6_step 0 (.aload_n 0) 1 1 := ⟨by decide +kernel, rfl⟩
theorem dX6_step_1 : zD cX6_step 1 (.iload_n 1) 1 2 := ⟨by decide +kernel, rfl⟩
theorem dX6_step_2 : zD cX6_step 2 (.invokevirtual 190) 3 5 := ⟨by decide +kernel, rfl⟩
theorem dX6_step_5 : zD cX6_step 5 (.aload_n 0) 1 6 := ⟨by decide +kernel, rfl⟩
theorem dX6_step_6 : zD cX6_step 6 (.iload_n 2) 1 7 := ⟨by decide +kernel, rfl⟩
theorem dX6_step_7 : zD cX6_step 7 (.invokevirtual 190) 3 10 := ⟨by decide +kernel, rfl⟩
theorem dX6_step_10 : zD cX6_step 10 (.iload_n 3) 1 11 := ⟨by decide +kernel, rfl⟩
theorem dX6_step_11 : zD cX6_step 11 (.ifCond .lt 9) 3 14 := ⟨by decide +kernel, rfl⟩
theorem dX6_step_14 : zD cX6_step 14 (.iload_n 3) 1 15 := ⟨by decide +kernel, rfl⟩
theorem dX6_step_15 : zD cX6_step 15 (.bipush 8) 2 17 := ⟨by decide +kernel, rfl⟩
theorem dX6_step_17 : zD cX6_step 17 (.if_icmp .lt 14) 3 20 := ⟨by decide +kernel, rfl⟩
theorem dX6_step_20 : zD cX6_step 20 (.new 67) 3 23 := ⟨by decide +kernel, rfl⟩
theorem dX6_step_23 : zD cX6_step 23 (.dup) 1 24 := ⟨by decide +kernel, rfl⟩
theorem dX6_step_24 : zD cX6_step 24 (.ldc_w 288) 3 27 := ⟨by decide +kernel, rfl⟩
theorem dX6_step_27 : zD cX6_step 27 (.invokespecial 71) 3 30 := ⟨by decide +kernel, rfl⟩
theorem dX6_step_30 : zD cX6_step 30 (.athrow) 1 31 := ⟨by decide +kernel, rfl⟩
theorem dX6_step_31 : zD cX6_step 31 (.aload_n 0) 1 32 := ⟨by decide +kernel, rfl⟩
theorem dX6_step_32 : zD cX6_step 32 (.getfield 19) 3 35 := ⟨by decide +kernel, rfl⟩
theorem dX6_step_35 : zD cX6_step 35 (.iload_n 1) 1 36 := ⟨by decide +kernel, rfl⟩
theorem dX6_step_36 : zD cX6_step 36 (.iload_n 2) 1 37 := ⟨by decide +kernel, rfl⟩
theorem dX6_step_37 : zD cX6_step 37 (.iload_n 3) 1 38 := ⟨by decide +kernel, rfl⟩
theorem dX6_step_38 : zD cX6_step 38 (.aload_n 0) 1 39 := ⟨by decide +kernel, rfl⟩
theorem dX6_step_39 : zD cX6_step 39 (.getfield 57) 3 42 := ⟨by decide +kernel, rfl⟩
theorem dX6_step_42 : zD cX6_step 42 (.invokevirtual 290) 3 45 := ⟨by decide +kernel, rfl⟩
theorem dX6_step_45 : zD cX6_step 45 (.ireturn) 1 46 := ⟨by decide +kernel, rfl⟩
theorem dX6_sizeAfter_0 : zD cX6_sizeAfter 0 (.aload_n 0) 1 1 := ⟨by decide +kernel, rfl⟩
theorem dX6_sizeAfter_1 : zD cX6_sizeAfter 1 (.iload_n 1) 1 2 := ⟨by decide +kernel, rfl⟩
theorem dX6_sizeAfter_2 : zD cX6_sizeAfter 2 (.invokevirtual 190) 3 5 := ⟨by decide +kernel, rfl⟩
theorem dX6_sizeAfter_5 : zD cX6_sizeAfter 5 (.aload_n 0) 1 6 := ⟨by decide +kernel, rfl⟩
theorem dX6_sizeAfter_6 : zD cX6_sizeAfter 6 (.iload_n 2) 1 7 := ⟨by decide +kernel, rfl⟩
theorem dX6_sizeAfter_7 : zD cX6_sizeAfter 7 (.invokevirtual 190) 3 10 := ⟨by decide +kernel, rfl⟩
theorem dX6_sizeAfter_10 : zD cX6_sizeAfter 10 (.iload_n 3) 1 11 := ⟨by decide +kernel, rfl⟩
theorem dX6_sizeAfter_11 : zD cX6_sizeAfter 11 (.iconst 1) 1 12 := ⟨by decide +kernel, rfl⟩
theorem dX6_sizeAfter_12 : zD cX6_sizeAfter 12 (.if_icmp .lt 9) 3 15 := ⟨by decide +kernel, rfl⟩
theorem dX6_sizeAfter_15 : zD cX6_sizeAfter 15 (.iload_n 3) 1 16 := ⟨by decide +kernel, rfl⟩
theorem dX6_sizeAfter_16 : zD cX6_sizeAfter 16 (.ldc 249) 2 18 := ⟨by decide +kernel, rfl⟩
theorem dX6_sizeAfter_18 : zD cX6_sizeAfter 18 (.if_icmp .le 14) 3 21 := ⟨by decide +kernel, rfl⟩
theorem dX6_sizeAfter_21 : zD cX6_sizeAfter 21 (.new 67) 3 24 := ⟨by decide +kernel, rfl⟩
theorem dX6_sizeAfter_24 : zD cX6_sizeAfter 24 (.dup) 1 25 := ⟨by decide +kernel, rfl⟩
theorem dX6_sizeAfter_25 : zD cX6_sizeAfter 25 (.ldc_w 294) 3 28 := ⟨by decide +kernel, rfl⟩
theorem dX6_sizeAfter_28 : zD cX6_sizeAfter 28 (.invokespecial 71) 3 31 := ⟨by decide +kernel, rfl⟩
theorem dX6_sizeAfter_31 : zD cX6_sizeAfter 31 (.athrow) 1 32 := ⟨by decide +kernel, rfl⟩
theorem dX6_sizeAfter_32 : zD cX6_sizeAfter 32 (.aload_n 0) 1 33 := ⟨by decide +kernel, rfl⟩
theorem dX6_sizeAfter_33 : zD cX6_sizeAfter 33 (.getfield 19) 3 36 := ⟨by decide +kernel, rfl⟩
theorem dX6_sizeAfter_36 : zD cX6_sizeAfter 36 (.iload_n 1) 1 37 := ⟨by decide +kernel, rfl⟩
theorem dX6_sizeAfter_37 : zD cX6_sizeAfter 37 (.iload_n 2) 1 38 := ⟨by decide +kernel, rfl⟩
theorem dX6_sizeAfter_38 : zD cX6_sizeAfter 38 (.iload_n 3) 1 39 := ⟨by decide +kernel, rfl⟩
theorem dX6_sizeAfter_39 : zD cX6_sizeAfter 39 (.aload_n 0) 1 40 := ⟨by decide +kernel, rfl⟩
theorem dX6_sizeAfter_40 : zD cX6_sizeAfter 40 (.getfield 57) 3 43 := ⟨by decide +kernel, rfl⟩
theorem dX6_sizeAfter_43 : zD cX6_sizeAfter 43 (.invokevirtual 296) 3 46 := ⟨by decide +kernel, rfl⟩
theorem dX6_sizeAfter_46 : zD cX6_sizeAfter 46 (.ireturn) 1 47 := ⟨by decide +kernel, rfl⟩
theorem dX6_reachable_0 : zD cX6_reachable 0 (.aload_n 0) 1 1 := ⟨by decide +kernel, rfl⟩
theorem dX6_reachable_1 : zD cX6_reachable 1 (.iload_n 1) 1 2 := ⟨by decide +kernel, rfl⟩
theorem dX6_reachable_2 : zD cX6_reachable 2 (.invokevirtual 190) 3 5 := ⟨by decide +kernel, rfl⟩
theorem dX6_reachable_5 : zD cX6_reachable 5 (.iconst 0) 1 6 := ⟨by decide +kernel, rfl⟩
theorem dX6_reachable_6 : zD cX6_reachable 6 (.istore_n 2) 1 7 := ⟨by decide +kernel, rfl⟩
theorem dX6_reachable_7 : zD cX6_reachable 7 (.iconst 0) 1 8 := ⟨by decide +kernel, rfl⟩
theorem dX6_reachable_8 : zD cX6_reachable 8 (.istore_n 3) 1 9 := ⟨by decide +kernel, rfl⟩
theorem dX6_reachable_9 : zD cX6_reachable 9 (.iload_n 3) 1 10 := ⟨by decide +kernel, rfl⟩
theorem dX6_reachable_10 : zD cX6_reachable 10 (.aload_n 0) 1 11 := ⟨by decide +kernel, rfl⟩
theorem dX6_reachable_11 : zD cX6_reachable 11 (.getfield 57) 3 14 := ⟨by decide +kernel, rfl⟩
theorem dX6_reachable_14 : zD cX6_reachable 14 (.getfield 100) 3 17 := ⟨by decide +kernel, rfl⟩
theorem dX6_reachable_17 : zD cX6_reachable 17 (.if_icmp .ge 27) 3 20 := ⟨by decide +kernel, rfl⟩
theorem dX6_reachable_20 : zD cX6_reachable 20 (.aload_n 0) 1 21 := ⟨by decide +kernel, rfl⟩
theorem dX6_reachable_21 : zD cX6_reachable 21 (.getfield 19) 3 24 := ⟨by decide +kernel, rfl⟩
theorem dX6_reachable_24 : zD cX6_reachable 24 (.iload_n 1) 1 25 := ⟨by decide +kernel, rfl⟩
theorem dX6_reachable_25 : zD cX6_reachable 25 (.iload_n 3) 1 26 := ⟨by decide +kernel, rfl⟩
theorem dX6_reachable_26 : zD cX6_reachable 26 (.invokevirtual 299) 3 29 := ⟨by decide +kernel, rfl⟩
theorem dX6_reachable_29 : zD cX6_reachable 29 (.ifCond .eq 9) 3 32 := ⟨by decide +kernel, rfl⟩
theorem dX6_reachable_32 : zD cX6_reachable 32 (.iload_n 2) 1 33 := ⟨by decide +kernel, rfl⟩
theorem dX6_reachable_33 : zD cX6_reachable 33 (.iconst 1) 1 34 := ⟨by decide +kernel, rfl⟩
theorem dX6_reachable_34 : zD cX6_reachable 34 (.iload_n 3) 1 35 := ⟨by decide +kernel, rfl⟩
theorem dX6_reachable_35 : zD cX6_reachable 35 (.ishl) 1 36 := ⟨by decide +kernel, rfl⟩
theorem dX6_reachable_36 : zD cX6_reachable 36 (.ior) 1 37 := ⟨by decide +kernel, rfl⟩
theorem dX6_reachable_37 : zD cX6_reachable 37 (.istore_n 2) 1 38 := ⟨by decide +kernel, rfl⟩
theorem dX6_reachable_38 : zD cX6_reachable 38 (.iinc 3 1) 3 41 := ⟨by decide +kernel, rfl⟩
theorem dX6_reachable_41 : zD cX6_reachable 41 (.goto (-32)) 3 44 := ⟨by decide +kernel, rfl⟩
theorem dX6_reachable_44 : zD cX6_reachable 44 (.iload_n 2) 1 45 := ⟨by decide +kernel, rfl⟩
theorem dX6_reachable_45 : zD cX6_reachable 45 (.ireturn) 1 46 := ⟨by decide +kernel, rfl⟩
theorem dX6_without_0 : zD cX6_without 0 (.aload_n 0) 1 1 := ⟨by decide +kernel, rfl⟩
theorem dX6_without_1 : zD cX6_without 1 (.iload_n 1) 1 2 := ⟨by decide +kernel, rfl⟩
theorem dX6_without_2 : zD cX6_without 2 (.invokevirtual 124) 3 5 := ⟨by decide +kernel, rfl⟩
theorem dX6_without_5 : zD cX6_without 5 (.aload_n 0) 1 6 := ⟨by decide +kernel, rfl⟩
theorem dX6_without_6 : zD cX6_without 6 (.iload_n 2) 1 7 := ⟨by decide +kernel, rfl⟩
theorem dX6_without_7 : zD cX6_without 7 (.invokevirtual 190) 3 10 := ⟨by decide +kernel, rfl⟩
theorem dX6_without_10 : zD cX6_without 10 (.aload_n 0) 1 11 := ⟨by decide +kernel, rfl⟩
theorem dX6_without_11 : zD cX6_without 11 (.iload_n 3) 1 12 := ⟨by decide +kernel, rfl⟩
theorem dX6_without_12 : zD cX6_without 12 (.invokevirtual 190) 3 15 := ⟨by decide +kernel, rfl⟩
theorem dX6_without_15 : zD cX6_without 15 (.aload_n 0) 1 16 := ⟨by decide +kernel, rfl⟩
theorem dX6_without_16 : zD cX6_without 16 (.getfield 23) 3 19 := ⟨by decide +kernel, rfl⟩
theorem dX6_without_19 : zD cX6_without 19 (.aload_n 0) 1 20 := ⟨by decide +kernel, rfl⟩
theorem dX6_without_20 : zD cX6_without 20 (.getfield 57) 3 23 := ⟨by decide +kernel, rfl⟩
theorem dX6_without_23 : zD cX6_without 23 (.aload_n 0) 1 24 := ⟨by decide +kernel, rfl⟩
theorem dX6_without_24 : zD cX6_without 24 (.getfield 36) 3 27 := ⟨by decide +kernel, rfl⟩
theorem dX6_without_27 : zD cX6_without 27 (.getfield 134) 3 30 := ⟨by decide +kernel, rfl⟩
theorem dX6_without_30 : zD cX6_without 30 (.iload_n 1) 1 31 := ⟨by decide +kernel, rfl⟩
theorem dX6_without_31 : zD cX6_without 31 (.invokevirtual 302) 3 34 := ⟨by decide +kernel, rfl⟩
theorem dX6_without_34 : zD cX6_without 34 (.aload_n 0) 1 35 := ⟨by decide +kernel, rfl⟩
theorem dX6_without_35 : zD cX6_without 35 (.getfield 23) 3 38 := ⟨by decide +kernel, rfl⟩
theorem dX6_without_38 : zD cX6_without 38 (.iload_n 2) 1 39 := ⟨by decide +kernel, rfl⟩
theorem dX6_without_39 : zD cX6_without 39 (.iload_n 3) 1 40 := ⟨by decide +kernel, rfl⟩
theorem dX6_without_40 : zD cX6_without 40 (.invokevirtual 275) 3 43 := ⟨by decide +kernel, rfl⟩
theorem dX6_without_43 : zD cX6_without 43 (.ireturn) 1 44 := ⟨by decide +kernel, rfl⟩
theorem dX6_worth_0 : zD cX6_worth 0 (.aload_n 0) 1 1 := ⟨by decide +kernel, rfl⟩
theorem dX6_worth_1 : zD cX6_worth 1 (.iload_n 1) 1 2 := ⟨by decide +kernel, rfl⟩
theorem dX6_worth_2 : zD cX6_worth 2 (.invokevirtual 124) 3 5 := ⟨by decide +kernel, rfl⟩
theorem dX6_worth_5 : zD cX6_worth 5 (.aload_n 0) 1 6 := ⟨by decide +kernel, rfl⟩
theorem dX6_worth_6 : zD cX6_worth 6 (.getfield 23) 3 9 := ⟨by decide +kernel, rfl⟩
theorem dX6_worth_9 : zD cX6_worth 9 (.aload_n 0) 1 10 := ⟨by decide +kernel, rfl⟩
theorem dX6_worth_10 : zD cX6_worth 10 (.getfield 57) 3 13 := ⟨by decide +kernel, rfl⟩
theorem dX6_worth_13 : zD cX6_worth 13 (.aload_n 0) 1 14 := ⟨by decide +kernel, rfl⟩
theorem dX6_worth_14 : zD cX6_worth 14 (.getfield 36) 3 17 := ⟨by decide +kernel, rfl⟩
theorem dX6_worth_17 : zD cX6_worth 17 (.getfield 134) 3 20 := ⟨by decide +kernel, rfl⟩
theorem dX6_worth_20 : zD cX6_worth 20 (.iload_n 1) 1 21 := ⟨by decide +kernel, rfl⟩
theorem dX6_worth_21 : zD cX6_worth 21 (.invokevirtual 302) 3 24 := ⟨by decide +kernel, rfl⟩
theorem dX6_worth_24 : zD cX6_worth 24 (.aload_n 0) 1 25 := ⟨by decide +kernel, rfl⟩
theorem dX6_worth_25 : zD cX6_worth 25 (.getfield 23) 3 28 := ⟨by decide +kernel, rfl⟩
theorem dX6_worth_28 : zD cX6_worth 28 (.aload_n 0) 1 29 := ⟨by decide +kernel, rfl⟩
theorem dX6_worth_29 : zD cX6_worth 29 (.getfield 57) 3 32 := ⟨by decide +kernel, rfl⟩
theorem dX6_worth_32 : zD cX6_worth 32 (.getfield 127) 3 35 := ⟨by decide +kernel, rfl⟩
theorem dX6_worth_35 : zD cX6_worth 35 (.iload_n 1) 1 36 := ⟨by decide +kernel, rfl⟩
theorem dX6_worth_36 : zD cX6_worth 36 (.iaload) 1 37 := ⟨by decide +kernel, rfl⟩
theorem dX6_worth_37 : zD cX6_worth 37 (.aload_n 0) 1 38 := ⟨by decide +kernel, rfl⟩
theorem dX6_worth_38 : zD cX6_worth 38 (.getfield 57) 3 41 := ⟨by decide +kernel, rfl⟩
theorem dX6_worth_41 : zD cX6_worth 41 (.getfield 131) 3 44 := ⟨by decide +kernel, rfl⟩
theorem dX6_worth_44 : zD cX6_worth 44 (.iload_n 1) 1 45 := ⟨by decide +kernel, rfl⟩
theorem dX6_worth_45 : zD cX6_worth 45 (.iaload) 1 46 := ⟨by decide +kernel, rfl⟩
theorem dX6_worth_46 : zD cX6_worth 46 (.invokevirtual 275) 3 49 := ⟨by decide +kernel, rfl⟩
theorem dX6_worth_49 : zD cX6_worth 49 (.istore_n 2) 1 50 := ⟨by decide +kernel, rfl⟩
theorem dX6_worth_50 : zD cX6_worth 50 (.iload_n 2) 1 51 := ⟨by decide +kernel, rfl⟩
theorem dX6_worth_51 : zD cX6_worth 51 (.bipush (-9)) 2 53 := ⟨by decide +kernel, rfl⟩
theorem dX6_worth_53 : zD cX6_worth 53 (.if_icmp .ne 8) 3 56 := ⟨by decide +kernel, rfl⟩
theorem dX6_worth_56 : zD cX6_worth 56 (.bipush 99) 2 58 := ⟨by decide +kernel, rfl⟩
theorem dX6_worth_58 : zD cX6_worth 58 (.goto 9) 3 61 := ⟨by decide +kernel, rfl⟩
theorem dX6_worth_61 : zD cX6_worth 61 (.iload_n 2) 1 62 := ⟨by decide +kernel, rfl⟩
theorem dX6_worth_62 : zD cX6_worth 62 (.bipush 99) 2 64 := ⟨by decide +kernel, rfl⟩
theorem dX6_worth_64 : zD cX6_worth 64 (.invokestatic 306) 3 67 := ⟨by decide +kernel, rfl⟩
theorem dX6_worth_67 : zD cX6_worth 67 (.ireturn) 1 68 := ⟨by decide +kernel, rfl⟩
theorem dX2_usedConversions_0 : zD cX2_usedConversions 0 (.iconst 0) 1 1 := ⟨by decide +kernel, rfl⟩
theorem dX2_usedConversions_1 : zD cX2_usedConversions 1 (.istore_n 2) 1 2 := ⟨by decide +kernel, rfl⟩
theorem dX2_usedConversions_2 : zD cX2_usedConversions 2 (.iconst 0) 1 3 := ⟨by decide +kernel, rfl⟩
theorem dX2_usedConversions_3 : zD cX2_usedConversions 3 (.istore_n 3) 1 4 := ⟨by decide +kernel, rfl⟩
theorem dX2_usedConversions_4 : zD cX2_usedConversions 4 (.iload_n 3) 1 5 := ⟨by decide +kernel, rfl⟩
theorem dX2_usedConversions_5 : zD cX2_usedConversions 5 (.aload_n 1) 1 6 := ⟨by decide +kernel, rfl⟩
theorem dX2_usedConversions_6 : zD cX2_usedConversions 6 (.getfield 72) 3 9 := ⟨by decide +kernel, rfl⟩
theorem dX2_usedConversions_9 : zD cX2_usedConversions 9 (.if_icmp .ge 54) 3 12 := ⟨by decide +kernel, rfl⟩
theorem dX2_usedConversions_12 : zD cX2_usedConversions 12 (.iconst 0) 1 13 := ⟨by decide +kernel, rfl⟩
theorem dX2_usedConversions_13 : zD cX2_usedConversions 13 (.istore 4) 2 15 := ⟨by decide +kernel, rfl⟩
theorem dX2_usedConversions_15 : zD cX2_usedConversions 15 (.iload 4) 2 17 := ⟨by decide +kernel, rfl⟩
theorem dX2_usedConversions_17 : zD cX2_usedConversions 17 (.aload_n 1) 1 18 := ⟨by decide +kernel, rfl⟩
theorem dX2_usedConversions_18 : zD cX2_usedConversions 18 (.getfield 72) 3 21 := ⟨by decide +kernel, rfl⟩
theorem dX2_usedConversions_21 : zD cX2_usedConversions 21 (.if_icmp .ge 36) 3 24 := ⟨by decide +kernel, rfl⟩
theorem dX2_usedConversions_24 : zD cX2_usedConversions 24 (.aload_n 0) 1 25 := ⟨by decide +kernel, rfl⟩
theorem dX2_usedConversions_25 : zD cX2_usedConversions 25 (.getfield 22) 3 28 := ⟨by decide +kernel, rfl⟩
theorem dX2_usedConversions_28 : zD cX2_usedConversions 28 (.iload_n 3) 1 29 := ⟨by decide +kernel, rfl⟩
theorem dX2_usedConversions_29 : zD cX2_usedConversions 29 (.aaload) 1 30 := ⟨by decide +kernel, rfl⟩
theorem dX2_usedConversions_30 : zD cX2_usedConversions 30 (.iload 4) 2 32 := ⟨by decide +kernel, rfl⟩
theorem dX2_usedConversions_32 : zD cX2_usedConversions 32 (.iaload) 1 33 := ⟨by decide +kernel, rfl⟩
theorem dX2_usedConversions_33 : zD cX2_usedConversions 33 (.iconst (-1)) 1 34 := ⟨by decide +kernel, rfl⟩
theorem dX2_usedConversions_34 : zD cX2_usedConversions 34 (.if_icmp .eq 17) 3 37 := ⟨by decide +kernel, rfl⟩
theorem dX2_usedConversions_37 : zD cX2_usedConversions 37 (.iload_n 2) 1 38 := ⟨by decide +kernel, rfl⟩
theorem dX2_usedConversions_38 : zD cX2_usedConversions 38 (.iconst 1) 1 39 := ⟨by decide +kernel, rfl⟩
theorem dX2_usedConversions_39 : zD cX2_usedConversions 39 (.aload_n 0) 1 40 := ⟨by decide +kernel, rfl⟩
theorem dX2_usedConversions_40 : zD cX2_usedConversions 40 (.getfield 22) 3 43 := ⟨by decide +kernel, rfl⟩
theorem dX2_usedConversions_43 : zD cX2_usedConversions 43 (.iload_n 3) 1 44 := ⟨by decide +kernel, rfl⟩
theorem dX2_usedConversions_44 : zD cX2_usedConversions 44 (.aaload) 1 45 := ⟨by decide +kernel, rfl⟩
theorem dX2_usedConversions_45 : zD cX2_usedConversions 45 (.iload 4) 2 47 := ⟨by decide +kernel, rfl⟩
theorem dX2_usedConversions_47 : zD cX2_usedConversions 47 (.iaload) 1 48 := ⟨by decide +kernel, rfl⟩
theorem dX2_usedConversions_48 : zD cX2_usedConversions 48 (.ishl) 1 49 := ⟨by decide +kernel, rfl⟩
theorem dX2_usedConversions_49 : zD cX2_usedConversions 49 (.ior) 1 50 := ⟨by decide +kernel, rfl⟩
theorem dX2_usedConversions_50 : zD cX2_usedConversions 50 (.istore_n 2) 1 51 := ⟨by decide +kernel, rfl⟩
theorem dX2_usedConversions_51 : zD cX2_usedConversions 51 (.iinc 4 1) 3 54 := ⟨by decide +kernel, rfl⟩
theorem dX2_usedConversions_54 : zD cX2_usedConversions 54 (.goto (-39)) 3 57 := ⟨by decide +kernel, rfl⟩
theorem dX2_usedConversions_57 : zD cX2_usedConversions 57 (.iinc 3 1) 3 60 := ⟨by decide +kernel, rfl⟩
theorem dX2_usedConversions_60 : zD cX2_usedConversions 60 (.goto (-56)) 3 63 := ⟨by decide +kernel, rfl⟩
theorem dX2_usedConversions_63 : zD cX2_usedConversions 63 (.iload_n 2) 1 64 := ⟨by decide +kernel, rfl⟩
theorem dX2_usedConversions_64 : zD cX2_usedConversions 64 (.ireturn) 1 65 := ⟨by decide +kernel, rfl⟩
theorem dX6_idle_0 : zD cX6_idle 0 (.iconst 1) 1 1 := ⟨by decide +kernel, rfl⟩
theorem dX6_idle_1 : zD cX6_idle 1 (.aload_n 0) 1 2 := ⟨by decide +kernel, rfl⟩
theorem dX6_idle_2 : zD cX6_idle 2 (.getfield 57) 3 5 := ⟨by decide +kernel, rfl⟩
theorem dX6_idle_5 : zD cX6_idle 5 (.getfield 97) 3 8 := ⟨by decide +kernel, rfl⟩
theorem dX6_idle_8 : zD cX6_idle 8 (.ishl) 1 9 := ⟨by decide +kernel, rfl⟩
theorem dX6_idle_9 : zD cX6_idle 9 (.iconst 1) 1 10 := ⟨by decide +kernel, rfl⟩
theorem dX6_idle_10 : zD cX6_idle 10 (.isub) 1 11 := ⟨by decide +kernel, rfl⟩
theorem dX6_idle_11 : zD cX6_idle 11 (.istore_n 1) 1 12 := ⟨by decide +kernel, rfl⟩
theorem dX6_idle_12 : zD cX6_idle 12 (.iload_n 1) 1 13 := ⟨by decide +kernel, rfl⟩
theorem dX6_idle_13 : zD cX6_idle 13 (.aload_n 0) 1 14 := ⟨by decide +kernel, rfl⟩
theorem dX6_idle_14 : zD cX6_idle 14 (.getfield 19) 3 17 := ⟨by decide +kernel, rfl⟩
theorem dX6_idle_17 : zD cX6_idle 17 (.aload_n 0) 1 18 := ⟨by decide +kernel, rfl⟩
theorem dX6_idle_18 : zD cX6_idle 18 (.getfield 57) 3 21 := ⟨by decide +kernel, rfl⟩
theorem dX6_idle_21 : zD cX6_idle 21 (.invokevirtual 311) 3 24 := ⟨by decide +kernel, rfl⟩
theorem dX6_idle_24 : zD cX6_idle 24 (.iconst (-1)) 1 25 := ⟨by decide +kernel, rfl⟩
theorem dX6_idle_25 : zD cX6_idle 25 (.ixor) 1 26 := ⟨by decide +kernel, rfl⟩
theorem dX6_idle_26 : zD cX6_idle 26 (.iand) 1 27 := ⟨by decide +kernel, rfl⟩
theorem dX6_idle_27 : zD cX6_idle 27 (.ireturn) 1 28 := ⟨by decide +kernel, rfl⟩
theorem dX2_passes_0 : zD cX2_passes 0 (.iconst 0) 1 1 := ⟨by decide +kernel, rfl⟩
theorem dX2_passes_1 : zD cX2_passes 1 (.istore 5) 2 3 := ⟨by decide +kernel, rfl⟩
theorem dX2_passes_3 : zD cX2_passes 3 (.iload 5) 2 5 := ⟨by decide +kernel, rfl⟩
theorem dX2_passes_5 : zD cX2_passes 5 (.bipush 8) 2 7 := ⟨by decide +kernel, rfl⟩
theorem dX2_passes_7 : zD cX2_passes 7 (.if_icmp .ge 25) 3 10 := ⟨by decide +kernel, rfl⟩
theorem dX2_passes_10 : zD cX2_passes 10 (.aload_n 0) 1 11 := ⟨by decide +kernel, rfl⟩
theorem dX2_passes_11 : zD cX2_passes 11 (.iload_n 1) 1 12 := ⟨by decide +kernel, rfl⟩
theorem dX2_passes_12 : zD cX2_passes 12 (.iload_n 2) 1 13 := ⟨by decide +kernel, rfl⟩
theorem dX2_passes_13 : zD cX2_passes 13 (.iload 5) 2 15 := ⟨by decide +kernel, rfl⟩
theorem dX2_passes_15 : zD cX2_passes 15 (.aload 4) 2 17 := ⟨by decide +kernel, rfl⟩
theorem dX2_passes_17 : zD cX2_passes 17 (.invokevirtual 68) 3 20 := ⟨by decide +kernel, rfl⟩
theorem dX2_passes_20 : zD cX2_passes 20 (.iload_n 3) 1 21 := ⟨by decide +kernel, rfl⟩
theorem dX2_passes_21 : zD cX2_passes 21 (.if_icmp .ne 5) 3 24 := ⟨by decide +kernel, rfl⟩
theorem dX2_passes_24 : zD cX2_passes 24 (.iconst 1) 1 25 := ⟨by decide +kernel, rfl⟩
theorem dX2_passes_25 : zD cX2_passes 25 (.ireturn) 1 26 := ⟨by decide +kernel, rfl⟩
theorem dX2_passes_26 : zD cX2_passes 26 (.iinc 5 1) 3 29 := ⟨by decide +kernel, rfl⟩
theorem dX2_passes_29 : zD cX2_passes 29 (.goto (-26)) 3 32 := ⟨by decide +kernel, rfl⟩
theorem dX2_passes_32 : zD cX2_passes 32 (.iconst 0) 1 33 := ⟨by decide +kernel, rfl⟩
theorem dX2_passes_33 : zD cX2_passes 33 (.ireturn) 1 34 := ⟨by decide +kernel, rfl⟩
theorem dX6_between_0 : zD cX6_between 0 (.aload_n 0) 1 1 := ⟨by decide +kernel, rfl⟩
theorem dX6_between_1 : zD cX6_between 1 (.iload_n 1) 1 2 := ⟨by decide +kernel, rfl⟩
theorem dX6_between_2 : zD cX6_between 2 (.invokevirtual 190) 3 5 := ⟨by decide +kernel, rfl⟩
theorem dX6_between_5 : zD cX6_between 5 (.iconst 0) 1 6 := ⟨by decide +kernel, rfl⟩
theorem dX6_between_6 : zD cX6_between 6 (.istore_n 2) 1 7 := ⟨by decide +kernel, rfl⟩
theorem dX6_between_7 : zD cX6_between 7 (.iconst 0) 1 8 := ⟨by decide +kernel, rfl⟩
theorem dX6_between_8 : zD cX6_between 8 (.istore_n 3) 1 9 := ⟨by decide +kernel, rfl⟩
theorem dX6_between_9 : zD cX6_between 9 (.iload_n 3) 1 10 := ⟨by decide +kernel, rfl⟩
theorem dX6_between_10 : zD cX6_between 10 (.aload_n 0) 1 11 := ⟨by decide +kernel, rfl⟩
theorem dX6_between_11 : zD cX6_between 11 (.getfield 57) 3 14 := ⟨by decide +kernel, rfl⟩
theorem dX6_between_14 : zD cX6_between 14 (.getfield 100) 3 17 := ⟨by decide +kernel, rfl⟩
theorem dX6_between_17 : zD cX6_between 17 (.if_icmp .ge 68) 3 20 := ⟨by decide +kernel, rfl⟩
theorem dX6_between_20 : zD cX6_between 20 (.iconst 0) 1 21 := ⟨by decide +kernel, rfl⟩
theorem dX6_between_21 : zD cX6_between 21 (.istore 4) 2 23 := ⟨by decide +kernel, rfl⟩
theorem dX6_between_23 : zD cX6_between 23 (.iload 4) 2 25 := ⟨by decide +kernel, rfl⟩
theorem dX6_between_25 : zD cX6_between 25 (.aload_n 0) 1 26 := ⟨by decide +kernel, rfl⟩
theorem dX6_between_26 : zD cX6_between 26 (.getfield 57) 3 29 := ⟨by decide +kernel, rfl⟩
theorem dX6_between_29 : zD cX6_between 29 (.getfield 100) 3 32 := ⟨by decide +kernel, rfl⟩
theorem dX6_between_32 : zD cX6_between 32 (.if_icmp .ge 47) 3 35 := ⟨by decide +kernel, rfl⟩
theorem dX6_between_35 : zD cX6_between 35 (.iload_n 3) 1 36 := ⟨by decide +kernel, rfl⟩
theorem dX6_between_36 : zD cX6_between 36 (.iload 4) 2 38 := ⟨by decide +kernel, rfl⟩
theorem dX6_between_38 : zD cX6_between 38 (.if_icmp .eq 35) 3 41 := ⟨by decide +kernel, rfl⟩
theorem dX6_between_41 : zD cX6_between 41 (.iload_n 3) 1 42 := ⟨by decide +kernel, rfl⟩
theorem dX6_between_42 : zD cX6_between 42 (.iload_n 1) 1 43 := ⟨by decide +kernel, rfl⟩
theorem dX6_between_43 : zD cX6_between 43 (.if_icmp .eq 30) 3 46 := ⟨by decide +kernel, rfl⟩
theorem dX6_between_46 : zD cX6_between 46 (.iload 4) 2 48 := ⟨by decide +kernel, rfl⟩
theorem dX6_between_48 : zD cX6_between 48 (.iload_n 1) 1 49 := ⟨by decide +kernel, rfl⟩
theorem dX6_between_49 : zD cX6_between 49 (.if_icmp .eq 24) 3 52 := ⟨by decide +kernel, rfl⟩
theorem dX6_between_52 : zD cX6_between 52 (.aload_n 0) 1 53 := ⟨by decide +kernel, rfl⟩
theorem dX6_between_53 : zD cX6_between 53 (.getfield 19) 3 56 := ⟨by decide +kernel, rfl⟩
theorem dX6_between_56 : zD cX6_between 56 (.iload_n 3) 1 57 := ⟨by decide +kernel, rfl⟩
theorem dX6_between_57 : zD cX6_between 57 (.iload 4) 2 59 := ⟨by decide +kernel, rfl⟩
theorem dX6_between_59 : zD cX6_between 59 (.iload_n 1) 1 60 := ⟨by decide +kernel, rfl⟩
theorem dX6_between_60 : zD cX6_between 60 (.aload_n 0) 1 61 := ⟨by decide +kernel, rfl⟩
theorem dX6_between_61 : zD cX6_between 61 (.getfield 57) 3 64 := ⟨by decide +kernel, rfl⟩
theorem dX6_between_64 : zD cX6_between 64 (.invokevirtual 314) 3 67 := ⟨by decide +kernel, rfl⟩
theorem dX6_between_67 : zD cX6_between 67 (.ifCond .eq 6) 3 70 := ⟨by decide +kernel, rfl⟩
theorem dX6_between_70 : zD cX6_between 70 (.iinc 2 1) 3 73 := ⟨by decide +kernel, rfl⟩
theorem dX6_between_73 : zD cX6_between 73 (.iinc 4 1) 3 76 := ⟨by decide +kernel, rfl⟩
theorem dX6_between_76 : zD cX6_between 76 (.goto (-53)) 3 79 := ⟨by decide +kernel, rfl⟩
theorem dX6_between_79 : zD cX6_between 79 (.iinc 3 1) 3 82 := ⟨by decide +kernel, rfl⟩
theorem dX6_between_82 : zD cX6_between 82 (.goto (-73)) 3 85 := ⟨by decide +kernel, rfl⟩
theorem dX6_between_85 : zD cX6_between 85 (.iload_n 2) 1 86 := ⟨by decide +kernel, rfl⟩
theorem dX6_between_86 : zD cX6_between 86 (.ireturn) 1 87 := ⟨by decide +kernel, rfl⟩
def fX3_addEntry (h : zH) (a0 : Nat) (a1 : Int32) (a2 : Int32) : Option (zH) :=
    if zkd h a0 = 4 then
    (zgI h 3 a0 3).bind fun w1 =>
    (zpI h 3 a0 3 ((w1 : Int32) + 1)).bind fun h2 =>
    zb2 (fX3_isFull h2 (a0)) fun w3 h4 =>
    if (w3 : Int32) = 0 then
    (fX3_makeRoom h4 (a0) (a2) ((-1))).bind fun h6 =>
    zb2 (fX3_isFull h6 (a0)) fun w7 h8 =>
    if (w7 : Int32) = 0 then
    (zgP h8 3 a0 0).bind fun w10 =>
    (zgI h8 3 a0 2).bind fun w11 =>
    (zaP h8 w10 (w11)).bind fun w12 =>
    (zgI h8 3 a0 3).bind fun w13 =>
    (fX1_begin h8 (w12) (a1) (a2) (w13)).bind fun h14 =>
    (zgI h14 3 a0 2).bind fun w15 =>
    (zpI h14 3 a0 2 ((w15 : Int32) + 1)).bind fun h16 =>
    (zgI h16 3 a0 2).bind fun w17 =>
    (fX3_moveToFront h16 (a0) (((w17 : Int32) - 1))).bind fun h18 =>
    some h18
    else
    some h8
    else
    zb2 (fX3_heaviest h4 (a0) ((-1))) fun w19 h20 =>
    (fX3_dropEntry h20 (a0) (w19)).bind fun h21 =>
    (fX3_makeRoom h21 (a0) (a2) ((-1))).bind fun h22 =>
    zb2 (fX3_isFull h22 (a0)) fun w23 h24 =>
    if (w23 : Int32) = 0 then
    (zgP h24 3 a0 0).bind fun w26 =>
    (zgI h24 3 a0 2).bind fun w27 =>
    (zaP h24 w26 (w27)).bind fun w28 =>
    (zgI h24 3 a0 3).bind fun w29 =>
    (fX1_begin h24 (w28) (a1) (a2) (w29)).bind fun h30 =>
    (zgI h30 3 a0 2).bind fun w31 =>
    (zpI h30 3 a0 2 ((w31 : Int32) + 1)).bind fun h32 =>
    (zgI h32 3 a0 2).bind fun w33 =>
    (fX3_moveToFront h32 (a0) (((w33 : Int32) - 1))).bind fun h34 =>
    some h34
    else
    some h24
    else none
theorem kfX3_addEntry {h : zH} {a0 : Nat} {a1 : Int32} {a2 : Int32} {r : zH} (hf : fX3_addEntry h a0 a1 a2 = some r) : zkd h a0 = 4 := by
  unfold fX3_addEntry at hf
  exact (zck hf).1
def fX6_copy (h : zH) (a0 : Nat) (a1 : Int32) (a2 : Int32) : Option ((Int32 ⊕ String) × zH) :=
    if zkd h a0 = 7 then
    zb4 (fX6_requireFormat h (a0) (a1)) fun h1 =>
    zb4 (fX6_requireNewSize h1 (a2)) fun h3 =>
    (zgP h3 6 a0 4).bind fun w5 =>
    zb2 (fX3_canAddEntry h3 (w5) (a2)) fun w6 h7 =>
    if (w6 : Int32) = 0 then
    some (.inr "java/lang/IllegalStateException", zoff h7)
    else
    (fX6_rememberNow h7 (a0)).bind fun h9 =>
    (zgP h9 6 a0 4).bind fun w10 =>
    (fX3_addEntry h9 (w10) (a1) (a2)).bind fun h11 =>
    (zgP h11 6 a0 4).bind fun w12 =>
    zb2 (fX3_usedSize h11 (w12)) fun w13 h14 =>
    some (.inl w13, h14)
    else none
theorem kfX6_copy {h : zH} {a0 : Nat} {a1 : Int32} {a2 : Int32} {r : (Int32 ⊕ String) × zH} (hf : fX6_copy h a0 a1 a2 = some r) : zkd h a0 = 7 := by
  unfold fX6_copy at hf
  exact (zck hf).1
def fX3_canAddForm (h : zH) (a0 : Nat) (a1 : Int32) (a2 : Int32) : Option (Int32 × zH) :=
    if zkd h a0 = 4 then
    (zgI h 3 a0 2).bind fun w1 =>
    if (1 : Int32) ≤ w1 then
    (zgP h 3 a0 0).bind fun w3 =>
    (zaP h w3 (0)).bind fun w4 =>
    zb2 (fX1_holds h (w4) (a1)) fun w5 h6 =>
    if (w5 : Int32) = 0 then
    zb2 (fX1_holdsDerived h6 (w4) (a1)) fun w8 h9 =>
    if (w8 : Int32) = 0 then
    zb2 (fX3_leastSize h9 (a0) (0) (0)) fun w11 h12 =>
    (zgI h12 3 a0 5).bind fun w13 =>
    if (w13 : Int32) < ((((w11 : Int32) - 0) : Int32) + a2) then
    some (0, h12)
    else
    some (1, h12)
    else
    (zgP h9 1 w4 0).bind fun w15 =>
    (zaI h9 w15 (a1)).bind fun w16 =>
    zb2 (fX3_leastSize h9 (a0) (0) (0)) fun w17 h18 =>
    (zgI h18 3 a0 5).bind fun w19 =>
    if (w19 : Int32) < ((((w17 : Int32) - w16) : Int32) + a2) then
    some (0, h18)
    else
    some (1, h18)
    else
    zb2 (fX1_holdsDerived h6 (w4) (a1)) fun w21 h22 =>
    if (w21 : Int32) = 0 then
    some (0, h22)
    else
    zb2 (fX1_holdsDerived h22 (w4) (a1)) fun w24 h25 =>
    if (w24 : Int32) = 0 then
    zb2 (fX3_leastSize h25 (a0) (0) (0)) fun w27 h28 =>
    (zgI h28 3 a0 5).bind fun w29 =>
    if (w29 : Int32) < ((((w27 : Int32) - 0) : Int32) + a2) then
    some (0, h28)
    else
    some (1, h28)
    else
    (zgP h25 1 w4 0).bind fun w31 =>
    (zaI h25 w31 (a1)).bind fun w32 =>
    zb2 (fX3_leastSize h25 (a0) (0) (0)) fun w33 h34 =>
    (zgI h34 3 a0 5).bind fun w35 =>
    if (w35 : Int32) < ((((w33 : Int32) - w32) : Int32) + a2) then
    some (0, h34)
    else
    some (1, h34)
    else
    some (0, h)
    else none
theorem kfX3_canAddForm {h : zH} {a0 : Nat} {a1 : Int32} {a2 : Int32} {r : Int32 × zH} (hf : fX3_canAddForm h a0 a1 a2 = some r) : zkd h a0 = 4 := by
  unfold fX3_canAddForm at hf
  exact (zck hf).1
def fX3_addForm (h : zH) (a0 : Nat) (a1 : Int32) (a2 : Int32) : Option (zH) :=
    if zkd h a0 = 4 then
    (zgI h 3 a0 2).bind fun w1 =>
    if (1 : Int32) ≤ w1 then
    (zgI h 3 a0 3).bind fun w3 =>
    (zpI h 3 a0 3 ((w3 : Int32) + 1)).bind fun h4 =>
    (zgP h4 3 a0 0).bind fun w5 =>
    (zaP h4 w5 (0)).bind fun w6 =>
    (fX1_dropForm h4 (w6) (a1)).bind fun h7 =>
    (fX3_makeRoom h7 (a0) (a2) (0)).bind fun h8 =>
    (zgP h8 3 a0 0).bind fun w9 =>
    (zaP h8 w9 (0)).bind fun w10 =>
    (fX1_putForm h8 (w10) (a1) (a2) (0) (0)).bind fun h11 =>
    some h11
    else
    some h
    else none
theorem kfX3_addForm {h : zH} {a0 : Nat} {a1 : Int32} {a2 : Int32} {r : zH} (hf : fX3_addForm h a0 a1 a2 = some r) : zkd h a0 = 4 := by
  unfold fX3_addForm at hf
  exact (zck hf).1
def fX6_offer (h : zH) (a0 : Nat) (a1 : Int32) (a2 : Int32) : Option ((Int32 ⊕ String) × zH) :=
    if zkd h a0 = 7 then
    zb4 (fX6_requireFormat h (a0) (a1)) fun h1 =>
    zb4 (fX6_requireNewSize h1 (a2)) fun h3 =>
    (zgP h3 6 a0 4).bind fun w5 =>
    zb2 (fX3_canAddForm h3 (w5) (a1) (a2)) fun w6 h7 =>
    if (w6 : Int32) = 0 then
    some (.inr "java/lang/IllegalStateException", zoff h7)
    else
    (fX6_rememberNow h7 (a0)).bind fun h9 =>
    (zgP h9 6 a0 4).bind fun w10 =>
    (fX3_addForm h9 (w10) (a1) (a2)).bind fun h11 =>
    (zgP h11 6 a0 4).bind fun w12 =>
    zb2 (fX3_usedSize h11 (w12)) fun w13 h14 =>
    some (.inl w13, h14)
    else none
theorem kfX6_offer {h : zH} {a0 : Nat} {a1 : Int32} {a2 : Int32} {r : (Int32 ⊕ String) × zH} (hf : fX6_offer h a0 a1 a2 = some r) : zkd h a0 = 7 := by
  unfold fX6_offer at hf
  exact (zck hf).1
def fX2_rankOf (h : zH) (a0 : Nat) (a1 : Int32) (a2 : Int32) : Option (Int32 × zH) :=
    if zkd h a0 = 3 then
    (zgP h 2 a0 2).bind fun w1 =>
    (zaP h w1 (a1)).bind fun w2 =>
    (zaI h w2 (a2)).bind fun w3 =>
    some (w3, h)
    else none
theorem kfX2_rankOf {h : zH} {a0 : Nat} {a1 : Int32} {a2 : Int32} {r : Int32 × zH} (hf : fX2_rankOf h a0 a1 a2 = some r) : zkd h a0 = 3 := by
  unfold fX2_rankOf at hf
  exact (zck hf).1
def fX0_sizeAfterStep (h : zH) (a0 : Nat) (a1 : Int32) (a2 : Int32) : Option (Int32 × zH) :=
    if zkd h a0 = 1 then
    (zgP h 0 a0 3).bind fun w1 =>
    (zaI h w1 (a1)).bind fun w2 =>
    if (((((((a2 : Int32) * w2) : Int32) + 9) : Int32) / 10) : Int32) ≤ 99999 then
    some (((((((a2 : Int32) * w2) : Int32) + 9) : Int32) / 10), h)
    else
    some (99999, h)
    else none
theorem kfX0_sizeAfterStep {h : zH} {a0 : Nat} {a1 : Int32} {a2 : Int32} {r : Int32 × zH} (hf : fX0_sizeAfterStep h a0 a1 a2 = some r) : zkd h a0 = 1 := by
  unfold fX0_sizeAfterStep at hf
  exact (zck hf).1
def fX2_sizeAtEnd_L9 (k : zH → Int32 → Int32 → Int32 → Option (Int32 × zH)) (u0 : Nat) (u1 : Int32) (u2 : Int32) (u3 : Int32) (u4 : Nat) : Nat → zH → Int32 → Int32 → Int32 → Option (Int32 × zH)
  | 0, _, _, _, _ => none
  | n + 1, h, v5, v6, v7 => if (8 : Int32) ≤ v7 then
    k h (v5) (v6) (v7)
    else
    if (v6 : Int32) = u2 then
    k h (v5) (v6) (v7)
    else
    (zgP h 2 u0 3).bind fun w3 =>
    (zaP h w3 (v6)).bind fun w4 =>
    (zaI h w4 (u2)).bind fun w5 =>
    if (w5 : Int32) = (-1) then
    some ((-9), h)
    else
    zb2 (fX0_sizeAfterStep h (u4) (w5) (v5)) fun w7 h8 =>
    (zgP h8 0 u4 1).bind fun w9 =>
    (zaI h8 w9 (w5)).bind fun w10 =>
    fX2_sizeAtEnd_L9 k u0 u1 u2 u3 u4 n h8 (w7) (w10) ((v7 + 1))
def fX2_sizeAtEnd (h : zH) (a0 : Nat) (a1 : Int32) (a2 : Int32) (a3 : Int32) (a4 : Nat) : Option (Int32 × zH) :=
    if zkd h a0 = 3 then
    fX2_sizeAtEnd_L9 (fun h1 y2 y3 y4 =>
    some (y2, h1)) (a0) (a1) (a2) (a3) (a4) zF h (a3) (a1) (0)
    else none
theorem kfX2_sizeAtEnd {h : zH} {a0 : Nat} {a1 : Int32} {a2 : Int32} {a3 : Int32} {a4 : Nat} {r : Int32 × zH} (hf : fX2_sizeAtEnd h a0 a1 a2 a3 a4 = some r) : zkd h a0 = 3 := by
  unfold fX2_sizeAtEnd at hf
  exact (zck hf).1
def fX2_costOf (h : zH) (a0 : Nat) (a1 : Int32) (a2 : Int32) : Option (Int32 × zH) :=
    if zkd h a0 = 3 then
    zb2 (fX2_connects h (a0) (a1) (a2)) fun w1 h2 =>
    if (w1 : Int32) = 0 then
    some ((-9), h2)
    else
    (zgP h2 2 a0 2).bind fun w4 =>
    (zaP h2 w4 (a1)).bind fun w5 =>
    (zaI h2 w5 (a2)).bind fun w6 =>
    some (((w6 : Int32) / 8), h2)
    else none
theorem kfX2_costOf {h : zH} {a0 : Nat} {a1 : Int32} {a2 : Int32} {r : Int32 × zH} (hf : fX2_costOf h a0 a1 a2 = some r) : zkd h a0 = 3 := by
  unfold fX2_costOf at hf
  exact (zck hf).1
def fX2_lossOf_L9 (k : zH → Int32 → Int32 → Int32 → Option (Int32 × zH)) (u0 : Nat) (u1 : Int32) (u2 : Int32) (u3 : Nat) : Nat → zH → Int32 → Int32 → Int32 → Option (Int32 × zH)
  | 0, _, _, _, _ => none
  | n + 1, h, v4, v5, v6 => if (8 : Int32) ≤ v6 then
    k h (v4) (v5) (v6)
    else
    if (v5 : Int32) = u2 then
    k h (v4) (v5) (v6)
    else
    (zgP h 2 u0 3).bind fun w3 =>
    (zaP h w3 (v5)).bind fun w4 =>
    (zaI h w4 (u2)).bind fun w5 =>
    if (w5 : Int32) = (-1) then
    some ((-9), h)
    else
    (zgP h 0 u3 4).bind fun w7 =>
    (zaI h w7 (w5)).bind fun w8 =>
    (zgP h 0 u3 1).bind fun w9 =>
    (zaI h w9 (w5)).bind fun w10 =>
    fX2_lossOf_L9 k u0 u1 u2 u3 n h (((v4 : Int32) + w8)) (w10) ((v6 + 1))
def fX2_lossOf (h : zH) (a0 : Nat) (a1 : Int32) (a2 : Int32) (a3 : Nat) : Option (Int32 × zH) :=
    if zkd h a0 = 3 then
    fX2_lossOf_L9 (fun h1 y2 y3 y4 =>
    some (y2, h1)) (a0) (a1) (a2) (a3) zF h (0) (a1) (0)
    else none
theorem kfX2_lossOf {h : zH} {a0 : Nat} {a1 : Int32} {a2 : Int32} {a3 : Nat} {r : Int32 × zH} (hf : fX2_lossOf h a0 a1 a2 a3 = some r) : zkd h a0 = 3 := by
  unfold fX2_lossOf at hf
  exact (zck hf).1
def fX5_search_L19 (k : zH → Int32 → Int32 → Option (Int32 × zH)) (u0 : Nat) (u1 : Nat) (u2 : Int32) (u3 : Nat) (u4 : Nat) (u6 : Int32) : Nat → zH → Int32 → Int32 → Option (Int32 × zH)
  | 0, _, _, _ => none
  | n + 1, h, v5, v7 => (zgI h 0 u3 8).bind fun w1 =>
    if (w1 : Int32) ≤ v7 then
    k h (v5) (v7)
    else
    (zgP h 0 u3 5).bind fun w3 =>
    (zaI h w3 (u2)).bind fun w4 =>
    if (((((w4 : Int32) >>> (u6 &&& 31)) : Int32) &&& 1) : Int32) = 1 then
    zb2 (fX1_holds h (u1) (v7)) fun w6 h7 =>
    if (w6 : Int32) = 0 then
    fX5_search_L19 k u0 u1 u2 u3 u4 u6 n h7 (v5) ((v7 + 1))
    else
    zb2 (fX2_rankOf h7 (u4) (v7) (u6)) fun w9 h10 =>
    if (v5 : Int32) ≤ w9 then
    fX5_search_L19 k u0 u1 u2 u3 u4 u6 n h10 (v5) ((v7 + 1))
    else
    (zgP h10 1 u1 0).bind fun w12 =>
    (zaI h10 w12 (v7)).bind fun w13 =>
    zb2 (fX2_sizeAtEnd h10 (u4) (v7) (u6) (w13) (u3)) fun w14 h15 =>
    (zgP h15 0 u3 6).bind fun w16 =>
    (zaI h15 w16 (u2)).bind fun w17 =>
    if (w17 : Int32) < w14 then
    fX5_search_L19 k u0 u1 u2 u3 u4 u6 n h15 (v5) ((v7 + 1))
    else
    zb2 (fX2_rankOf h15 (u4) (v7) (u6)) fun w19 h20 =>
    (zpI h20 5 u0 1 v7).bind fun h21 =>
    (zpI h21 5 u0 2 u6).bind fun h22 =>
    fX5_search_L19 k u0 u1 u2 u3 u4 u6 n h22 (w19) ((v7 + 1))
    else
    fX5_search_L19 k u0 u1 u2 u3 u4 u6 n h (v5) ((v7 + 1))
def fX5_search_L7 (k : zH → Int32 → Int32 → Option (Int32 × zH)) (u0 : Nat) (u1 : Nat) (u2 : Int32) (u3 : Nat) (u4 : Nat) : Nat → zH → Int32 → Int32 → Option (Int32 × zH)
  | 0, _, _, _ => none
  | n + 1, h, v5, v6 => (zgI h 0 u3 8).bind fun w1 =>
    if (w1 : Int32) ≤ v6 then
    k h (v5) (v6)
    else
    fX5_search_L19 (fun h3 y4 y5 =>
    fX5_search_L7 k u0 u1 u2 u3 u4 n h3 (y4) ((v6 + 1))) (u0) (u1) (u2) (u3) (u4) (v6) zF h (v5) (0)
def fX5_search (h : zH) (a0 : Nat) (a1 : Nat) (a2 : Int32) (a3 : Nat) (a4 : Nat) : Option (Int32 × zH) :=
    if zkd h a0 = 6 then
    fX5_search_L7 (fun h1 y2 y3 =>
    if (y2 : Int32) = 1000000 then
    some (0, h1)
    else
    (zgI h1 5 a0 1).bind fun w5 =>
    (zgI h1 5 a0 2).bind fun w6 =>
    zb2 (fX2_costOf h1 (a4) (w5) (w6)) fun w7 h8 =>
    (zpI h8 5 a0 0 w7).bind fun h9 =>
    (zgI h9 5 a0 1).bind fun w10 =>
    (zgI h9 5 a0 2).bind fun w11 =>
    (zgP h9 1 a1 0).bind fun w12 =>
    (zgI h9 5 a0 1).bind fun w13 =>
    (zaI h9 w12 (w13)).bind fun w14 =>
    zb2 (fX2_sizeAtEnd h9 (a4) (w10) (w11) (w14) (a3)) fun w15 h16 =>
    (zpI h16 5 a0 3 w15).bind fun h17 =>
    (zgP h17 1 a1 1).bind fun w18 =>
    (zgI h17 5 a0 1).bind fun w19 =>
    (zaI h17 w18 (w19)).bind fun w20 =>
    (zgI h17 5 a0 1).bind fun w21 =>
    (zgI h17 5 a0 2).bind fun w22 =>
    zb2 (fX2_lossOf h17 (a4) (w21) (w22) (a3)) fun w23 h24 =>
    (zpI h24 5 a0 4 ((w20 : Int32) + w23)).bind fun h25 =>
    some (1, h25)) (a0) (a1) (a2) (a3) (a4) zF h (1000000) (0)
    else none
theorem kfX5_search {h : zH} {a0 : Nat} {a1 : Nat} {a2 : Int32} {a3 : Nat} {a4 : Nat} {r : Int32 × zH} (hf : fX5_search h a0 a1 a2 a3 a4 = some r) : zkd h a0 = 6 := by
  unfold fX5_search at hf
  exact (zck hf).1
def fX6_findWay (h : zH) (a0 : Nat) (a1 : Nat) (a2 : Int32) (a3 : Int32) : Option (Int32 × zH) :=
    if zkd h a0 = 7 then
    (zgP h 6 a0 3).bind fun w1 =>
    (zgP h 3 a1 0).bind fun w2 =>
    (zaP h w2 (a2)).bind fun w3 =>
    (zgP h 6 a0 9).bind fun w4 =>
    (zgP h 6 a0 1).bind fun w5 =>
    zb2 (fX5_search h (w1) (w3) (a3) (w4) (w5)) fun w6 h7 =>
    if (w6 : Int32) = 0 ∨ w6 = 1 then some (w6, h7) else none
    else none
theorem kfX6_findWay {h : zH} {a0 : Nat} {a1 : Nat} {a2 : Int32} {a3 : Int32} {r : Int32 × zH} (hf : fX6_findWay h a0 a1 a2 a3 = some r) : zkd h a0 = 7 := by
  unfold fX6_findWay at hf
  exact (zck hf).1
def fX3_useEntry (h : zH) (a0 : Nat) (a1 : Int32) (a2 : Nat) : Option (zH) :=
    if zkd h a0 = 4 then
    zb2 (fX3_hasEntry h (a0) (a1)) fun w1 h2 =>
    if (w1 : Int32) = 0 then
    some h2
    else
    (zgP h2 3 a0 0).bind fun w4 =>
    (zaP h2 w4 (a1)).bind fun w5 =>
    (zgI h2 3 a0 3).bind fun w6 =>
    (zpI h2 3 a0 3 ((w6 : Int32) + 1)).bind fun h7 =>
    (zgI h7 3 a0 4).bind fun w8 =>
    (zgI h7 5 a2 0).bind fun w9 =>
    (zpI h7 3 a0 4 ((w8 : Int32) + w9)).bind fun h10 =>
    (zgI h10 1 w5 6).bind fun w11 =>
    (zpI h10 1 w5 6 ((w11 : Int32) + 1)).bind fun h12 =>
    (zgI h12 3 a0 3).bind fun w13 =>
    (zpI h12 1 w5 7 w13).bind fun h14 =>
    (zgI h14 5 a2 2).bind fun w15 =>
    zb2 (fX1_holds h14 (w5) (w15)) fun w16 h17 =>
    if (w16 : Int32) = 0 then
    zb2 (fX3_leastSize h17 (a0) (a1) (1)) fun w19 h20 =>
    (zgI h20 5 a2 3).bind fun w21 =>
    (zgI h20 3 a0 5).bind fun w22 =>
    if (w22 : Int32) < ((w19 : Int32) + w21) then
    (fX3_moveToFront h20 (a0) (a1)).bind fun h24 =>
    some h24
    else
    (zgI h20 5 a2 3).bind fun w25 =>
    (fX3_makeRoom h20 (a0) (w25) (a1)).bind fun h26 =>
    (zgI h26 5 a2 2).bind fun w27 =>
    (zgI h26 5 a2 3).bind fun w28 =>
    (zgI h26 5 a2 4).bind fun w29 =>
    (fX1_putForm h26 (w5) (w27) (w28) (w29) (1)).bind fun h30 =>
    (fX3_moveToFront h30 (a0) (a1)).bind fun h31 =>
    some h31
    else
    (fX3_moveToFront h17 (a0) (a1)).bind fun h32 =>
    some h32
    else none
theorem kfX3_useEntry {h : zH} {a0 : Nat} {a1 : Int32} {a2 : Nat} {r : zH} (hf : fX3_useEntry h a0 a1 a2 = some r) : zkd h a0 = 4 := by
  unfold fX3_useEntry at hf
  exact (zck hf).1
def fX6_paste (h : zH) (a0 : Nat) (a1 : Int32) (a2 : Int32) : Option ((Int32 ⊕ String) × zH) :=
    if zkd h a0 = 7 then
    zb4 (fX6_requireEntry h (a0) (a1)) fun h1 =>
    zb4 (fX6_requirePlace h1 (a0) (a2)) fun h3 =>
    (zgP h3 6 a0 4).bind fun w5 =>
    zb2 (fX6_findWay h3 (a0) (w5) (a1) (a2)) fun w6 h7 =>
    if (w6 : Int32) = 0 then
    some (.inr "java/lang/IllegalStateException", zoff h7)
    else
    (fX6_rememberNow h7 (a0)).bind fun h9 =>
    (zgP h9 6 a0 4).bind fun w10 =>
    (zgP h9 6 a0 3).bind fun w11 =>
    (fX3_useEntry h9 (w10) (a1) (w11)).bind fun h12 =>
    (zgP h12 6 a0 3).bind fun w13 =>
    (zgI h12 5 w13 2).bind fun w14 =>
    some (.inl w14, h12)
    else none
theorem kfX6_paste {h : zH} {a0 : Nat} {a1 : Int32} {a2 : Int32} {r : (Int32 ⊕ String) × zH} (hf : fX6_paste h a0 a1 a2 = some r) : zkd h a0 = 7 := by
  unfold fX6_paste at hf
  exact (zck hf).1
def fX3_switchPin (h : zH) (a0 : Nat) (a1 : Int32) : Option (zH) :=
    if zkd h a0 = 4 then
    zb2 (fX3_hasEntry h (a0) (a1)) fun w1 h2 =>
    if (w1 : Int32) = 0 then
    some h2
    else
    (zgP h2 3 a0 0).bind fun w4 =>
    (zaP h2 w4 (a1)).bind fun w5 =>
    (zgP h2 3 a0 0).bind fun w6 =>
    (zaP h2 w6 (a1)).bind fun w7 =>
    (zgI h2 1 w7 5).bind fun w8 =>
    if (w8 : Int32) = 0 then
    (zpZ h2 1 w5 5 1).bind fun h10 =>
    some h10
    else
    (zpZ h2 1 w5 5 0).bind fun h11 =>
    some h11
    else none
theorem kfX3_switchPin {h : zH} {a0 : Nat} {a1 : Int32} {r : zH} (hf : fX3_switchPin h a0 a1 = some r) : zkd h a0 = 4 := by
  unfold fX3_switchPin at hf
  exact (zck hf).1
def fX6_togglePin (h : zH) (a0 : Nat) (a1 : Int32) : Option ((Int32 ⊕ String) × zH) :=
    if zkd h a0 = 7 then
    zb4 (fX6_requireEntry h (a0) (a1)) fun h1 =>
    (fX6_rememberNow h1 (a0)).bind fun h3 =>
    (zgP h3 6 a0 4).bind fun w4 =>
    (fX3_switchPin h3 (w4) (a1)).bind fun h5 =>
    (zgP h5 6 a0 4).bind fun w6 =>
    zb2 (fX3_pinnedCount h5 (w6)) fun w7 h8 =>
    some (.inl w7, h8)
    else none
theorem kfX6_togglePin {h : zH} {a0 : Nat} {a1 : Int32} {r : (Int32 ⊕ String) × zH} (hf : fX6_togglePin h a0 a1 = some r) : zkd h a0 = 7 := by
  unfold fX6_togglePin at hf
  exact (zck hf).1
def fX6_remove (h : zH) (a0 : Nat) (a1 : Int32) : Option ((Int32 ⊕ String) × zH) :=
    if zkd h a0 = 7 then
    zb4 (fX6_requireEntry h (a0) (a1)) fun h1 =>
    (fX6_rememberNow h1 (a0)).bind fun h3 =>
    (zgP h3 6 a0 4).bind fun w4 =>
    (zgP h3 3 w4 0).bind fun w5 =>
    (zaP h3 w5 (a1)).bind fun w6 =>
    (zgI h3 1 w6 4).bind fun w7 =>
    (zgP h3 6 a0 4).bind fun w8 =>
    (fX3_dropEntry h3 (w8) (a1)).bind fun h9 =>
    some (.inl w7, h9)
    else none
theorem kfX6_remove {h : zH} {a0 : Nat} {a1 : Int32} {r : (Int32 ⊕ String) × zH} (hf : fX6_remove h a0 a1 = some r) : zkd h a0 = 7 := by
  unfold fX6_remove at hf
  exact (zck hf).1
def fX6_setBudget (h : zH) (a0 : Nat) (a1 : Int32) : Option ((Int32 ⊕ String) × zH) :=
    if zkd h a0 = 7 then
    if (a1 : Int32) < 1 then
    some (.inr "java/lang/IllegalArgumentException", zoff h)
    else
    if (a1 : Int32) ≤ 99999 then
    (zgP h 6 a0 4).bind fun w3 =>
    zb2 (fX3_leastSize h (w3) ((-1)) (0)) fun w4 h5 =>
    if (w4 : Int32) ≤ a1 then
    (fX6_rememberNow h5 (a0)).bind fun h7 =>
    (zgP h7 6 a0 4).bind fun w8 =>
    (zpI h7 3 w8 5 a1).bind fun h9 =>
    (zgP h9 6 a0 4).bind fun w10 =>
    (fX3_makeRoom h9 (w10) (0) ((-1))).bind fun h11 =>
    (zgP h11 6 a0 4).bind fun w12 =>
    zb2 (fX3_usedSize h11 (w12)) fun w13 h14 =>
    some (.inl w13, h14)
    else
    some (.inr "java/lang/IllegalStateException", zoff h5)
    else
    some (.inr "java/lang/IllegalArgumentException", zoff h)
    else none
theorem kfX6_setBudget {h : zH} {a0 : Nat} {a1 : Int32} {r : (Int32 ⊕ String) × zH} (hf : fX6_setBudget h a0 a1 = some r) : zkd h a0 = 7 := by
  unfold fX6_setBudget at hf
  exact (zck hf).1
def fX6_setCost (h : zH) (a0 : Nat) (a1 : Int32) (a2 : Int32) : Option ((Int32 ⊕ String) × zH) :=
    if zkd h a0 = 7 then
    zb4 (fX6_requireConversion h (a0) (a1)) fun h1 =>
    if (a2 : Int32) < 1 then
    some (.inr "java/lang/IllegalArgumentException", zoff h1)
    else
    if (a2 : Int32) ≤ 99 then
    (fX6_rememberNow h1 (a0)).bind fun h5 =>
    (zgP h5 6 a0 4).bind fun w6 =>
    (zgP h5 3 w6 1).bind fun w7 =>
    (zaI h5 w7 (a1)).bind fun w8 =>
    (zgP h5 6 a0 4).bind fun w9 =>
    (zgP h5 3 w9 1).bind fun w10 =>
    (zbI h5 w10 (a1) (a2)).bind fun h11 =>
    (fX6_findPaths h11 (a0)).bind fun h12 =>
    some (.inl w8, h12)
    else
    some (.inr "java/lang/IllegalArgumentException", zoff h1)
    else none
theorem kfX6_setCost {h : zH} {a0 : Nat} {a1 : Int32} {a2 : Int32} {r : (Int32 ⊕ String) × zH} (hf : fX6_setCost h a0 a1 a2 = some r) : zkd h a0 = 7 := by
  unfold fX6_setCost at hf
  exact (zck hf).1
def fX6_undo (h : zH) (a0 : Nat) : Option ((Int32 ⊕ String) × zH) :=
    if zkd h a0 = 7 then
    (zgI h 6 a0 11).bind fun w1 =>
    if (w1 : Int32) < 1 then
    some (.inr "java/lang/IllegalStateException", zoff h)
    else
    (zgI h 6 a0 11).bind fun w3 =>
    (zgP h 6 a0 6).bind fun w4 =>
    (zle h w4).bind fun w5 =>
    if (w3 : Int32) ≤ w5 then
    (zgI h 6 a0 11).bind fun w7 =>
    (zpI h 6 a0 11 ((w7 : Int32) - 1)).bind fun h8 =>
    (zgP h8 6 a0 4).bind fun w9 =>
    (zgP h8 6 a0 6).bind fun w10 =>
    (zgI h8 6 a0 11).bind fun w11 =>
    (zaP h8 w10 (w11)).bind fun w12 =>
    (fX3_takeOver h8 (w9) (w12)).bind fun h13 =>
    (fX6_findPaths h13 (a0)).bind fun h14 =>
    (zgI h14 6 a0 11).bind fun w15 =>
    some (.inl w15, h14)
    else
    some (.inr "java/lang/IllegalStateException", zoff h)
    else none
theorem kfX6_undo {h : zH} {a0 : Nat} {r : (Int32 ⊕ String) × zH} (hf : fX6_undo h a0 = some r) : zkd h a0 = 7 := by
  unfold fX6_undo at hf
  exact (zck hf).1
def fX2_stepsOf (h : zH) (a0 : Nat) (a1 : Int32) (a2 : Int32) : Option (Int32 × zH) :=
    if zkd h a0 = 3 then
    zb2 (fX2_connects h (a0) (a1) (a2)) fun w1 h2 =>
    if (w1 : Int32) = 0 then
    some ((-9), h2)
    else
    (zgP h2 2 a0 2).bind fun w4 =>
    (zaP h2 w4 (a1)).bind fun w5 =>
    (zaI h2 w5 (a2)).bind fun w6 =>
    some (((w6 : Int32) - w6 / 8 * 8), h2)
    else none
theorem kfX2_stepsOf {h : zH} {a0 : Nat} {a1 : Int32} {a2 : Int32} {r : Int32 × zH} (hf : fX2_stepsOf h a0 a1 a2 = some r) : zkd h a0 = 3 := by
  unfold fX2_stepsOf at hf
  exact (zck hf).1
def fX6_path (h : zH) (a0 : Nat) (a1 : Int32) (a2 : Int32) (a3 : Int32) : Option ((Int32 ⊕ String) × zH) :=
    if zkd h a0 = 7 then
    zb4 (fX6_requireFormat h (a0) (a1)) fun h1 =>
    zb4 (fX6_requireFormat h1 (a0) (a2)) fun h3 =>
    if (a3 : Int32) = 0 then
    (zgP h3 6 a0 1).bind fun w6 =>
    zb2 (fX2_costOf h3 (w6) (a1) (a2)) fun w7 h8 =>
    some (.inl w7, h8)
    else
    if (a3 : Int32) = 1 then
    (zgP h3 6 a0 1).bind fun w10 =>
    zb2 (fX2_stepsOf h3 (w10) (a1) (a2)) fun w11 h12 =>
    some (.inl w11, h12)
    else
    if (a3 : Int32) = 2 then
    (zgP h3 6 a0 1).bind fun w14 =>
    (zgP h3 6 a0 9).bind fun w15 =>
    zb2 (fX2_lossOf h3 (w14) (a1) (a2) (w15)) fun w16 h17 =>
    some (.inl w16, h17)
    else
    some (.inr "java/lang/IllegalArgumentException", zoff h3)
    else none
theorem kfX6_path {h : zH} {a0 : Nat} {a1 : Int32} {a2 : Int32} {a3 : Int32} {r : (Int32 ⊕ String) × zH} (hf : fX6_path h a0 a1 a2 a3 = some r) : zkd h a0 = 7 := by
  unfold fX6_path at hf
  exact (zck hf).1
def fX2_formatAt_L18 (k : zH → Int32 → Int32 → Option (Int32 × zH)) (u0 : Nat) (u1 : Int32) (u2 : Int32) (u3 : Int32) (u4 : Nat) : Nat → zH → Int32 → Int32 → Option (Int32 × zH)
  | 0, _, _, _ => none
  | n + 1, h, v5, v6 => if (8 : Int32) ≤ v6 then
    k h (v5) (v6)
    else
    if (u3 : Int32) ≤ v6 then
    k h (v5) (v6)
    else
    (zgP h 2 u0 3).bind fun w3 =>
    (zaP h w3 (v5)).bind fun w4 =>
    (zaI h w4 (u2)).bind fun w5 =>
    if (w5 : Int32) = (-1) then
    some ((-9), h)
    else
    (zgP h 0 u4 1).bind fun w7 =>
    (zaI h w7 (w5)).bind fun w8 =>
    fX2_formatAt_L18 k u0 u1 u2 u3 u4 n h (w8) ((v6 + 1))
def fX2_formatAt (h : zH) (a0 : Nat) (a1 : Int32) (a2 : Int32) (a3 : Int32) (a4 : Nat) : Option (Int32 × zH) :=
    if zkd h a0 = 3 then
    zb2 (fX2_connects h (a0) (a1) (a2)) fun w1 h2 =>
    if (w1 : Int32) = 0 then
    some ((-9), h2)
    else
    fX2_formatAt_L18 (fun h4 y5 y6 =>
    some (y5, h4)) (a0) (a1) (a2) (a3) (a4) zF h2 (a1) (0)
    else none
theorem kfX2_formatAt {h : zH} {a0 : Nat} {a1 : Int32} {a2 : Int32} {a3 : Int32} {a4 : Nat} {r : Int32 × zH} (hf : fX2_formatAt h a0 a1 a2 a3 a4 = some r) : zkd h a0 = 3 := by
  unfold fX2_formatAt at hf
  exact (zck hf).1
def fX6_step (h : zH) (a0 : Nat) (a1 : Int32) (a2 : Int32) (a3 : Int32) : Option ((Int32 ⊕ String) × zH) :=
    if zkd h a0 = 7 then
    zb4 (fX6_requireFormat h (a0) (a1)) fun h1 =>
    zb4 (fX6_requireFormat h1 (a0) (a2)) fun h3 =>
    if (a3 : Int32) < 0 then
    some (.inr "java/lang/IllegalArgumentException", zoff h3)
    else
    if (a3 : Int32) < 8 then
    (zgP h3 6 a0 1).bind fun w7 =>
    (zgP h3 6 a0 9).bind fun w8 =>
    zb2 (fX2_formatAt h3 (w7) (a1) (a2) (a3) (w8)) fun w9 h10 =>
    some (.inl w9, h10)
    else
    some (.inr "java/lang/IllegalArgumentException", zoff h3)
    else none
theorem kfX6_step {h : zH} {a0 : Nat} {a1 : Int32} {a2 : Int32} {a3 : Int32} {r : (Int32 ⊕ String) × zH} (hf : fX6_step h a0 a1 a2 a3 = some r) : zkd h a0 = 7 := by
  unfold fX6_step at hf
  exact (zck hf).1
def fX6_sizeAfter (h : zH) (a0 : Nat) (a1 : Int32) (a2 : Int32) (a3 : Int32) : Option ((Int32 ⊕ String) × zH) :=
    if zkd h a0 = 7 then
    zb4 (fX6_requireFormat h (a0) (a1)) fun h1 =>
    zb4 (fX6_requireFormat h1 (a0) (a2)) fun h3 =>
    if (a3 : Int32) < 1 then
    some (.inr "java/lang/IllegalArgumentException", zoff h3)
    else
    if (a3 : Int32) ≤ 99999 then
    (zgP h3 6 a0 1).bind fun w7 =>
    (zgP h3 6 a0 9).bind fun w8 =>
    zb2 (fX2_sizeAtEnd h3 (w7) (a1) (a2) (a3) (w8)) fun w9 h10 =>
    some (.inl w9, h10)
    else
    some (.inr "java/lang/IllegalArgumentException", zoff h3)
    else none
theorem kfX6_sizeAfter {h : zH} {a0 : Nat} {a1 : Int32} {a2 : Int32} {a3 : Int32} {r : (Int32 ⊕ String) × zH} (hf : fX6_sizeAfter h a0 a1 a2 a3 = some r) : zkd h a0 = 7 := by
  unfold fX6_sizeAfter at hf
  exact (zck hf).1
def fX6_reachable_L9 (k : zH → Int32 → Int32 → Option ((Int32 ⊕ String) × zH)) (u0 : Nat) (u1 : Int32) : Nat → zH → Int32 → Int32 → Option ((Int32 ⊕ String) × zH)
  | 0, _, _, _ => none
  | n + 1, h, v2, v3 => (zgP h 6 u0 9).bind fun w1 =>
    (zgI h 0 w1 8).bind fun w2 =>
    if (w2 : Int32) ≤ v3 then
    k h (v2) (v3)
    else
    (zgP h 6 u0 1).bind fun w4 =>
    zb2 (fX2_connects h (w4) (u1) (v3)) fun w5 h6 =>
    if (w5 : Int32) = 0 then
    fX6_reachable_L9 k u0 u1 n h6 (v2) ((v3 + 1))
    else
    fX6_reachable_L9 k u0 u1 n h6 (((v2 : Int32) ||| ((1 : Int32) <<< (v3 &&& 31)))) ((v3 + 1))
def fX6_reachable (h : zH) (a0 : Nat) (a1 : Int32) : Option ((Int32 ⊕ String) × zH) :=
    if zkd h a0 = 7 then
    zb4 (fX6_requireFormat h (a0) (a1)) fun h1 =>
    fX6_reachable_L9 (fun h3 y4 y5 =>
    some (.inl y4, h3)) (a0) (a1) zF h1 (0) (0)
    else none
theorem kfX6_reachable {h : zH} {a0 : Nat} {a1 : Int32} {r : (Int32 ⊕ String) × zH} (hf : fX6_reachable h a0 a1 = some r) : zkd h a0 = 7 := by
  unfold fX6_reachable at hf
  exact (zck hf).1
def fX6_without (h : zH) (a0 : Nat) (a1 : Int32) (a2 : Int32) (a3 : Int32) : Option ((Int32 ⊕ String) × zH) :=
    if zkd h a0 = 7 then
    zb4 (fX6_requireConversion h (a0) (a1)) fun h1 =>
    zb4 (fX6_requireFormat h1 (a0) (a2)) fun h3 =>
    zb4 (fX6_requireFormat h3 (a0) (a3)) fun h5 =>
    (zgP h5 6 a0 2).bind fun w7 =>
    (zgP h5 6 a0 9).bind fun w8 =>
    (zgP h5 6 a0 4).bind fun w9 =>
    (zgP h5 3 w9 1).bind fun w10 =>
    (fX2_find h5 (w7) (w8) (w10) (a1)).bind fun h11 =>
    (zgP h11 6 a0 2).bind fun w12 =>
    zb2 (fX2_costOf h11 (w12) (a2) (a3)) fun w13 h14 =>
    some (.inl w13, h14)
    else none
theorem kfX6_without {h : zH} {a0 : Nat} {a1 : Int32} {a2 : Int32} {a3 : Int32} {r : (Int32 ⊕ String) × zH} (hf : fX6_without h a0 a1 a2 a3 = some r) : zkd h a0 = 7 := by
  unfold fX6_without at hf
  exact (zck hf).1
def fX6_worth (h : zH) (a0 : Nat) (a1 : Int32) : Option ((Int32 ⊕ String) × zH) :=
    if zkd h a0 = 7 then
    zb4 (fX6_requireConversion h (a0) (a1)) fun h1 =>
    (zgP h1 6 a0 2).bind fun w3 =>
    (zgP h1 6 a0 9).bind fun w4 =>
    (zgP h1 6 a0 4).bind fun w5 =>
    (zgP h1 3 w5 1).bind fun w6 =>
    (fX2_find h1 (w3) (w4) (w6) (a1)).bind fun h7 =>
    (zgP h7 6 a0 2).bind fun w8 =>
    (zgP h7 6 a0 9).bind fun w9 =>
    (zgP h7 0 w9 0).bind fun w10 =>
    (zaI h7 w10 (a1)).bind fun w11 =>
    (zgP h7 6 a0 9).bind fun w12 =>
    (zgP h7 0 w12 1).bind fun w13 =>
    (zaI h7 w13 (a1)).bind fun w14 =>
    zb2 (fX2_costOf h7 (w8) (w11) (w14)) fun w15 h16 =>
    if (w15 : Int32) = (-9) then
    some (.inl 99, h16)
    else
    some (.inl (if (99 : Int32) < w15 then 99 else w15), h16)
    else none
theorem kfX6_worth {h : zH} {a0 : Nat} {a1 : Int32} {r : (Int32 ⊕ String) × zH} (hf : fX6_worth h a0 a1 = some r) : zkd h a0 = 7 := by
  unfold fX6_worth at hf
  exact (zck hf).1
def fX2_usedConversions_L15 (k : zH → Int32 → Int32 → Option (Int32 × zH)) (u0 : Nat) (u1 : Nat) (u3 : Int32) : Nat → zH → Int32 → Int32 → Option (Int32 × zH)
  | 0, _, _, _ => none
  | n + 1, h, v2, v4 => (zgI h 0 u1 8).bind fun w1 =>
    if (w1 : Int32) ≤ v4 then
    k h (v2) (v4)
    else
    (zgP h 2 u0 3).bind fun w3 =>
    (zaP h w3 (u3)).bind fun w4 =>
    (zaI h w4 (v4)).bind fun w5 =>
    if (w5 : Int32) = (-1) then
    fX2_usedConversions_L15 k u0 u1 u3 n h (v2) ((v4 + 1))
    else
    (zgP h 2 u0 3).bind fun w7 =>
    (zaP h w7 (u3)).bind fun w8 =>
    (zaI h w8 (v4)).bind fun w9 =>
    fX2_usedConversions_L15 k u0 u1 u3 n h (((v2 : Int32) ||| ((1 : Int32) <<< (w9 &&& 31)))) ((v4 + 1))
def fX2_usedConversions_L4 (k : zH → Int32 → Int32 → Option (Int32 × zH)) (u0 : Nat) (u1 : Nat) : Nat → zH → Int32 → Int32 → Option (Int32 × zH)
  | 0, _, _, _ => none
  | n + 1, h, v2, v3 => (zgI h 0 u1 8).bind fun w1 =>
    if (w1 : Int32) ≤ v3 then
    k h (v2) (v3)
    else
    fX2_usedConversions_L15 (fun h3 y4 y5 =>
    fX2_usedConversions_L4 k u0 u1 n h3 (y4) ((v3 + 1))) (u0) (u1) (v3) zF h (v2) (0)
def fX2_usedConversions (h : zH) (a0 : Nat) (a1 : Nat) : Option (Int32 × zH) :=
    if zkd h a0 = 3 then
    fX2_usedConversions_L4 (fun h1 y2 y3 =>
    some (y2, h1)) (a0) (a1) zF h (0) (0)
    else none
theorem kfX2_usedConversions {h : zH} {a0 : Nat} {a1 : Nat} {r : Int32 × zH} (hf : fX2_usedConversions h a0 a1 = some r) : zkd h a0 = 3 := by
  unfold fX2_usedConversions at hf
  exact (zck hf).1
def fX6_idle (h : zH) (a0 : Nat) : Option (Int32 × zH) :=
    if zkd h a0 = 7 then
    (zgP h 6 a0 9).bind fun w1 =>
    (zgI h 0 w1 9).bind fun w2 =>
    (zgP h 6 a0 1).bind fun w3 =>
    (zgP h 6 a0 9).bind fun w4 =>
    zb2 (fX2_usedConversions h (w3) (w4)) fun w5 h6 =>
    some (((((((1 : Int32) <<< (w2 &&& 31)) : Int32) - 1) : Int32) &&& ((w5 : Int32) ^^^ (-1))), h6)
    else none
theorem kfX6_idle {h : zH} {a0 : Nat} {r : Int32 × zH} (hf : fX6_idle h a0 = some r) : zkd h a0 = 7 := by
  unfold fX6_idle at hf
  exact (zck hf).1
def fX2_passes_L3 (k : zH → Int32 → Option (Int32 × zH)) (u0 : Nat) (u1 : Int32) (u2 : Int32) (u3 : Int32) (u4 : Nat) : Nat → zH → Int32 → Option (Int32 × zH)
  | 0, _, _ => none
  | n + 1, h, v5 => if (8 : Int32) ≤ v5 then
    k h (v5)
    else
    zb2 (fX2_formatAt h (u0) (u1) (u2) (v5) (u4)) fun w2 h3 =>
    if (w2 : Int32) = u3 then
    some (1, h3)
    else
    fX2_passes_L3 k u0 u1 u2 u3 u4 n h3 ((v5 + 1))
def fX2_passes (h : zH) (a0 : Nat) (a1 : Int32) (a2 : Int32) (a3 : Int32) (a4 : Nat) : Option (Int32 × zH) :=
    if zkd h a0 = 3 then
    fX2_passes_L3 (fun h1 y2 =>
    some (0, h1)) (a0) (a1) (a2) (a3) (a4) zF h (0)
    else none
theorem kfX2_passes {h : zH} {a0 : Nat} {a1 : Int32} {a2 : Int32} {a3 : Int32} {a4 : Nat} {r : Int32 × zH} (hf : fX2_passes h a0 a1 a2 a3 a4 = some r) : zkd h a0 = 3 := by
  unfold fX2_passes at hf
  exact (zck hf).1
def fX6_between_L23 (k : zH → Int32 → Int32 → Option ((Int32 ⊕ String) × zH)) (u0 : Nat) (u1 : Int32) (u3 : Int32) : Nat → zH → Int32 → Int32 → Option ((Int32 ⊕ String) × zH)
  | 0, _, _, _ => none
  | n + 1, h, v2, v4 => (zgP h 6 u0 9).bind fun w1 =>
    (zgI h 0 w1 8).bind fun w2 =>
    if (w2 : Int32) ≤ v4 then
    k h (v2) (v4)
    else
    if (u3 : Int32) = v4 then
    fX6_between_L23 k u0 u1 u3 n h (v2) ((v4 + 1))
    else
    if (u3 : Int32) = u1 then
    fX6_between_L23 k u0 u1 u3 n h (v2) ((v4 + 1))
    else
    if (v4 : Int32) = u1 then
    fX6_between_L23 k u0 u1 u3 n h (v2) ((v4 + 1))
    else
    (zgP h 6 u0 1).bind fun w7 =>
    (zgP h 6 u0 9).bind fun w8 =>
    zb2 (fX2_passes h (w7) (u3) (v4) (u1) (w8)) fun w9 h10 =>
    if (w9 : Int32) = 0 then
    fX6_between_L23 k u0 u1 u3 n h10 (v2) ((v4 + 1))
    else
    fX6_between_L23 k u0 u1 u3 n h10 ((v2 + 1)) ((v4 + 1))
def fX6_between_L9 (k : zH → Int32 → Int32 → Option ((Int32 ⊕ String) × zH)) (u0 : Nat) (u1 : Int32) : Nat → zH → Int32 → Int32 → Option ((Int32 ⊕ String) × zH)
  | 0, _, _, _ => none
  | n + 1, h, v2, v3 => (zgP h 6 u0 9).bind fun w1 =>
    (zgI h 0 w1 8).bind fun w2 =>
    if (w2 : Int32) ≤ v3 then
    k h (v2) (v3)
    else
    fX6_between_L23 (fun h4 y5 y6 =>
    fX6_between_L9 k u0 u1 n h4 (y5) ((v3 + 1))) (u0) (u1) (v3) zF h (v2) (0)
def fX6_between (h : zH) (a0 : Nat) (a1 : Int32) : Option ((Int32 ⊕ String) × zH) :=
    if zkd h a0 = 7 then
    zb4 (fX6_requireFormat h (a0) (a1)) fun h1 =>
    fX6_between_L9 (fun h3 y4 y5 =>
    some (.inl y4, h3)) (a0) (a1) zF h1 (0) (0)
    else none
theorem kfX6_between {h : zH} {a0 : Nat} {a1 : Int32} {r : (Int32 ⊕ String) × zH} (hf : fX6_between h a0 a1 = some r) : zkd h a0 = 7 := by
  unfold fX6_between at hf
  exact (zck hf).1
abbrev rm_X3_addEntry : Room := { frames := 4, cells := 0, slots := 0, locals := 91 }
set_option maxRecDepth 100000 in
set_option maxHeartbeats 4000000 in
theorem tX3_addEntry {l : Launch} {G : zG} (hst : l.stackTraces = false) {h : zH} {a0 : Nat} {a1 : Int32} {a2 : Int32} {r : zH} (hf : fX3_addEntry h a0 a1 a2 = some r) : zMet l G yX3_addEntry (.code yX3_addEntry cX3_addEntry 3 none) rm_X3_addEntry 0 0 [.ref a0, .int a1, .int a2] h (zov r) := by
  unfold fX3_addEntry at hf
  obtain ⟨-, hf⟩ := zck hf
  refine z_enter (by decide) (Nat.le_of_ble_eq_true rfl) hst (fun x hx B hE => ?_)
  subst hx
  have B : zB G x cX3_addEntry 3 RX3 "addEntry" rm_X3_addEntry none := B
  show zV G x 3 (zQ G x (zov r) 0 0) h 0 0 0 [(0, .ref a0), (1, .int a1), (2, .int a2)] []
  refine z_aload_n B dX3_addEntry_0 rfl 0 rfl ?_
  refine z_dup B dX3_addEntry_1 rfl ?_
  obtain ⟨w1, ew1, hf⟩ := zbs hf
  refine z_gI B fl_RX3_26 ew1 rfl dX3_addEntry_2 ?_
  refine z_iconst (v := 1) B dX3_addEntry_5 (by decide) ?_
  refine z_iadd B dX3_addEntry_6 ?_
  obtain ⟨h2, eh2, hf⟩ := zbs hf
  refine z_pI B fl_RX3_26 eh2 rfl dX3_addEntry_7 ?_
  refine z_aload_n B dX3_addEntry_10 rfl 0 rfl ?_
  obtain ⟨w3, h4, ew3, hf⟩ := zb2s hf
  refine z_callVi B [] [] cw_X3_isFull mv_RX3_66 (tX3_isFull hst ew3) rfl (by decide) (kfX3_isFull ew3) ⟨rfl, rfl, (Nat.le_of_ble_eq_true rfl), (Nat.le_of_ble_eq_true rfl), (Nat.le_of_ble_eq_true rfl), (Nat.le_of_ble_eq_true rfl)⟩ rfl rfl (Nat.le_of_ble_eq_true rfl) dX3_addEntry_11 ?_
  rcases zite hf with ⟨c5, hf⟩ | ⟨c5, hf⟩
  · refine z_if_eq B 26 dX3_addEntry_14 (by decide) (fun _ => ?_) (fun e => absurd c5 e)
    refine z_aload_n B dX3_addEntry_26 rfl 0 rfl ?_
    refine z_iload_n B dX3_addEntry_27 rfl 2 rfl ?_
    refine z_iconst (v := (-1)) B dX3_addEntry_28 (by decide) ?_
    obtain ⟨h6, eh6, hf⟩ := zbs hf
    refine z_callVv B [.int a2, .int (-1)] [] cw_X3_makeRoom mv_RX3_85 (tX3_makeRoom hst eh6) rfl (by decide) (kfX3_makeRoom eh6) ⟨rfl, rfl, (Nat.le_of_ble_eq_true rfl), (Nat.le_of_ble_eq_true rfl), (Nat.le_of_ble_eq_true rfl), (Nat.le_of_ble_eq_true rfl)⟩ rfl rfl (Nat.le_of_ble_eq_true rfl) dX3_addEntry_29 ?_
    refine z_aload_n B dX3_addEntry_32 rfl 0 rfl ?_
    obtain ⟨w7, h8, ew7, hf⟩ := zb2s hf
    refine z_callVi B [] [] cw_X3_isFull mv_RX3_66 (tX3_isFull hst ew7) rfl (by decide) (kfX3_isFull ew7) ⟨rfl, rfl, (Nat.le_of_ble_eq_true rfl), (Nat.le_of_ble_eq_true rfl), (Nat.le_of_ble_eq_true rfl), (Nat.le_of_ble_eq_true rfl)⟩ rfl rfl (Nat.le_of_ble_eq_true rfl) dX3_addEntry_33 ?_
    rcases zite hf with ⟨c9, hf⟩ | ⟨c9, hf⟩
    · refine z_if_eq B 40 dX3_addEntry_36 (by decide) (fun _ => ?_) (fun e => absurd c9 e)
      refine z_aload_n B dX3_addEntry_40 rfl 0 rfl ?_
      obtain ⟨w10, ew10, hf⟩ := zbs hf
      refine z_gP B fl_RX3_11 ew10 rfl dX3_addEntry_41 ?_
      refine z_aload_n B dX3_addEntry_44 rfl 0 rfl ?_
      obtain ⟨w11, ew11, hf⟩ := zbs hf
      refine z_gI B fl_RX3_22 ew11 rfl dX3_addEntry_45 ?_
      obtain ⟨w12, ew12, hf⟩ := zbs hf
      refine z_aP B ew12 dX3_addEntry_48 ?_
      refine z_iload_n B dX3_addEntry_49 rfl 1 rfl ?_
      refine z_iload_n B dX3_addEntry_50 rfl 2 rfl ?_
      refine z_aload_n B dX3_addEntry_51 rfl 0 rfl ?_
      obtain ⟨w13, ew13, hf⟩ := zbs hf
      refine z_gI B fl_RX3_26 ew13 rfl dX3_addEntry_52 ?_
      obtain ⟨h14, eh14, hf⟩ := zbs hf
      refine z_callVv B [.int a1, .int a2, .int w13] [] cw_X1_begin mv_RX3_89 (tX1_begin hst eh14) rfl (by decide) (kfX1_begin eh14) ⟨rfl, rfl, (Nat.le_of_ble_eq_true rfl), (Nat.le_of_ble_eq_true rfl), (Nat.le_of_ble_eq_true rfl), (Nat.le_of_ble_eq_true rfl)⟩ rfl rfl (Nat.le_of_ble_eq_true rfl) dX3_addEntry_55 ?_
      refine z_aload_n B dX3_addEntry_58 rfl 0 rfl ?_
      refine z_dup B dX3_addEntry_59 rfl ?_
      obtain ⟨w15, ew15, hf⟩ := zbs hf
      refine z_gI B fl_RX3_22 ew15 rfl dX3_addEntry_60 ?_
      refine z_iconst (v := 1) B dX3_addEntry_63 (by decide) ?_
      refine z_iadd B dX3_addEntry_64 ?_
      obtain ⟨h16, eh16, hf⟩ := zbs hf
      refine z_pI B fl_RX3_22 eh16 rfl dX3_addEntry_65 ?_
      refine z_aload_n B dX3_addEntry_68 rfl 0 rfl ?_
      refine z_aload_n B dX3_addEntry_69 rfl 0 rfl ?_
      obtain ⟨w17, ew17, hf⟩ := zbs hf
      refine z_gI B fl_RX3_22 ew17 rfl dX3_addEntry_70 ?_
      refine z_iconst (v := 1) B dX3_addEntry_73 (by decide) ?_
      refine z_isub B dX3_addEntry_74 ?_
      obtain ⟨h18, eh18, hf⟩ := zbs hf
      refine z_callVv B [.int ((w17 : Int32) - 1)] [] cw_X3_moveToFront mv_RX3_93 (tX3_moveToFront hst eh18) rfl (by decide) (kfX3_moveToFront eh18) ⟨rfl, rfl, (Nat.le_of_ble_eq_true rfl), (Nat.le_of_ble_eq_true rfl), (Nat.le_of_ble_eq_true rfl), (Nat.le_of_ble_eq_true rfl)⟩ rfl rfl (Nat.le_of_ble_eq_true rfl) dX3_addEntry_75 ?_
      cases hf
      exact z_vret B dX3_addEntry_78 (Nat.le_of_ble_eq_true rfl) (Nat.le_of_ble_eq_true rfl)
    refine z_if_eq B 40 dX3_addEntry_36 (by decide) (fun e => absurd e c9) (fun _ => ?_)
    cases hf
    exact z_vret B dX3_addEntry_39 (Nat.le_of_ble_eq_true rfl) (Nat.le_of_ble_eq_true rfl)
  refine z_if_eq B 26 dX3_addEntry_14 (by decide) (fun e => absurd e c5) (fun _ => ?_)
  refine z_aload_n B dX3_addEntry_17 rfl 0 rfl ?_
  refine z_aload_n B dX3_addEntry_18 rfl 0 rfl ?_
  refine z_iconst (v := (-1)) B dX3_addEntry_19 (by decide) ?_
  obtain ⟨w19, h20, ew19, hf⟩ := zb2s hf
  refine z_callVi B [.int (-1)] [.ref a0] cw_X3_heaviest mv_RX3_77 (tX3_heaviest hst ew19) rfl (by decide) (kfX3_heaviest ew19) ⟨rfl, rfl, (Nat.le_of_ble_eq_true rfl), (Nat.le_of_ble_eq_true rfl), (Nat.le_of_ble_eq_true rfl), (Nat.le_of_ble_eq_true rfl)⟩ rfl rfl (Nat.le_of_ble_eq_true rfl) dX3_addEntry_20 ?_
  obtain ⟨h21, eh21, hf⟩ := zbs hf
  refine z_callVv B [.int w19] [] cw_X3_dropEntry mv_RX3_81 (tX3_dropEntry hst eh21) rfl (by decide) (kfX3_dropEntry eh21) ⟨rfl, rfl, (Nat.le_of_ble_eq_true rfl), (Nat.le_of_ble_eq_true rfl), (Nat.le_of_ble_eq_true rfl), (Nat.le_of_ble_eq_true rfl)⟩ rfl rfl (Nat.le_of_ble_eq_true rfl) dX3_addEntry_23 ?_
  refine z_aload_n B dX3_addEntry_26 rfl 0 rfl ?_
  refine z_iload_n B dX3_addEntry_27 rfl 2 rfl ?_
  refine z_iconst (v := (-1)) B dX3_addEntry_28 (by decide) ?_
  obtain ⟨h22, eh22, hf⟩ := zbs hf
  refine z_callVv B [.int a2, .int (-1)] [] cw_X3_makeRoom mv_RX3_85 (tX3_makeRoom hst eh22) rfl (by decide) (kfX3_makeRoom eh22) ⟨rfl, rfl, (Nat.le_of_ble_eq_true rfl), (Nat.le_of_ble_eq_true rfl), (Nat.le_of_ble_eq_true rfl), (Nat.le_of_ble_eq_true rfl)⟩ rfl rfl (Nat.le_of_ble_eq_true rfl) dX3_addEntry_29 ?_
  refine z_aload_n B dX3_addEntry_32 rfl 0 rfl ?_
  obtain ⟨w23, h24, ew23, hf⟩ := zb2s hf
  refine z_callVi B [] [] cw_X3_isFull mv_RX3_66 (tX3_isFull hst ew23) rfl (by decide) (kfX3_isFull ew23) ⟨rfl, rfl, (Nat.le_of_ble_eq_true rfl), (Nat.le_of_ble_eq_true rfl), (Nat.le_of_ble_eq_true rfl), (Nat.le_of_ble_eq_true rfl)⟩ rfl rfl (Nat.le_of_ble_eq_true rfl) dX3_addEntry_33 ?_
  rcases zite hf with ⟨c25, hf⟩ | ⟨c25, hf⟩
  · refine z_if_eq B 40 dX3_addEntry_36 (by decide) (fun _ => ?_) (fun e => absurd c25 e)
    refine z_aload_n B dX3_addEntry_40 rfl 0 rfl ?_
    obtain ⟨w26, ew26, hf⟩ := zbs hf
    refine z_gP B fl_RX3_11 ew26 rfl dX3_addEntry_41 ?_
    refine z_aload_n B dX3_addEntry_44 rfl 0 rfl ?_
    obtain ⟨w27, ew27, hf⟩ := zbs hf
    refine z_gI B fl_RX3_22 ew27 rfl dX3_addEntry_45 ?_
    obtain ⟨w28, ew28, hf⟩ := zbs hf
    refine z_aP B ew28 dX3_addEntry_48 ?_
    refine z_iload_n B dX3_addEntry_49 rfl 1 rfl ?_
    refine z_iload_n B dX3_addEntry_50 rfl 2 rfl ?_
    refine z_aload_n B dX3_addEntry_51 rfl 0 rfl ?_
    obtain ⟨w29, ew29, hf⟩ := zbs hf
    refine z_gI B fl_RX3_26 ew29 rfl dX3_addEntry_52 ?_
    obtain ⟨h30, eh30, hf⟩ := zbs hf
    refine z_callVv B [.int a1, .int a2, .int w29] [] cw_X1_begin mv_RX3_89 (tX1_begin hst eh30) rfl (by decide) (kfX1_begin eh30) ⟨rfl, rfl, (Nat.le_of_ble_eq_true rfl), (Nat.le_of_ble_eq_true rfl), (Nat.le_of_ble_eq_true rfl), (Nat.le_of_ble_eq_true rfl)⟩ rfl rfl (Nat.le_of_ble_eq_true rfl) dX3_addEntry_55 ?_
    refine z_aload_n B dX3_addEntry_58 rfl 0 rfl ?_
    refine z_dup B dX3_addEntry_59 rfl ?_
    obtain ⟨w31, ew31, hf⟩ := zbs hf
    refine z_gI B fl_RX3_22 ew31 rfl dX3_addEntry_60 ?_
    refine z_iconst (v := 1) B dX3_addEntry_63 (by decide) ?_
    refine z_iadd B dX3_addEntry_64 ?_
    obtain ⟨h32, eh32, hf⟩ := zbs hf
    refine z_pI B fl_RX3_22 eh32 rfl dX3_addEntry_65 ?_
    refine z_aload_n B dX3_addEntry_68 rfl 0 rfl ?_
    refine z_aload_n B dX3_addEntry_69 rfl 0 rfl ?_
    obtain ⟨w33, ew33, hf⟩ := zbs hf
    refine z_gI B fl_RX3_22 ew33 rfl dX3_addEntry_70 ?_
    refine z_iconst (v := 1) B dX3_addEntry_73 (by decide) ?_
    refine z_isub B dX3_addEntry_74 ?_
    obtain ⟨h34, eh34, hf⟩ := zbs hf
    refine z_callVv B [.int ((w33 : Int32) - 1)] [] cw_X3_moveToFront mv_RX3_93 (tX3_moveToFront hst eh34) rfl (by decide) (kfX3_moveToFront eh34) ⟨rfl, rfl, (Nat.le_of_ble_eq_true rfl), (Nat.le_of_ble_eq_true rfl), (Nat.le_of_ble_eq_true rfl), (Nat.le_of_ble_eq_true rfl)⟩ rfl rfl (Nat.le_of_ble_eq_true rfl) dX3_addEntry_75 ?_
    cases hf
    exact z_vret B dX3_addEntry_78 (Nat.le_of_ble_eq_true rfl) (Nat.le_of_ble_eq_true rfl)
  refine z_if_eq B 40 dX3_addEntry_36 (by decide) (fun e => absurd e c25) (fun _ => ?_)
  cases hf
  exact z_vret B dX3_addEntry_39 (Nat.le_of_ble_eq_true rfl) (Nat.le_of_ble_eq_true rfl)
abbrev rm_X6_copy : Room := { frames := 7, cells := 3, slots := 18, locals := 113 }
set_option maxRecDepth 100000 in
set_option maxHeartbeats 4000000 in
theorem tX6_copy {l : Launch} {G : zG} (hst : l.stackTraces = false) {h : zH} {a0 : Nat} {a1 : Int32} {a2 : Int32} {r : (Int32 ⊕ String) × zH} (hf : fX6_copy h a0 a1 a2 = some r) : zMet l G yX6_copy (.code yX6_copy cX6_copy 3 (some .int)) rm_X6_copy 3 18 [.ref a0, .int a1, .int a2] h (zoxi r) := by
  unfold fX6_copy at hf
  obtain ⟨-, hf⟩ := zck hf
  refine z_enter (by decide) (Nat.le_of_ble_eq_true rfl) hst (fun x hx B hE => ?_)
  subst hx
  have B : zB G x cX6_copy 3 RX6 "copy" rm_X6_copy (some .int) := B
  show zV G x 3 (zQ G x (zoxi r) 3 18) h 0 0 0 [(0, .ref a0), (1, .int a1), (2, .int a2)] []
  refine z_aload_n B dX6_copy_0 rfl 0 rfl ?_
  refine z_iload_n B dX6_copy_1 rfl 1 rfl ?_
  rcases zb4s hf with ⟨E2, h1, eh1, rfl⟩ | ⟨h1, eh1, hf⟩
  · exact z_callVX B hE [.int a1] [] cw_X6_requireFormat mv_RX6_190 (tX6_requireFormat hst eh1) rfl (by decide) (kfX6_requireFormat eh1) ⟨rfl, rfl, (Nat.le_of_ble_eq_true rfl), (Nat.le_of_ble_eq_true rfl), (Nat.le_of_ble_eq_true rfl), (Nat.le_of_ble_eq_true rfl)⟩ rfl rfl (Nat.le_of_ble_eq_true rfl) dX6_copy_2 (Nat.le_of_ble_eq_true rfl) (Nat.le_of_ble_eq_true rfl)
  refine z_callVv B [.int a1] [] cw_X6_requireFormat mv_RX6_190 (tX6_requireFormat hst eh1) rfl (by decide) (kfX6_requireFormat eh1) ⟨rfl, rfl, (Nat.le_of_ble_eq_true rfl), (Nat.le_of_ble_eq_true rfl), (Nat.le_of_ble_eq_true rfl), (Nat.le_of_ble_eq_true rfl)⟩ rfl rfl (Nat.le_of_ble_eq_true rfl) dX6_copy_2 ?_
  refine z_iload_n B dX6_copy_5 rfl 2 rfl ?_
  rcases zb4s hf with ⟨E4, h3, eh3, rfl⟩ | ⟨h3, eh3, hf⟩
  · exact z_callSX B hE [.int a2] [] cw_X6_requireNewSize mt_RX6_203 (tX6_requireNewSize hst eh3) ⟨rfl, rfl, (Nat.le_of_ble_eq_true rfl), (Nat.le_of_ble_eq_true rfl), (Nat.le_of_ble_eq_true rfl), (Nat.le_of_ble_eq_true rfl)⟩ rfl rfl (Nat.le_of_ble_eq_true rfl) dX6_copy_6 (Nat.le_of_ble_eq_true rfl) (Nat.le_of_ble_eq_true rfl)
  refine z_callSv B [.int a2] [] cw_X6_requireNewSize mt_RX6_203 (tX6_requireNewSize hst eh3) ⟨rfl, rfl, (Nat.le_of_ble_eq_true rfl), (Nat.le_of_ble_eq_true rfl), (Nat.le_of_ble_eq_true rfl), (Nat.le_of_ble_eq_true rfl)⟩ rfl rfl (Nat.le_of_ble_eq_true rfl) dX6_copy_6 ?_
  refine z_aload_n B dX6_copy_9 rfl 0 rfl ?_
  obtain ⟨w5, ew5, hf⟩ := zbs hf
  refine z_gP B fl_RX6_36 ew5 rfl dX6_copy_10 ?_
  refine z_iload_n B dX6_copy_13 rfl 2 rfl ?_
  obtain ⟨w6, h7, ew6, hf⟩ := zb2s hf
  refine z_callVi B [.int a2] [] cw_X3_canAddEntry mv_RX6_206 (tX3_canAddEntry hst ew6) rfl (by decide) (kfX3_canAddEntry ew6) ⟨rfl, rfl, (Nat.le_of_ble_eq_true rfl), (Nat.le_of_ble_eq_true rfl), (Nat.le_of_ble_eq_true rfl), (Nat.le_of_ble_eq_true rfl)⟩ rfl rfl (Nat.le_of_ble_eq_true rfl) dX6_copy_14 ?_
  rcases zite hf with ⟨c8, hf⟩ | ⟨c8, hf⟩
  · refine z_if_ne B 30 dX6_copy_17 (by decide) (fun e => absurd c8 e) (fun _ => ?_)
    cases hf
    exact z_throw B hE rfl th_RX6_78_82 sl_209 dX6_copy_20 dX6_copy_23 dX6_copy_24 dX6_copy_26 dX6_copy_29 (Nat.le_of_ble_eq_true rfl) (Nat.le_of_ble_eq_true rfl) (Nat.le_of_ble_eq_true rfl) (Nat.le_of_ble_eq_true rfl) (Nat.le_of_ble_eq_true rfl) (Nat.le_of_ble_eq_true rfl)
  refine z_if_ne B 30 dX6_copy_17 (by decide) (fun _ => ?_) (fun e => absurd e c8)
  refine z_aload_n B dX6_copy_30 rfl 0 rfl ?_
  obtain ⟨h9, eh9, hf⟩ := zbs hf
  refine z_callVv B [] [] cw_X6_rememberNow mv_RX6_211 (tX6_rememberNow hst eh9) rfl (by decide) (kfX6_rememberNow eh9) ⟨rfl, rfl, (Nat.le_of_ble_eq_true rfl), (Nat.le_of_ble_eq_true rfl), (Nat.le_of_ble_eq_true rfl), (Nat.le_of_ble_eq_true rfl)⟩ rfl rfl (Nat.le_of_ble_eq_true rfl) dX6_copy_31 ?_
  refine z_aload_n B dX6_copy_34 rfl 0 rfl ?_
  obtain ⟨w10, ew10, hf⟩ := zbs hf
  refine z_gP B fl_RX6_36 ew10 rfl dX6_copy_35 ?_
  refine z_iload_n B dX6_copy_38 rfl 1 rfl ?_
  refine z_iload_n B dX6_copy_39 rfl 2 rfl ?_
  obtain ⟨h11, eh11, hf⟩ := zbs hf
  refine z_callVv B [.int a1, .int a2] [] cw_X3_addEntry mv_RX6_214 (tX3_addEntry hst eh11) rfl (by decide) (kfX3_addEntry eh11) ⟨rfl, rfl, (Nat.le_of_ble_eq_true rfl), (Nat.le_of_ble_eq_true rfl), (Nat.le_of_ble_eq_true rfl), (Nat.le_of_ble_eq_true rfl)⟩ rfl rfl (Nat.le_of_ble_eq_true rfl) dX6_copy_40 ?_
  refine z_aload_n B dX6_copy_43 rfl 0 rfl ?_
  obtain ⟨w12, ew12, hf⟩ := zbs hf
  refine z_gP B fl_RX6_36 ew12 rfl dX6_copy_44 ?_
  obtain ⟨w13, h14, ew13, hf⟩ := zb2s hf
  refine z_callVi B [] [] cw_X3_usedSize mv_RX6_112 (tX3_usedSize hst ew13) rfl (by decide) (kfX3_usedSize ew13) ⟨rfl, rfl, (Nat.le_of_ble_eq_true rfl), (Nat.le_of_ble_eq_true rfl), (Nat.le_of_ble_eq_true rfl), (Nat.le_of_ble_eq_true rfl)⟩ rfl rfl (Nat.le_of_ble_eq_true rfl) dX6_copy_47 ?_
  cases hf
  exact z_iret B dX6_copy_50 (Nat.le_of_ble_eq_true rfl) (Nat.le_of_ble_eq_true rfl)
abbrev rm_X3_canAddForm : Room := { frames := 3, cells := 0, slots := 0, locals := 67 }
set_option maxRecDepth 100000 in
set_option maxHeartbeats 4000000 in
theorem tX3_canAddForm {l : Launch} {G : zG} (hst : l.stackTraces = false) {h : zH} {a0 : Nat} {a1 : Int32} {a2 : Int32} {r : Int32 × zH} (hf : fX3_canAddForm h a0 a1 a2 = some r) : zMet l G yX3_canAddForm (.code yX3_canAddForm cX3_canAddForm 5 (some .boolean)) rm_X3_canAddForm 0 0 [.ref a0, .int a1, .int a2] h (zoi r) := by
  unfold fX3_canAddForm at hf
  obtain ⟨-, hf⟩ := zck hf
  refine z_enter (by decide) (Nat.le_of_ble_eq_true rfl) hst (fun x hx B hE => ?_)
  subst hx
  have B : zB G x cX3_canAddForm 5 RX3 "canAddForm" rm_X3_canAddForm (some .boolean) := B
  show zV G x 5 (zQ G x (zoi r) 0 0) h 0 0 0 [(0, .ref a0), (1, .int a1), (2, .int a2)] []
  refine z_aload_n B dX3_canAddForm_0 rfl 0 rfl ?_
  obtain ⟨w1, ew1, hf⟩ := zbs hf
  refine z_gI B fl_RX3_22 ew1 rfl dX3_canAddForm_1 ?_
  refine z_iconst (v := 1) B dX3_canAddForm_4 (by decide) ?_
  rcases zite hf with ⟨c2, hf⟩ | ⟨c2, hf⟩
  · refine z_icmp_ge B 10 dX3_canAddForm_5 (by decide) (fun _ => ?_) (fun e => absurd c2 e)
    refine z_aload_n B dX3_canAddForm_10 rfl 0 rfl ?_
    obtain ⟨w3, ew3, hf⟩ := zbs hf
    refine z_gP B fl_RX3_11 ew3 rfl dX3_canAddForm_11 ?_
    refine z_iconst (v := 0) B dX3_canAddForm_14 (by decide) ?_
    obtain ⟨w4, ew4, hf⟩ := zbs hf
    refine z_aP B ew4 dX3_canAddForm_15 ?_
    refine z_astore_n (lv' := [(3, .ref w4), (0, .ref a0), (1, .int a1), (2, .int a2)]) B dX3_canAddForm_16 rfl (by decide) rfl ?_
    refine z_aload_n B dX3_canAddForm_17 rfl 0 rfl ?_
    refine z_iload_n B dX3_canAddForm_18 rfl 2 rfl ?_
    obtain ⟨w5, h6, ew5, hf⟩ := zb2s hf
    refine z_callVi B [.int a1] [] cw_X1_holds mv_RX3_96 (tX1_holds hst ew5) rfl (by decide) (kfX1_holds ew5) ⟨rfl, rfl, (Nat.le_of_ble_eq_true rfl), (Nat.le_of_ble_eq_true rfl), (Nat.le_of_ble_eq_true rfl), (Nat.le_of_ble_eq_true rfl)⟩ rfl rfl (Nat.le_of_ble_eq_true rfl) dX3_canAddForm_19 ?_
    rcases zite hf with ⟨c7, hf⟩ | ⟨c7, hf⟩
    · refine z_if_eq B 35 dX3_canAddForm_22 (by decide) (fun _ => ?_) (fun e => absurd c7 e)
      refine z_aload_n B dX3_canAddForm_35 rfl 0 rfl ?_
      refine z_iload_n B dX3_canAddForm_36 rfl 2 rfl ?_
      obtain ⟨w8, h9, ew8, hf⟩ := zb2s hf
      refine z_callVi B [.int a1] [] cw_X1_holdsDerived mv_RX3_99 (tX1_holdsDerived hst ew8) rfl (by decide) (kfX1_holdsDerived ew8) ⟨rfl, rfl, (Nat.le_of_ble_eq_true rfl), (Nat.le_of_ble_eq_true rfl), (Nat.le_of_ble_eq_true rfl), (Nat.le_of_ble_eq_true rfl)⟩ rfl rfl (Nat.le_of_ble_eq_true rfl) dX3_canAddForm_37 ?_
      rcases zite hf with ⟨c10, hf⟩ | ⟨c10, hf⟩
      · refine z_if_eq B 52 dX3_canAddForm_40 (by decide) (fun _ => ?_) (fun e => absurd c10 e)
        refine z_iconst (v := 0) B dX3_canAddForm_52 (by decide) ?_
        refine z_istore (lv' := [(4, .int 0), (3, .ref w4), (0, .ref a0), (1, .int a1), (2, .int a2)]) B dX3_canAddForm_53 (by decide) rfl ?_
        refine z_aload_n B dX3_canAddForm_55 rfl 2 rfl ?_
        refine z_iconst (v := 0) B dX3_canAddForm_56 (by decide) ?_
        refine z_iconst (v := 0) B dX3_canAddForm_57 (by decide) ?_
        obtain ⟨w11, h12, ew11, hf⟩ := zb2s hf
        refine z_callVi B [.int 0, .int 0] [] cw_X3_leastSize mv_RX3_73 (tX3_leastSize hst ew11) rfl (by decide) (kfX3_leastSize ew11) ⟨rfl, rfl, (Nat.le_of_ble_eq_true rfl), (Nat.le_of_ble_eq_true rfl), (Nat.le_of_ble_eq_true rfl), (Nat.le_of_ble_eq_true rfl)⟩ rfl rfl (Nat.le_of_ble_eq_true rfl) dX3_canAddForm_58 ?_
        refine z_iload B dX3_canAddForm_61 0 rfl ?_
        refine z_isub B dX3_canAddForm_63 ?_
        refine z_iload_n B dX3_canAddForm_64 rfl 4 rfl ?_
        refine z_iadd B dX3_canAddForm_65 ?_
        refine z_aload_n B dX3_canAddForm_66 rfl 2 rfl ?_
        obtain ⟨w13, ew13, hf⟩ := zbs hf
        refine z_gI B fl_RX3_37 ew13 rfl dX3_canAddForm_67 ?_
        rcases zite hf with ⟨c14, hf⟩ | ⟨c14, hf⟩
        · refine z_icmp_gt B 77 dX3_canAddForm_70 (by decide) (fun _ => ?_) (fun e => absurd c14 e)
          refine z_iconst (v := 0) B dX3_canAddForm_77 (by decide) ?_
          cases hf
          exact z_zret B dX3_canAddForm_78 (Or.inl rfl) (Nat.le_of_ble_eq_true rfl) (Nat.le_of_ble_eq_true rfl)
        refine z_icmp_gt B 77 dX3_canAddForm_70 (by decide) (fun e => absurd e c14) (fun _ => ?_)
        refine z_iconst (v := 1) B dX3_canAddForm_73 (by decide) ?_
        refine z_goto B 78 dX3_canAddForm_74 (by decide) ?_
        cases hf
        exact z_zret B dX3_canAddForm_78 (Or.inr rfl) (Nat.le_of_ble_eq_true rfl) (Nat.le_of_ble_eq_true rfl)
      refine z_if_eq B 52 dX3_canAddForm_40 (by decide) (fun e => absurd e c10) (fun _ => ?_)
      refine z_aload_n B dX3_canAddForm_43 rfl 0 rfl ?_
      obtain ⟨w15, ew15, hf⟩ := zbs hf
      refine z_gPR B fr_RX3_102 ew15 rfl dX3_canAddForm_44 ?_
      refine z_iload_n B dX3_canAddForm_47 rfl 2 rfl ?_
      obtain ⟨w16, ew16, hf⟩ := zbs hf
      refine z_aI B ew16 dX3_canAddForm_48 ?_
      refine z_goto B 53 dX3_canAddForm_49 (by decide) ?_
      refine z_istore (lv' := [(4, .int w16), (3, .ref w4), (0, .ref a0), (1, .int a1), (2, .int a2)]) B dX3_canAddForm_53 (by decide) rfl ?_
      refine z_aload_n B dX3_canAddForm_55 rfl 2 rfl ?_
      refine z_iconst (v := 0) B dX3_canAddForm_56 (by decide) ?_
      refine z_iconst (v := 0) B dX3_canAddForm_57 (by decide) ?_
      obtain ⟨w17, h18, ew17, hf⟩ := zb2s hf
      refine z_callVi B [.int 0, .int 0] [] cw_X3_leastSize mv_RX3_73 (tX3_leastSize hst ew17) rfl (by decide) (kfX3_leastSize ew17) ⟨rfl, rfl, (Nat.le_of_ble_eq_true rfl), (Nat.le_of_ble_eq_true rfl), (Nat.le_of_ble_eq_true rfl), (Nat.le_of_ble_eq_true rfl)⟩ rfl rfl (Nat.le_of_ble_eq_true rfl) dX3_canAddForm_58 ?_
      refine z_iload B dX3_canAddForm_61 0 rfl ?_
      refine z_isub B dX3_canAddForm_63 ?_
      refine z_iload_n B dX3_canAddForm_64 rfl 4 rfl ?_
      refine z_iadd B dX3_canAddForm_65 ?_
      refine z_aload_n B dX3_canAddForm_66 rfl 2 rfl ?_
      obtain ⟨w19, ew19, hf⟩ := zbs hf
      refine z_gI B fl_RX3_37 ew19 rfl dX3_canAddForm_67 ?_
      rcases zite hf with ⟨c20, hf⟩ | ⟨c20, hf⟩
      · refine z_icmp_gt B 77 dX3_canAddForm_70 (by decide) (fun _ => ?_) (fun e => absurd c20 e)
        refine z_iconst (v := 0) B dX3_canAddForm_77 (by decide) ?_
        cases hf
        exact z_zret B dX3_canAddForm_78 (Or.inl rfl) (Nat.le_of_ble_eq_true rfl) (Nat.le_of_ble_eq_true rfl)
      refine z_icmp_gt B 77 dX3_canAddForm_70 (by decide) (fun e => absurd e c20) (fun _ => ?_)
      refine z_iconst (v := 1) B dX3_canAddForm_73 (by decide) ?_
      refine z_goto B 78 dX3_canAddForm_74 (by decide) ?_
      cases hf
      exact z_zret B dX3_canAddForm_78 (Or.inr rfl) (Nat.le_of_ble_eq_true rfl) (Nat.le_of_ble_eq_true rfl)
    refine z_if_eq B 35 dX3_canAddForm_22 (by decide) (fun e => absurd e c7) (fun _ => ?_)
    refine z_aload_n B dX3_canAddForm_25 rfl 0 rfl ?_
    refine z_iload_n B dX3_canAddForm_26 rfl 2 rfl ?_
    obtain ⟨w21, h22, ew21, hf⟩ := zb2s hf
    refine z_callVi B [.int a1] [] cw_X1_holdsDerived mv_RX3_99 (tX1_holdsDerived hst ew21) rfl (by decide) (kfX1_holdsDerived ew21) ⟨rfl, rfl, (Nat.le_of_ble_eq_true rfl), (Nat.le_of_ble_eq_true rfl), (Nat.le_of_ble_eq_true rfl), (Nat.le_of_ble_eq_true rfl)⟩ rfl rfl (Nat.le_of_ble_eq_true rfl) dX3_canAddForm_27 ?_
    rcases zite hf with ⟨c23, hf⟩ | ⟨c23, hf⟩
    · refine z_if_ne B 35 dX3_canAddForm_30 (by decide) (fun e => absurd c23 e) (fun _ => ?_)
      refine z_iconst (v := 0) B dX3_canAddForm_33 (by decide) ?_
      cases hf
      exact z_zret B dX3_canAddForm_34 (Or.inl rfl) (Nat.le_of_ble_eq_true rfl) (Nat.le_of_ble_eq_true rfl)
    refine z_if_ne B 35 dX3_canAddForm_30 (by decide) (fun _ => ?_) (fun e => absurd e c23)
    refine z_aload_n B dX3_canAddForm_35 rfl 0 rfl ?_
    refine z_iload_n B dX3_canAddForm_36 rfl 2 rfl ?_
    obtain ⟨w24, h25, ew24, hf⟩ := zb2s hf
    refine z_callVi B [.int a1] [] cw_X1_holdsDerived mv_RX3_99 (tX1_holdsDerived hst ew24) rfl (by decide) (kfX1_holdsDerived ew24) ⟨rfl, rfl, (Nat.le_of_ble_eq_true rfl), (Nat.le_of_ble_eq_true rfl), (Nat.le_of_ble_eq_true rfl), (Nat.le_of_ble_eq_true rfl)⟩ rfl rfl (Nat.le_of_ble_eq_true rfl) dX3_canAddForm_37 ?_
    rcases zite hf with ⟨c26, hf⟩ | ⟨c26, hf⟩
    · refine z_if_eq B 52 dX3_canAddForm_40 (by decide) (fun _ => ?_) (fun e => absurd c26 e)
      refine z_iconst (v := 0) B dX3_canAddForm_52 (by decide) ?_
      refine z_istore (lv' := [(4, .int 0), (3, .ref w4), (0, .ref a0), (1, .int a1), (2, .int a2)]) B dX3_canAddForm_53 (by decide) rfl ?_
      refine z_aload_n B dX3_canAddForm_55 rfl 2 rfl ?_
      refine z_iconst (v := 0) B dX3_canAddForm_56 (by decide) ?_
      refine z_iconst (v := 0) B dX3_canAddForm_57 (by decide) ?_
      obtain ⟨w27, h28, ew27, hf⟩ := zb2s hf
      refine z_callVi B [.int 0, .int 0] [] cw_X3_leastSize mv_RX3_73 (tX3_leastSize hst ew27) rfl (by decide) (kfX3_leastSize ew27) ⟨rfl, rfl, (Nat.le_of_ble_eq_true rfl), (Nat.le_of_ble_eq_true rfl), (Nat.le_of_ble_eq_true rfl), (Nat.le_of_ble_eq_true rfl)⟩ rfl rfl (Nat.le_of_ble_eq_true rfl) dX3_canAddForm_58 ?_
      refine z_iload B dX3_canAddForm_61 0 rfl ?_
      refine z_isub B dX3_canAddForm_63 ?_
      refine z_iload_n B dX3_canAddForm_64 rfl 4 rfl ?_
      refine z_iadd B dX3_canAddForm_65 ?_
      refine z_aload_n B dX3_canAddForm_66 rfl 2 rfl ?_
      obtain ⟨w29, ew29, hf⟩ := zbs hf
      refine z_gI B fl_RX3_37 ew29 rfl dX3_canAddForm_67 ?_
      rcases zite hf with ⟨c30, hf⟩ | ⟨c30, hf⟩
      · refine z_icmp_gt B 77 dX3_canAddForm_70 (by decide) (fun _ => ?_) (fun e => absurd c30 e)
        refine z_iconst (v := 0) B dX3_canAddForm_77 (by decide) ?_
        cases hf
        exact z_zret B dX3_canAddForm_78 (Or.inl rfl) (Nat.le_of_ble_eq_true rfl) (Nat.le_of_ble_eq_true rfl)
      refine z_icmp_gt B 77 dX3_canAddForm_70 (by decide) (fun e => absurd e c30) (fun _ => ?_)
      refine z_iconst (v := 1) B dX3_canAddForm_73 (by decide) ?_
      refine z_goto B 78 dX3_canAddForm_74 (by decide) ?_
      cases hf
      exact z_zret B dX3_canAddForm_78 (Or.inr rfl) (Nat.le_of_ble_eq_true rfl) (Nat.le_of_ble_eq_true rfl)
    refine z_if_eq B 52 dX3_canAddForm_40 (by decide) (fun e => absurd e c26) (fun _ => ?_)
    refine z_aload_n B dX3_canAddForm_43 rfl 0 rfl ?_
    obtain ⟨w31, ew31, hf⟩ := zbs hf
    refine z_gPR B fr_RX3_102 ew31 rfl dX3_canAddForm_44 ?_
    refine z_iload_n B dX3_canAddForm_47 rfl 2 rfl ?_
    obtain ⟨w32, ew32, hf⟩ := zbs hf
    refine z_aI B ew32 dX3_canAddForm_48 ?_
    refine z_goto B 53 dX3_canAddForm_49 (by decide) ?_
    refine z_istore (lv' := [(4, .int w32), (3, .ref w4), (0, .ref a0), (1, .int a1), (2, .int a2)]) B dX3_canAddForm_53 (by decide) rfl ?_
    refine z_aload_n B dX3_canAddForm_55 rfl 2 rfl ?_
    refine z_iconst (v := 0) B dX3_canAddForm_56 (by decide) ?_
    refine z_iconst (v := 0) B dX3_canAddForm_57 (by decide) ?_
    obtain ⟨w33, h34, ew33, hf⟩ := zb2s hf
    refine z_callVi B [.int 0, .int 0] [] cw_X3_leastSize mv_RX3_73 (tX3_leastSize hst ew33) rfl (by decide) (kfX3_leastSize ew33) ⟨rfl, rfl, (Nat.le_of_ble_eq_true rfl), (Nat.le_of_ble_eq_true rfl), (Nat.le_of_ble_eq_true rfl), (Nat.le_of_ble_eq_true rfl)⟩ rfl rfl (Nat.le_of_ble_eq_true rfl) dX3_canAddForm_58 ?_
    refine z_iload B dX3_canAddForm_61 0 rfl ?_
    refine z_isub B dX3_canAddForm_63 ?_
    refine z_iload_n B dX3_canAddForm_64 rfl 4 rfl ?_
    refine z_iadd B dX3_canAddForm_65 ?_
    refine z_aload_n B dX3_canAddForm_66 rfl 2 rfl ?_
    obtain ⟨w35, ew35, hf⟩ := zbs hf
    refine z_gI B fl_RX3_37 ew35 rfl dX3_canAddForm_67 ?_
    rcases zite hf with ⟨c36, hf⟩ | ⟨c36, hf⟩
    · refine z_icmp_gt B 77 dX3_canAddForm_70 (by decide) (fun _ => ?_) (fun e => absurd c36 e)
      refine z_iconst (v := 0) B dX3_canAddForm_77 (by decide) ?_
      cases hf
      exact z_zret B dX3_canAddForm_78 (Or.inl rfl) (Nat.le_of_ble_eq_true rfl) (Nat.le_of_ble_eq_true rfl)
    refine z_icmp_gt B 77 dX3_canAddForm_70 (by decide) (fun e => absurd e c36) (fun _ => ?_)
    refine z_iconst (v := 1) B dX3_canAddForm_73 (by decide) ?_
    refine z_goto B 78 dX3_canAddForm_74 (by decide) ?_
    cases hf
    exact z_zret B dX3_canAddForm_78 (Or.inr rfl) (Nat.le_of_ble_eq_true rfl) (Nat.le_of_ble_eq_true rfl)
  refine z_icmp_ge B 10 dX3_canAddForm_5 (by decide) (fun e => absurd e c2) (fun _ => ?_)
  refine z_iconst (v := 0) B dX3_canAddForm_8 (by decide) ?_
  cases hf
  exact z_zret B dX3_canAddForm_9 (Or.inl rfl) (Nat.le_of_ble_eq_true rfl) (Nat.le_of_ble_eq_true rfl)
abbrev rm_X3_addForm : Room := { frames := 4, cells := 0, slots := 0, locals := 91 }
set_option maxRecDepth 100000 in
set_option maxHeartbeats 4000000 in
theorem tX3_addForm {l : Launch} {G : zG} (hst : l.stackTraces = false) {h : zH} {a0 : Nat} {a1 : Int32} {a2 : Int32} {r : zH} (hf : fX3_addForm h a0 a1 a2 = some r) : zMet l G yX3_addForm (.code yX3_addForm cX3_addForm 3 none) rm_X3_addForm 0 0 [.ref a0, .int a1, .int a2] h (zov r) := by
  unfold fX3_addForm at hf
  obtain ⟨-, hf⟩ := zck hf
  refine z_enter (by decide) (Nat.le_of_ble_eq_true rfl) hst (fun x hx B hE => ?_)
  subst hx
  have B : zB G x cX3_addForm 3 RX3 "addForm" rm_X3_addForm none := B
  show zV G x 3 (zQ G x (zov r) 0 0) h 0 0 0 [(0, .ref a0), (1, .int a1), (2, .int a2)] []
  refine z_aload_n B dX3_addForm_0 rfl 0 rfl ?_
  obtain ⟨w1, ew1, hf⟩ := zbs hf
  refine z_gI B fl_RX3_22 ew1 rfl dX3_addForm_1 ?_
  refine z_iconst (v := 1) B dX3_addForm_4 (by decide) ?_
  rcases zite hf with ⟨c2, hf⟩ | ⟨c2, hf⟩
  · refine z_icmp_ge B 9 dX3_addForm_5 (by decide) (fun _ => ?_) (fun e => absurd c2 e)
    refine z_aload_n B dX3_addForm_9 rfl 0 rfl ?_
    refine z_dup B dX3_addForm_10 rfl ?_
    obtain ⟨w3, ew3, hf⟩ := zbs hf
    refine z_gI B fl_RX3_26 ew3 rfl dX3_addForm_11 ?_
    refine z_iconst (v := 1) B dX3_addForm_14 (by decide) ?_
    refine z_iadd B dX3_addForm_15 ?_
    obtain ⟨h4, eh4, hf⟩ := zbs hf
    refine z_pI B fl_RX3_26 eh4 rfl dX3_addForm_16 ?_
    refine z_aload_n B dX3_addForm_19 rfl 0 rfl ?_
    obtain ⟨w5, ew5, hf⟩ := zbs hf
    refine z_gP B fl_RX3_11 ew5 rfl dX3_addForm_20 ?_
    refine z_iconst (v := 0) B dX3_addForm_23 (by decide) ?_
    obtain ⟨w6, ew6, hf⟩ := zbs hf
    refine z_aP B ew6 dX3_addForm_24 ?_
    refine z_iload_n B dX3_addForm_25 rfl 1 rfl ?_
    obtain ⟨h7, eh7, hf⟩ := zbs hf
    refine z_callVv B [.int a1] [] cw_X1_dropForm mv_RX3_105 (tX1_dropForm hst eh7) rfl (by decide) (kfX1_dropForm eh7) ⟨rfl, rfl, (Nat.le_of_ble_eq_true rfl), (Nat.le_of_ble_eq_true rfl), (Nat.le_of_ble_eq_true rfl), (Nat.le_of_ble_eq_true rfl)⟩ rfl rfl (Nat.le_of_ble_eq_true rfl) dX3_addForm_26 ?_
    refine z_aload_n B dX3_addForm_29 rfl 0 rfl ?_
    refine z_iload_n B dX3_addForm_30 rfl 2 rfl ?_
    refine z_iconst (v := 0) B dX3_addForm_31 (by decide) ?_
    obtain ⟨h8, eh8, hf⟩ := zbs hf
    refine z_callVv B [.int a2, .int 0] [] cw_X3_makeRoom mv_RX3_85 (tX3_makeRoom hst eh8) rfl (by decide) (kfX3_makeRoom eh8) ⟨rfl, rfl, (Nat.le_of_ble_eq_true rfl), (Nat.le_of_ble_eq_true rfl), (Nat.le_of_ble_eq_true rfl), (Nat.le_of_ble_eq_true rfl)⟩ rfl rfl (Nat.le_of_ble_eq_true rfl) dX3_addForm_32 ?_
    refine z_aload_n B dX3_addForm_35 rfl 0 rfl ?_
    obtain ⟨w9, ew9, hf⟩ := zbs hf
    refine z_gP B fl_RX3_11 ew9 rfl dX3_addForm_36 ?_
    refine z_iconst (v := 0) B dX3_addForm_39 (by decide) ?_
    obtain ⟨w10, ew10, hf⟩ := zbs hf
    refine z_aP B ew10 dX3_addForm_40 ?_
    refine z_iload_n B dX3_addForm_41 rfl 1 rfl ?_
    refine z_iload_n B dX3_addForm_42 rfl 2 rfl ?_
    refine z_iconst (v := 0) B dX3_addForm_43 (by decide) ?_
    refine z_iconst (v := 0) B dX3_addForm_44 (by decide) ?_
    obtain ⟨h11, eh11, hf⟩ := zbs hf
    refine z_callVv B [.int a1, .int a2, .int 0, .int 0] [] cw_X1_putForm mv_RX3_108 (tX1_putForm hst eh11) rfl (by decide) (kfX1_putForm eh11) ⟨rfl, rfl, (Nat.le_of_ble_eq_true rfl), (Nat.le_of_ble_eq_true rfl), (Nat.le_of_ble_eq_true rfl), (Nat.le_of_ble_eq_true rfl)⟩ rfl rfl (Nat.le_of_ble_eq_true rfl) dX3_addForm_45 ?_
    cases hf
    exact z_vret B dX3_addForm_48 (Nat.le_of_ble_eq_true rfl) (Nat.le_of_ble_eq_true rfl)
  refine z_icmp_ge B 9 dX3_addForm_5 (by decide) (fun e => absurd e c2) (fun _ => ?_)
  cases hf
  exact z_vret B dX3_addForm_8 (Nat.le_of_ble_eq_true rfl) (Nat.le_of_ble_eq_true rfl)
abbrev rm_X6_offer : Room := { frames := 7, cells := 3, slots := 18, locals := 113 }
set_option maxRecDepth 100000 in
set_option maxHeartbeats 4000000 in
theorem tX6_offer {l : Launch} {G : zG} (hst : l.stackTraces = false) {h : zH} {a0 : Nat} {a1 : Int32} {a2 : Int32} {r : (Int32 ⊕ String) × zH} (hf : fX6_offer h a0 a1 a2 = some r) : zMet l G yX6_offer (.code yX6_offer cX6_offer 3 (some .int)) rm_X6_offer 3 18 [.ref a0, .int a1, .int a2] h (zoxi r) := by
  unfold fX6_offer at hf
  obtain ⟨-, hf⟩ := zck hf
  refine z_enter (by decide) (Nat.le_of_ble_eq_true rfl) hst (fun x hx B hE => ?_)
  subst hx
  have B : zB G x cX6_offer 3 RX6 "offer" rm_X6_offer (some .int) := B
  show zV G x 3 (zQ G x (zoxi r) 3 18) h 0 0 0 [(0, .ref a0), (1, .int a1), (2, .int a2)] []
  refine z_aload_n B dX6_offer_0 rfl 0 rfl ?_
  refine z_iload_n B dX6_offer_1 rfl 1 rfl ?_
  rcases zb4s hf with ⟨E2, h1, eh1, rfl⟩ | ⟨h1, eh1, hf⟩
  · exact z_callVX B hE [.int a1] [] cw_X6_requireFormat mv_RX6_190 (tX6_requireFormat hst eh1) rfl (by decide) (kfX6_requireFormat eh1) ⟨rfl, rfl, (Nat.le_of_ble_eq_true rfl), (Nat.le_of_ble_eq_true rfl), (Nat.le_of_ble_eq_true rfl), (Nat.le_of_ble_eq_true rfl)⟩ rfl rfl (Nat.le_of_ble_eq_true rfl) dX6_offer_2 (Nat.le_of_ble_eq_true rfl) (Nat.le_of_ble_eq_true rfl)
  refine z_callVv B [.int a1] [] cw_X6_requireFormat mv_RX6_190 (tX6_requireFormat hst eh1) rfl (by decide) (kfX6_requireFormat eh1) ⟨rfl, rfl, (Nat.le_of_ble_eq_true rfl), (Nat.le_of_ble_eq_true rfl), (Nat.le_of_ble_eq_true rfl), (Nat.le_of_ble_eq_true rfl)⟩ rfl rfl (Nat.le_of_ble_eq_true rfl) dX6_offer_2 ?_
  refine z_iload_n B dX6_offer_5 rfl 2 rfl ?_
  rcases zb4s hf with ⟨E4, h3, eh3, rfl⟩ | ⟨h3, eh3, hf⟩
  · exact z_callSX B hE [.int a2] [] cw_X6_requireNewSize mt_RX6_203 (tX6_requireNewSize hst eh3) ⟨rfl, rfl, (Nat.le_of_ble_eq_true rfl), (Nat.le_of_ble_eq_true rfl), (Nat.le_of_ble_eq_true rfl), (Nat.le_of_ble_eq_true rfl)⟩ rfl rfl (Nat.le_of_ble_eq_true rfl) dX6_offer_6 (Nat.le_of_ble_eq_true rfl) (Nat.le_of_ble_eq_true rfl)
  refine z_callSv B [.int a2] [] cw_X6_requireNewSize mt_RX6_203 (tX6_requireNewSize hst eh3) ⟨rfl, rfl, (Nat.le_of_ble_eq_true rfl), (Nat.le_of_ble_eq_true rfl), (Nat.le_of_ble_eq_true rfl), (Nat.le_of_ble_eq_true rfl)⟩ rfl rfl (Nat.le_of_ble_eq_true rfl) dX6_offer_6 ?_
  refine z_aload_n B dX6_offer_9 rfl 0 rfl ?_
  obtain ⟨w5, ew5, hf⟩ := zbs hf
  refine z_gP B fl_RX6_36 ew5 rfl dX6_offer_10 ?_
  refine z_iload_n B dX6_offer_13 rfl 1 rfl ?_
  refine z_iload_n B dX6_offer_14 rfl 2 rfl ?_
  obtain ⟨w6, h7, ew6, hf⟩ := zb2s hf
  refine z_callVi B [.int a1, .int a2] [] cw_X3_canAddForm mv_RX6_218 (tX3_canAddForm hst ew6) rfl (by decide) (kfX3_canAddForm ew6) ⟨rfl, rfl, (Nat.le_of_ble_eq_true rfl), (Nat.le_of_ble_eq_true rfl), (Nat.le_of_ble_eq_true rfl), (Nat.le_of_ble_eq_true rfl)⟩ rfl rfl (Nat.le_of_ble_eq_true rfl) dX6_offer_15 ?_
  rcases zite hf with ⟨c8, hf⟩ | ⟨c8, hf⟩
  · refine z_if_ne B 31 dX6_offer_18 (by decide) (fun e => absurd c8 e) (fun _ => ?_)
    cases hf
    exact z_throw B hE rfl th_RX6_78_82 sl_222 dX6_offer_21 dX6_offer_24 dX6_offer_25 dX6_offer_27 dX6_offer_30 (Nat.le_of_ble_eq_true rfl) (Nat.le_of_ble_eq_true rfl) (Nat.le_of_ble_eq_true rfl) (Nat.le_of_ble_eq_true rfl) (Nat.le_of_ble_eq_true rfl) (Nat.le_of_ble_eq_true rfl)
  refine z_if_ne B 31 dX6_offer_18 (by decide) (fun _ => ?_) (fun e => absurd e c8)
  refine z_aload_n B dX6_offer_31 rfl 0 rfl ?_
  obtain ⟨h9, eh9, hf⟩ := zbs hf
  refine z_callVv B [] [] cw_X6_rememberNow mv_RX6_211 (tX6_rememberNow hst eh9) rfl (by decide) (kfX6_rememberNow eh9) ⟨rfl, rfl, (Nat.le_of_ble_eq_true rfl), (Nat.le_of_ble_eq_true rfl), (Nat.le_of_ble_eq_true rfl), (Nat.le_of_ble_eq_true rfl)⟩ rfl rfl (Nat.le_of_ble_eq_true rfl) dX6_offer_32 ?_
  refine z_aload_n B dX6_offer_35 rfl 0 rfl ?_
  obtain ⟨w10, ew10, hf⟩ := zbs hf
  refine z_gP B fl_RX6_36 ew10 rfl dX6_offer_36 ?_
  refine z_iload_n B dX6_offer_39 rfl 1 rfl ?_
  refine z_iload_n B dX6_offer_40 rfl 2 rfl ?_
  obtain ⟨h11, eh11, hf⟩ := zbs hf
  refine z_callVv B [.int a1, .int a2] [] cw_X3_addForm mv_RX6_224 (tX3_addForm hst eh11) rfl (by decide) (kfX3_addForm eh11) ⟨rfl, rfl, (Nat.le_of_ble_eq_true rfl), (Nat.le_of_ble_eq_true rfl), (Nat.le_of_ble_eq_true rfl), (Nat.le_of_ble_eq_true rfl)⟩ rfl rfl (Nat.le_of_ble_eq_true rfl) dX6_offer_41 ?_
  refine z_aload_n B dX6_offer_44 rfl 0 rfl ?_
  obtain ⟨w12, ew12, hf⟩ := zbs hf
  refine z_gP B fl_RX6_36 ew12 rfl dX6_offer_45 ?_
  obtain ⟨w13, h14, ew13, hf⟩ := zb2s hf
  refine z_callVi B [] [] cw_X3_usedSize mv_RX6_112 (tX3_usedSize hst ew13) rfl (by decide) (kfX3_usedSize ew13) ⟨rfl, rfl, (Nat.le_of_ble_eq_true rfl), (Nat.le_of_ble_eq_true rfl), (Nat.le_of_ble_eq_true rfl), (Nat.le_of_ble_eq_true rfl)⟩ rfl rfl (Nat.le_of_ble_eq_true rfl) dX6_offer_48 ?_
  cases hf
  exact z_iret B dX6_offer_51 (Nat.le_of_ble_eq_true rfl) (Nat.le_of_ble_eq_true rfl)
abbrev rm_X2_rankOf : Room := { frames := 0, cells := 0, slots := 0, locals := 0 }
set_option maxRecDepth 100000 in
set_option maxHeartbeats 4000000 in
theorem tX2_rankOf {l : Launch} {G : zG} (hst : l.stackTraces = false) {h : zH} {a0 : Nat} {a1 : Int32} {a2 : Int32} {r : Int32 × zH} (hf : fX2_rankOf h a0 a1 a2 = some r) : zMet l G yX2_rankOf (.code yX2_rankOf cX2_rankOf 3 (some .int)) rm_X2_rankOf 0 0 [.ref a0, .int a1, .int a2] h (zoi r) := by
  unfold fX2_rankOf at hf
  obtain ⟨-, hf⟩ := zck hf
  refine z_enter (by decide) (Nat.le_of_ble_eq_true rfl) hst (fun x hx B hE => ?_)
  subst hx
  have B : zB G x cX2_rankOf 3 RX2 "rankOf" rm_X2_rankOf (some .int) := B
  show zV G x 3 (zQ G x (zoi r) 0 0) h 0 0 0 [(0, .ref a0), (1, .int a1), (2, .int a2)] []
  refine z_aload_n B dX2_rankOf_0 rfl 0 rfl ?_
  obtain ⟨w1, ew1, hf⟩ := zbs hf
  refine z_gP B fl_RX2_19 ew1 rfl dX2_rankOf_1 ?_
  refine z_iload_n B dX2_rankOf_4 rfl 1 rfl ?_
  obtain ⟨w2, ew2, hf⟩ := zbs hf
  refine z_aP B ew2 dX2_rankOf_5 ?_
  refine z_iload_n B dX2_rankOf_6 rfl 2 rfl ?_
  obtain ⟨w3, ew3, hf⟩ := zbs hf
  refine z_aI B ew3 dX2_rankOf_7 ?_
  cases hf
  exact z_iret B dX2_rankOf_8 (Nat.le_of_ble_eq_true rfl) (Nat.le_of_ble_eq_true rfl)
abbrev rm_X0_sizeAfterStep : Room := { frames := 0, cells := 0, slots := 0, locals := 0 }
set_option maxRecDepth 100000 in
set_option maxHeartbeats 4000000 in
theorem tX0_sizeAfterStep {l : Launch} {G : zG} (hst : l.stackTraces = false) {h : zH} {a0 : Nat} {a1 : Int32} {a2 : Int32} {r : Int32 × zH} (hf : fX0_sizeAfterStep h a0 a1 a2 = some r) : zMet l G yX0_sizeAfterStep (.code yX0_sizeAfterStep cX0_sizeAfterStep 4 (some .int)) rm_X0_sizeAfterStep 0 0 [.ref a0, .int a1, .int a2] h (zoi r) := by
  unfold fX0_sizeAfterStep at hf
  obtain ⟨-, hf⟩ := zck hf
  refine z_enter (by decide) (Nat.le_of_ble_eq_true rfl) hst (fun x hx B hE => ?_)
  subst hx
  have B : zB G x cX0_sizeAfterStep 4 RX0 "sizeAfterStep" rm_X0_sizeAfterStep (some .int) := B
  show zV G x 4 (zQ G x (zoi r) 0 0) h 0 0 0 [(0, .ref a0), (1, .int a1), (2, .int a2)] []
  refine z_iload_n B dX0_sizeAfterStep_0 rfl 2 rfl ?_
  refine z_aload_n B dX0_sizeAfterStep_1 rfl 0 rfl ?_
  obtain ⟨w1, ew1, hf⟩ := zbs hf
  refine z_gP B fl_RX0_21 ew1 rfl dX0_sizeAfterStep_2 ?_
  refine z_iload_n B dX0_sizeAfterStep_5 rfl 1 rfl ?_
  obtain ⟨w2, ew2, hf⟩ := zbs hf
  refine z_aI B ew2 dX0_sizeAfterStep_6 ?_
  refine z_imul B dX0_sizeAfterStep_7 ?_
  refine z_bipush (v := 9) B dX0_sizeAfterStep_8 (by decide) ?_
  refine z_iadd B dX0_sizeAfterStep_10 ?_
  refine z_bipush (v := 10) B dX0_sizeAfterStep_11 (by decide) ?_
  refine z_idiv B dX0_sizeAfterStep_13 (by decide) ?_
  refine z_istore_n (lv' := [(3, .int ((((((a2 : Int32) * w2) : Int32) + 9) : Int32) / 10)), (0, .ref a0), (1, .int a1), (2, .int a2)]) B dX0_sizeAfterStep_14 rfl (by decide) rfl ?_
  refine z_iload_n B dX0_sizeAfterStep_15 rfl 0 rfl ?_
  refine z_ldc B dX0_sizeAfterStep_16 kc_RX0_78 ?_
  rcases zite hf with ⟨c3, hf⟩ | ⟨c3, hf⟩
  · refine z_icmp_le B 26 dX0_sizeAfterStep_18 (by decide) (fun _ => ?_) (fun e => absurd c3 e)
    refine z_iload_n B dX0_sizeAfterStep_26 rfl 0 rfl ?_
    cases hf
    exact z_iret B dX0_sizeAfterStep_27 (Nat.le_of_ble_eq_true rfl) (Nat.le_of_ble_eq_true rfl)
  refine z_icmp_le B 26 dX0_sizeAfterStep_18 (by decide) (fun e => absurd e c3) (fun _ => ?_)
  refine z_ldc B dX0_sizeAfterStep_21 kc_RX0_78 ?_
  refine z_goto B 27 dX0_sizeAfterStep_23 (by decide) ?_
  cases hf
  exact z_iret B dX0_sizeAfterStep_27 (Nat.le_of_ble_eq_true rfl) (Nat.le_of_ble_eq_true rfl)
abbrev rm_X2_sizeAtEnd : Room := { frames := 1, cells := 0, slots := 0, locals := 23 }
set_option maxRecDepth 100000 in
set_option maxHeartbeats 4000000 in
theorem fX2_sizeAtEnd_L9_ok {G : zG} {x : zX} (B : zB G x cX2_sizeAtEnd 9 RX2 "sizeAtEnd" rm_X2_sizeAtEnd (some .int)) (hst : (zl x).stackTraces = false) (hE : ∀ e ∈ (zc x).exceptionTable.toList, False) {r : Int32 × zH} {k : zH → Int32 → Int32 → Int32 → Option (Int32 × zH)} {u0 : Nat} {u1 : Int32} {u2 : Int32} {u3 : Int32} {u4 : Nat} (hk : ∀ h v5 v6 v7, k h v5 v6 v7 = some r → zV G x 9 (zQ G x (zoi r) 0 0) h 0 0 69 [(0, .ref u0), (1, .int u1), (2, .int u2), (3, .int u3), (4, .ref u4), (5, .int v5), (6, .int v6), (7, .int v7)] []) : ∀ n h v5 v6 v7, fX2_sizeAtEnd_L9 k u0 u1 u2 u3 u4 n h v5 v6 v7 = some r → zV G x 9 (zQ G x (zoi r) 0 0) h 0 0 9 [(0, .ref u0), (1, .int u1), (2, .int u2), (3, .int u3), (4, .ref u4), (5, .int v5), (6, .int v6), (7, .int v7)] [] := by
  intro n
  induction n with
  | zero =>
    intro h v5 v6 v7 hf
    have hf : (none : Option (Int32 × zH)) = some r := hf
    cases hf
  | succ n ih =>
    intro h v5 v6 v7 hf
    rw [fX2_sizeAtEnd_L9] at hf
    refine z_iload B dX2_sizeAtEnd_9 7 rfl ?_
    refine z_bipush (v := 8) B dX2_sizeAtEnd_11 (by decide) ?_
    rcases zite hf with ⟨c1, hf⟩ | ⟨c1, hf⟩
    · refine z_icmp_ge B 69 dX2_sizeAtEnd_13 (by decide) (fun _ => ?_) (fun e => absurd c1 e)
      exact hk _ _ _ _ hf
    refine z_icmp_ge B 69 dX2_sizeAtEnd_13 (by decide) (fun e => absurd e c1) (fun _ => ?_)
    refine z_iload B dX2_sizeAtEnd_16 6 rfl ?_
    refine z_iload_n B dX2_sizeAtEnd_18 rfl 2 rfl ?_
    rcases zite hf with ⟨c2, hf⟩ | ⟨c2, hf⟩
    · refine z_icmp_eq B 69 dX2_sizeAtEnd_19 (by decide) (fun _ => ?_) (fun e => absurd c2 e)
      exact hk _ _ _ _ hf
    refine z_icmp_eq B 69 dX2_sizeAtEnd_19 (by decide) (fun e => absurd e c2) (fun _ => ?_)
    refine z_aload_n B dX2_sizeAtEnd_22 rfl 0 rfl ?_
    obtain ⟨w3, ew3, hf⟩ := zbs hf
    refine z_gP B fl_RX2_22 ew3 rfl dX2_sizeAtEnd_23 ?_
    refine z_iload B dX2_sizeAtEnd_26 6 rfl ?_
    obtain ⟨w4, ew4, hf⟩ := zbs hf
    refine z_aP B ew4 dX2_sizeAtEnd_28 ?_
    refine z_iload_n B dX2_sizeAtEnd_29 rfl 2 rfl ?_
    obtain ⟨w5, ew5, hf⟩ := zbs hf
    refine z_aI B ew5 dX2_sizeAtEnd_30 ?_
    refine z_istore (lv' := [(8, .int w5), (0, .ref u0), (1, .int u1), (2, .int u2), (3, .int u3), (4, .ref u4), (5, .int v5), (6, .int v6), (7, .int v7)]) B dX2_sizeAtEnd_31 (by decide) rfl ?_
    refine z_iload B dX2_sizeAtEnd_33 0 rfl ?_
    refine z_iconst (v := (-1)) B dX2_sizeAtEnd_35 (by decide) ?_
    rcases zite hf with ⟨c6, hf⟩ | ⟨c6, hf⟩
    · refine z_icmp_ne B 42 dX2_sizeAtEnd_36 (by decide) (fun e => absurd c6 e) (fun _ => ?_)
      refine z_bipush (v := (-9)) B dX2_sizeAtEnd_39 (by decide) ?_
      cases hf
      exact z_iret B dX2_sizeAtEnd_41 (Nat.le_of_ble_eq_true rfl) (Nat.le_of_ble_eq_true rfl)
    refine z_icmp_ne B 42 dX2_sizeAtEnd_36 (by decide) (fun _ => ?_) (fun e => absurd e c6)
    refine z_aload B dX2_sizeAtEnd_42 5 rfl ?_
    refine z_iload B dX2_sizeAtEnd_44 0 rfl ?_
    refine z_iload B dX2_sizeAtEnd_46 6 rfl ?_
    obtain ⟨w7, h8, ew7, hf⟩ := zb2s hf
    refine z_callVi B [.int w5, .int v5] [] cw_X0_sizeAfterStep mv_RX2_65 (tX0_sizeAfterStep hst ew7) rfl (by decide) (kfX0_sizeAfterStep ew7) ⟨rfl, rfl, (Nat.le_of_ble_eq_true rfl), (Nat.le_of_ble_eq_true rfl), (Nat.le_of_ble_eq_true rfl), (Nat.le_of_ble_eq_true rfl)⟩ rfl rfl (Nat.le_of_ble_eq_true rfl) dX2_sizeAtEnd_48 ?_
    refine z_istore (lv' := [(5, .int w7), (8, .int w5), (0, .ref u0), (1, .int u1), (2, .int u2), (3, .int u3), (4, .ref u4), (6, .int v6), (7, .int v7)]) B dX2_sizeAtEnd_51 (by decide) rfl ?_
    refine z_aload B dX2_sizeAtEnd_53 6 rfl ?_
    obtain ⟨w9, ew9, hf⟩ := zbs hf
    refine z_gPR B fr_RX2_38 ew9 rfl dX2_sizeAtEnd_55 ?_
    refine z_iload B dX2_sizeAtEnd_58 1 rfl ?_
    obtain ⟨w10, ew10, hf⟩ := zbs hf
    refine z_aI B ew10 dX2_sizeAtEnd_60 ?_
    refine z_istore (lv' := [(6, .int w10), (5, .int w7), (8, .int w5), (0, .ref u0), (1, .int u1), (2, .int u2), (3, .int u3), (4, .ref u4), (7, .int v7)]) B dX2_sizeAtEnd_61 (by decide) rfl ?_
    refine z_iinc (v' := (v7 + 1)) (lv' := [(7, .int (v7 + 1)), (6, .int w10), (5, .int w7), (8, .int w5), (0, .ref u0), (1, .int u1), (2, .int u2), (3, .int u3), (4, .ref u4)]) B dX2_sizeAtEnd_63 8 rfl rfl (by decide) rfl ?_
    refine z_goto B 9 dX2_sizeAtEnd_66 (by decide) ?_
    refine zV.sub [4, 5, 6, 7, 8, 2, 1, 0] rfl ?_
    exact ih _ _ _ _ hf
set_option maxRecDepth 100000 in
set_option maxHeartbeats 4000000 in
theorem tX2_sizeAtEnd {l : Launch} {G : zG} (hst : l.stackTraces = false) {h : zH} {a0 : Nat} {a1 : Int32} {a2 : Int32} {a3 : Int32} {a4 : Nat} {r : Int32 × zH} (hf : fX2_sizeAtEnd h a0 a1 a2 a3 a4 = some r) : zMet l G yX2_sizeAtEnd (.code yX2_sizeAtEnd cX2_sizeAtEnd 9 (some .int)) rm_X2_sizeAtEnd 0 0 [.ref a0, .int a1, .int a2, .int a3, .ref a4] h (zoi r) := by
  unfold fX2_sizeAtEnd at hf
  obtain ⟨-, hf⟩ := zck hf
  refine z_enter (by decide) (Nat.le_of_ble_eq_true rfl) hst (fun x hx B hE => ?_)
  subst hx
  have B : zB G x cX2_sizeAtEnd 9 RX2 "sizeAtEnd" rm_X2_sizeAtEnd (some .int) := B
  show zV G x 9 (zQ G x (zoi r) 0 0) h 0 0 0 [(0, .ref a0), (1, .int a1), (2, .int a2), (3, .int a3), (4, .ref a4)] []
  refine z_iload_n B dX2_sizeAtEnd_0 rfl 3 rfl ?_
  refine z_istore (lv' := [(5, .int a3), (0, .ref a0), (1, .int a1), (2, .int a2), (3, .int a3), (4, .ref a4)]) B dX2_sizeAtEnd_1 (by decide) rfl ?_
  refine z_iload_n B dX2_sizeAtEnd_3 rfl 2 rfl ?_
  refine z_istore (lv' := [(6, .int a1), (5, .int a3), (0, .ref a0), (1, .int a1), (2, .int a2), (3, .int a3), (4, .ref a4)]) B dX2_sizeAtEnd_4 (by decide) rfl ?_
  refine z_iconst (v := 0) B dX2_sizeAtEnd_6 (by decide) ?_
  refine z_istore (lv' := [(7, .int 0), (6, .int a1), (5, .int a3), (0, .ref a0), (1, .int a1), (2, .int a2), (3, .int a3), (4, .ref a4)]) B dX2_sizeAtEnd_7 (by decide) rfl ?_
  refine zV.sub [3, 4, 5, 6, 7, 2, 1, 0] rfl ?_
  refine fX2_sizeAtEnd_L9_ok B hst hE (fun h1 y2 y3 y4 hf => ?_) _ _ _ _ _ hf
  refine z_iload B dX2_sizeAtEnd_69 5 rfl ?_
  cases hf
  exact z_iret B dX2_sizeAtEnd_71 (Nat.le_of_ble_eq_true rfl) (Nat.le_of_ble_eq_true rfl)
abbrev rm_X2_costOf : Room := { frames := 1, cells := 0, slots := 0, locals := 22 }
set_option maxRecDepth 100000 in
set_option maxHeartbeats 4000000 in
theorem tX2_costOf {l : Launch} {G : zG} (hst : l.stackTraces = false) {h : zH} {a0 : Nat} {a1 : Int32} {a2 : Int32} {r : Int32 × zH} (hf : fX2_costOf h a0 a1 a2 = some r) : zMet l G yX2_costOf (.code yX2_costOf cX2_costOf 3 (some .int)) rm_X2_costOf 0 0 [.ref a0, .int a1, .int a2] h (zoi r) := by
  unfold fX2_costOf at hf
  obtain ⟨-, hf⟩ := zck hf
  refine z_enter (by decide) (Nat.le_of_ble_eq_true rfl) hst (fun x hx B hE => ?_)
  subst hx
  have B : zB G x cX2_costOf 3 RX2 "costOf" rm_X2_costOf (some .int) := B
  show zV G x 3 (zQ G x (zoi r) 0 0) h 0 0 0 [(0, .ref a0), (1, .int a1), (2, .int a2)] []
  refine z_aload_n B dX2_costOf_0 rfl 0 rfl ?_
  refine z_iload_n B dX2_costOf_1 rfl 1 rfl ?_
  refine z_iload_n B dX2_costOf_2 rfl 2 rfl ?_
  obtain ⟨w1, h2, ew1, hf⟩ := zb2s hf
  refine z_callVi B [.int a1, .int a2] [] cw_X2_connects mv_RX2_55 (tX2_connects hst ew1) rfl (by decide) (kfX2_connects ew1) ⟨rfl, rfl, (Nat.le_of_ble_eq_true rfl), (Nat.le_of_ble_eq_true rfl), (Nat.le_of_ble_eq_true rfl), (Nat.le_of_ble_eq_true rfl)⟩ rfl rfl (Nat.le_of_ble_eq_true rfl) dX2_costOf_3 ?_
  rcases zite hf with ⟨c3, hf⟩ | ⟨c3, hf⟩
  · refine z_if_eq B 23 dX2_costOf_6 (by decide) (fun _ => ?_) (fun e => absurd c3 e)
    refine z_bipush (v := (-9)) B dX2_costOf_23 (by decide) ?_
    cases hf
    exact z_iret B dX2_costOf_25 (Nat.le_of_ble_eq_true rfl) (Nat.le_of_ble_eq_true rfl)
  refine z_if_eq B 23 dX2_costOf_6 (by decide) (fun e => absurd e c3) (fun _ => ?_)
  refine z_aload_n B dX2_costOf_9 rfl 0 rfl ?_
  obtain ⟨w4, ew4, hf⟩ := zbs hf
  refine z_gP B fl_RX2_19 ew4 rfl dX2_costOf_10 ?_
  refine z_iload_n B dX2_costOf_13 rfl 1 rfl ?_
  obtain ⟨w5, ew5, hf⟩ := zbs hf
  refine z_aP B ew5 dX2_costOf_14 ?_
  refine z_iload_n B dX2_costOf_15 rfl 2 rfl ?_
  obtain ⟨w6, ew6, hf⟩ := zbs hf
  refine z_aI B ew6 dX2_costOf_16 ?_
  refine z_bipush (v := 8) B dX2_costOf_17 (by decide) ?_
  refine z_idiv B dX2_costOf_19 (by decide) ?_
  refine z_goto B 25 dX2_costOf_20 (by decide) ?_
  cases hf
  exact z_iret B dX2_costOf_25 (Nat.le_of_ble_eq_true rfl) (Nat.le_of_ble_eq_true rfl)
abbrev rm_X2_lossOf : Room := { frames := 0, cells := 0, slots := 0, locals := 0 }
set_option maxRecDepth 100000 in
set_option maxHeartbeats 4000000 in
theorem fX2_lossOf_L9_ok {G : zG} {x : zX} (B : zB G x cX2_lossOf 8 RX2 "lossOf" rm_X2_lossOf (some .int)) (hst : (zl x).stackTraces = false) (hE : ∀ e ∈ (zc x).exceptionTable.toList, False) {r : Int32 × zH} {k : zH → Int32 → Int32 → Int32 → Option (Int32 × zH)} {u0 : Nat} {u1 : Int32} {u2 : Int32} {u3 : Nat} (hk : ∀ h v4 v5 v6, k h v4 v5 v6 = some r → zV G x 8 (zQ G x (zoi r) 0 0) h 0 0 69 [(0, .ref u0), (1, .int u1), (2, .int u2), (3, .ref u3), (4, .int v4), (5, .int v5), (6, .int v6)] []) : ∀ n h v4 v5 v6, fX2_lossOf_L9 k u0 u1 u2 u3 n h v4 v5 v6 = some r → zV G x 8 (zQ G x (zoi r) 0 0) h 0 0 9 [(0, .ref u0), (1, .int u1), (2, .int u2), (3, .ref u3), (4, .int v4), (5, .int v5), (6, .int v6)] [] := by
  intro n
  induction n with
  | zero =>
    intro h v4 v5 v6 hf
    have hf : (none : Option (Int32 × zH)) = some r := hf
    cases hf
  | succ n ih =>
    intro h v4 v5 v6 hf
    rw [fX2_lossOf_L9] at hf
    refine z_iload B dX2_lossOf_9 6 rfl ?_
    refine z_bipush (v := 8) B dX2_lossOf_11 (by decide) ?_
    rcases zite hf with ⟨c1, hf⟩ | ⟨c1, hf⟩
    · refine z_icmp_ge B 69 dX2_lossOf_13 (by decide) (fun _ => ?_) (fun e => absurd c1 e)
      exact hk _ _ _ _ hf
    refine z_icmp_ge B 69 dX2_lossOf_13 (by decide) (fun e => absurd e c1) (fun _ => ?_)
    refine z_iload B dX2_lossOf_16 5 rfl ?_
    refine z_iload_n B dX2_lossOf_18 rfl 2 rfl ?_
    rcases zite hf with ⟨c2, hf⟩ | ⟨c2, hf⟩
    · refine z_icmp_eq B 69 dX2_lossOf_19 (by decide) (fun _ => ?_) (fun e => absurd c2 e)
      exact hk _ _ _ _ hf
    refine z_icmp_eq B 69 dX2_lossOf_19 (by decide) (fun e => absurd e c2) (fun _ => ?_)
    refine z_aload_n B dX2_lossOf_22 rfl 0 rfl ?_
    obtain ⟨w3, ew3, hf⟩ := zbs hf
    refine z_gP B fl_RX2_22 ew3 rfl dX2_lossOf_23 ?_
    refine z_iload B dX2_lossOf_26 5 rfl ?_
    obtain ⟨w4, ew4, hf⟩ := zbs hf
    refine z_aP B ew4 dX2_lossOf_28 ?_
    refine z_iload_n B dX2_lossOf_29 rfl 2 rfl ?_
    obtain ⟨w5, ew5, hf⟩ := zbs hf
    refine z_aI B ew5 dX2_lossOf_30 ?_
    refine z_istore (lv' := [(7, .int w5), (0, .ref u0), (1, .int u1), (2, .int u2), (3, .ref u3), (4, .int v4), (5, .int v5), (6, .int v6)]) B dX2_lossOf_31 (by decide) rfl ?_
    refine z_iload B dX2_lossOf_33 0 rfl ?_
    refine z_iconst (v := (-1)) B dX2_lossOf_35 (by decide) ?_
    rcases zite hf with ⟨c6, hf⟩ | ⟨c6, hf⟩
    · refine z_icmp_ne B 42 dX2_lossOf_36 (by decide) (fun e => absurd c6 e) (fun _ => ?_)
      refine z_bipush (v := (-9)) B dX2_lossOf_39 (by decide) ?_
      cases hf
      exact z_iret B dX2_lossOf_41 (Nat.le_of_ble_eq_true rfl) (Nat.le_of_ble_eq_true rfl)
    refine z_icmp_ne B 42 dX2_lossOf_36 (by decide) (fun _ => ?_) (fun e => absurd e c6)
    refine z_iload B dX2_lossOf_42 5 rfl ?_
    refine z_aload_n B dX2_lossOf_44 rfl 4 rfl ?_
    obtain ⟨w7, ew7, hf⟩ := zbs hf
    refine z_gPR B fr_RX2_62 ew7 rfl dX2_lossOf_45 ?_
    refine z_iload B dX2_lossOf_48 0 rfl ?_
    obtain ⟨w8, ew8, hf⟩ := zbs hf
    refine z_aI B ew8 dX2_lossOf_50 ?_
    refine z_iadd B dX2_lossOf_51 ?_
    refine z_istore (lv' := [(4, .int ((v4 : Int32) + w8)), (7, .int w5), (0, .ref u0), (1, .int u1), (2, .int u2), (3, .ref u3), (5, .int v5), (6, .int v6)]) B dX2_lossOf_52 (by decide) rfl ?_
    refine z_aload_n B dX2_lossOf_54 rfl 5 rfl ?_
    obtain ⟨w9, ew9, hf⟩ := zbs hf
    refine z_gPR B fr_RX2_38 ew9 rfl dX2_lossOf_55 ?_
    refine z_iload B dX2_lossOf_58 1 rfl ?_
    obtain ⟨w10, ew10, hf⟩ := zbs hf
    refine z_aI B ew10 dX2_lossOf_60 ?_
    refine z_istore (lv' := [(5, .int w10), (4, .int ((v4 : Int32) + w8)), (7, .int w5), (0, .ref u0), (1, .int u1), (2, .int u2), (3, .ref u3), (6, .int v6)]) B dX2_lossOf_61 (by decide) rfl ?_
    refine z_iinc (v' := (v6 + 1)) (lv' := [(6, .int (v6 + 1)), (5, .int w10), (4, .int ((v4 : Int32) + w8)), (7, .int w5), (0, .ref u0), (1, .int u1), (2, .int u2), (3, .ref u3)]) B dX2_lossOf_63 7 rfl rfl (by decide) rfl ?_
    refine z_goto B 9 dX2_lossOf_66 (by decide) ?_
    refine zV.sub [4, 5, 6, 7, 2, 1, 0] rfl ?_
    exact ih _ _ _ _ hf
set_option maxRecDepth 100000 in
set_option maxHeartbeats 4000000 in
theorem tX2_lossOf {l : Launch} {G : zG} (hst : l.stackTraces = false) {h : zH} {a0 : Nat} {a1 : Int32} {a2 : Int32} {a3 : Nat} {r : Int32 × zH} (hf : fX2_lossOf h a0 a1 a2 a3 = some r) : zMet l G yX2_lossOf (.code yX2_lossOf cX2_lossOf 8 (some .int)) rm_X2_lossOf 0 0 [.ref a0, .int a1, .int a2, .ref a3] h (zoi r) := by
  unfold fX2_lossOf at hf
  obtain ⟨-, hf⟩ := zck hf
  refine z_enter (by decide) (Nat.le_of_ble_eq_true rfl) hst (fun x hx B hE => ?_)
  subst hx
  have B : zB G x cX2_lossOf 8 RX2 "lossOf" rm_X2_lossOf (some .int) := B
  show zV G x 8 (zQ G x (zoi r) 0 0) h 0 0 0 [(0, .ref a0), (1, .int a1), (2, .int a2), (3, .ref a3)] []
  refine z_iconst (v := 0) B dX2_lossOf_0 (by decide) ?_
  refine z_istore (lv' := [(4, .int 0), (0, .ref a0), (1, .int a1), (2, .int a2), (3, .ref a3)]) B dX2_lossOf_1 (by decide) rfl ?_
  refine z_iload_n B dX2_lossOf_3 rfl 2 rfl ?_
  refine z_istore (lv' := [(5, .int a1), (4, .int 0), (0, .ref a0), (1, .int a1), (2, .int a2), (3, .ref a3)]) B dX2_lossOf_4 (by decide) rfl ?_
  refine z_iconst (v := 0) B dX2_lossOf_6 (by decide) ?_
  refine z_istore (lv' := [(6, .int 0), (5, .int a1), (4, .int 0), (0, .ref a0), (1, .int a1), (2, .int a2), (3, .ref a3)]) B dX2_lossOf_7 (by decide) rfl ?_
  refine zV.sub [3, 4, 5, 6, 2, 1, 0] rfl ?_
  refine fX2_lossOf_L9_ok B hst hE (fun h1 y2 y3 y4 hf => ?_) _ _ _ _ _ hf
  refine z_iload B dX2_lossOf_69 4 rfl ?_
  cases hf
  exact z_iret B dX2_lossOf_71 (Nat.le_of_ble_eq_true rfl) (Nat.le_of_ble_eq_true rfl)
abbrev rm_X5_search : Room := { frames := 2, cells := 0, slots := 0, locals := 51 }
set_option maxRecDepth 100000 in
set_option maxHeartbeats 4000000 in
theorem fX5_search_L19_ok {G : zG} {x : zX} (B : zB G x cX5_search 8 RX5 "search" rm_X5_search (some .boolean)) (hst : (zl x).stackTraces = false) (hE : ∀ e ∈ (zc x).exceptionTable.toList, False) {r : Int32 × zH} {k : zH → Int32 → Int32 → Option (Int32 × zH)} {u0 : Nat} {u1 : Nat} {u2 : Int32} {u3 : Nat} {u4 : Nat} {u6 : Int32} (hk : ∀ h v5 v7, k h v5 v7 = some r → zV G x 8 (zQ G x (zoi r) 0 0) h 0 0 121 [(0, .ref u0), (1, .ref u1), (2, .int u2), (3, .ref u3), (4, .ref u4), (5, .int v5), (6, .int u6), (7, .int v7)] []) : ∀ n h v5 v7, fX5_search_L19 k u0 u1 u2 u3 u4 u6 n h v5 v7 = some r → zV G x 8 (zQ G x (zoi r) 0 0) h 0 0 19 [(0, .ref u0), (1, .ref u1), (2, .int u2), (3, .ref u3), (4, .ref u4), (5, .int v5), (6, .int u6), (7, .int v7)] [] := by
  intro n
  induction n with
  | zero =>
    intro h v5 v7 hf
    have hf : (none : Option (Int32 × zH)) = some r := hf
    cases hf
  | succ n ih =>
    intro h v5 v7 hf
    rw [fX5_search_L19] at hf
    refine z_iload B dX5_search_19 7 rfl ?_
    refine z_aload_n B dX5_search_21 rfl 3 rfl ?_
    obtain ⟨w1, ew1, hf⟩ := zbs hf
    refine z_gI B fl_RX5_10 ew1 rfl dX5_search_22 ?_
    rcases zite hf with ⟨c2, hf⟩ | ⟨c2, hf⟩
    · refine z_icmp_ge B 121 dX5_search_25 (by decide) (fun _ => ?_) (fun e => absurd c2 e)
      exact hk _ _ _ hf
    refine z_icmp_ge B 121 dX5_search_25 (by decide) (fun e => absurd e c2) (fun _ => ?_)
    refine z_aload_n B dX5_search_28 rfl 3 rfl ?_
    obtain ⟨w3, ew3, hf⟩ := zbs hf
    refine z_gPR B fr_RX5_16 ew3 rfl dX5_search_29 ?_
    refine z_iload_n B dX5_search_32 rfl 2 rfl ?_
    obtain ⟨w4, ew4, hf⟩ := zbs hf
    refine z_aI B ew4 dX5_search_33 ?_
    refine z_iload B dX5_search_34 6 rfl ?_
    refine z_ishr B dX5_search_36 ?_
    refine z_iconst (v := 1) B dX5_search_37 (by decide) ?_
    refine z_iand B dX5_search_38 ?_
    refine z_iconst (v := 1) B dX5_search_39 (by decide) ?_
    rcases zite hf with ⟨c5, hf⟩ | ⟨c5, hf⟩
    · refine z_icmp_ne B 115 dX5_search_40 (by decide) (fun e => absurd c5 e) (fun _ => ?_)
      refine z_aload_n B dX5_search_43 rfl 1 rfl ?_
      refine z_iload B dX5_search_44 7 rfl ?_
      obtain ⟨w6, h7, ew6, hf⟩ := zb2s hf
      refine z_callVi B [.int v7] [] cw_X1_holds mv_RX5_20 (tX1_holds hst ew6) rfl (by decide) (kfX1_holds ew6) ⟨rfl, rfl, (Nat.le_of_ble_eq_true rfl), (Nat.le_of_ble_eq_true rfl), (Nat.le_of_ble_eq_true rfl), (Nat.le_of_ble_eq_true rfl)⟩ rfl rfl (Nat.le_of_ble_eq_true rfl) dX5_search_46 ?_
      rcases zite hf with ⟨c8, hf⟩ | ⟨c8, hf⟩
      · refine z_if_eq B 115 dX5_search_49 (by decide) (fun _ => ?_) (fun e => absurd c8 e)
        refine z_iinc (v' := (v7 + 1)) (lv' := [(7, .int (v7 + 1)), (0, .ref u0), (1, .ref u1), (2, .int u2), (3, .ref u3), (4, .ref u4), (5, .int v5), (6, .int u6)]) B dX5_search_115 7 rfl rfl (by decide) rfl ?_
        refine z_goto B 19 dX5_search_118 (by decide) ?_
        refine zV.sub [1, 2, 3, 4, 5, 6, 7, 0] rfl ?_
        exact ih _ _ _ hf
      refine z_if_eq B 115 dX5_search_49 (by decide) (fun e => absurd e c8) (fun _ => ?_)
      refine z_aload B dX5_search_52 4 rfl ?_
      refine z_iload B dX5_search_54 7 rfl ?_
      refine z_iload B dX5_search_56 6 rfl ?_
      obtain ⟨w9, h10, ew9, hf⟩ := zb2s hf
      refine z_callVi B [.int v7, .int u6] [] cw_X2_rankOf mv_RX5_26 (tX2_rankOf hst ew9) rfl (by decide) (kfX2_rankOf ew9) ⟨rfl, rfl, (Nat.le_of_ble_eq_true rfl), (Nat.le_of_ble_eq_true rfl), (Nat.le_of_ble_eq_true rfl), (Nat.le_of_ble_eq_true rfl)⟩ rfl rfl (Nat.le_of_ble_eq_true rfl) dX5_search_58 ?_
      refine z_iload B dX5_search_61 5 rfl ?_
      rcases zite hf with ⟨c11, hf⟩ | ⟨c11, hf⟩
      · refine z_icmp_ge B 115 dX5_search_63 (by decide) (fun _ => ?_) (fun e => absurd c11 e)
        refine z_iinc (v' := (v7 + 1)) (lv' := [(7, .int (v7 + 1)), (0, .ref u0), (1, .ref u1), (2, .int u2), (3, .ref u3), (4, .ref u4), (5, .int v5), (6, .int u6)]) B dX5_search_115 7 rfl rfl (by decide) rfl ?_
        refine z_goto B 19 dX5_search_118 (by decide) ?_
        refine zV.sub [1, 2, 3, 4, 5, 6, 7, 0] rfl ?_
        exact ih _ _ _ hf
      refine z_icmp_ge B 115 dX5_search_63 (by decide) (fun e => absurd e c11) (fun _ => ?_)
      refine z_aload B dX5_search_66 4 rfl ?_
      refine z_iload B dX5_search_68 7 rfl ?_
      refine z_iload B dX5_search_70 6 rfl ?_
      refine z_aload_n B dX5_search_72 rfl 1 rfl ?_
      obtain ⟨w12, ew12, hf⟩ := zbs hf
      refine z_gPR B fr_RX5_30 ew12 rfl dX5_search_73 ?_
      refine z_iload B dX5_search_76 7 rfl ?_
      obtain ⟨w13, ew13, hf⟩ := zbs hf
      refine z_aI B ew13 dX5_search_78 ?_
      refine z_aload_n B dX5_search_79 rfl 3 rfl ?_
      obtain ⟨w14, h15, ew14, hf⟩ := zb2s hf
      refine z_callVi B [.int v7, .int u6, .int w13, .ref u3] [] cw_X2_sizeAtEnd mv_RX5_33 (tX2_sizeAtEnd hst ew14) rfl (by decide) (kfX2_sizeAtEnd ew14) ⟨rfl, rfl, (Nat.le_of_ble_eq_true rfl), (Nat.le_of_ble_eq_true rfl), (Nat.le_of_ble_eq_true rfl), (Nat.le_of_ble_eq_true rfl)⟩ rfl rfl (Nat.le_of_ble_eq_true rfl) dX5_search_80 ?_
      refine z_aload_n B dX5_search_83 rfl 3 rfl ?_
      obtain ⟨w16, ew16, hf⟩ := zbs hf
      refine z_gPR B fr_RX5_37 ew16 rfl dX5_search_84 ?_
      refine z_iload_n B dX5_search_87 rfl 2 rfl ?_
      obtain ⟨w17, ew17, hf⟩ := zbs hf
      refine z_aI B ew17 dX5_search_88 ?_
      rcases zite hf with ⟨c18, hf⟩ | ⟨c18, hf⟩
      · refine z_icmp_gt B 115 dX5_search_89 (by decide) (fun _ => ?_) (fun e => absurd c18 e)
        refine z_iinc (v' := (v7 + 1)) (lv' := [(7, .int (v7 + 1)), (0, .ref u0), (1, .ref u1), (2, .int u2), (3, .ref u3), (4, .ref u4), (5, .int v5), (6, .int u6)]) B dX5_search_115 7 rfl rfl (by decide) rfl ?_
        refine z_goto B 19 dX5_search_118 (by decide) ?_
        refine zV.sub [1, 2, 3, 4, 5, 6, 7, 0] rfl ?_
        exact ih _ _ _ hf
      refine z_icmp_gt B 115 dX5_search_89 (by decide) (fun e => absurd e c18) (fun _ => ?_)
      refine z_aload B dX5_search_92 4 rfl ?_
      refine z_iload B dX5_search_94 7 rfl ?_
      refine z_iload B dX5_search_96 6 rfl ?_
      obtain ⟨w19, h20, ew19, hf⟩ := zb2s hf
      refine z_callVi B [.int v7, .int u6] [] cw_X2_rankOf mv_RX5_26 (tX2_rankOf hst ew19) rfl (by decide) (kfX2_rankOf ew19) ⟨rfl, rfl, (Nat.le_of_ble_eq_true rfl), (Nat.le_of_ble_eq_true rfl), (Nat.le_of_ble_eq_true rfl), (Nat.le_of_ble_eq_true rfl)⟩ rfl rfl (Nat.le_of_ble_eq_true rfl) dX5_search_98 ?_
      refine z_istore (lv' := [(5, .int w19), (0, .ref u0), (1, .ref u1), (2, .int u2), (3, .ref u3), (4, .ref u4), (6, .int u6), (7, .int v7)]) B dX5_search_101 (by decide) rfl ?_
      refine z_aload_n B dX5_search_103 rfl 1 rfl ?_
      refine z_iload B dX5_search_104 7 rfl ?_
      obtain ⟨h21, eh21, hf⟩ := zbs hf
      refine z_pI B fl_RX5_40 eh21 rfl dX5_search_106 ?_
      refine z_aload_n B dX5_search_109 rfl 1 rfl ?_
      refine z_iload B dX5_search_110 6 rfl ?_
      obtain ⟨h22, eh22, hf⟩ := zbs hf
      refine z_pI B fl_RX5_45 eh22 rfl dX5_search_112 ?_
      refine z_iinc (v' := (v7 + 1)) (lv' := [(7, .int (v7 + 1)), (5, .int w19), (0, .ref u0), (1, .ref u1), (2, .int u2), (3, .ref u3), (4, .ref u4), (6, .int u6)]) B dX5_search_115 7 rfl rfl (by decide) rfl ?_
      refine z_goto B 19 dX5_search_118 (by decide) ?_
      refine zV.sub [2, 3, 4, 5, 6, 1, 7, 0] rfl ?_
      exact ih _ _ _ hf
    refine z_icmp_ne B 115 dX5_search_40 (by decide) (fun _ => ?_) (fun e => absurd e c5)
    refine z_iinc (v' := (v7 + 1)) (lv' := [(7, .int (v7 + 1)), (0, .ref u0), (1, .ref u1), (2, .int u2), (3, .ref u3), (4, .ref u4), (5, .int v5), (6, .int u6)]) B dX5_search_115 7 rfl rfl (by decide) rfl ?_
    refine z_goto B 19 dX5_search_118 (by decide) ?_
    refine zV.sub [1, 2, 3, 4, 5, 6, 7, 0] rfl ?_
    exact ih _ _ _ hf
set_option maxRecDepth 100000 in
set_option maxHeartbeats 4000000 in
theorem fX5_search_L7_ok {G : zG} {x : zX} (B : zB G x cX5_search 8 RX5 "search" rm_X5_search (some .boolean)) (hst : (zl x).stackTraces = false) (hE : ∀ e ∈ (zc x).exceptionTable.toList, False) {r : Int32 × zH} {k : zH → Int32 → Int32 → Option (Int32 × zH)} {u0 : Nat} {u1 : Nat} {u2 : Int32} {u3 : Nat} {u4 : Nat} (hk : ∀ h v5 v6, k h v5 v6 = some r → zV G x 8 (zQ G x (zoi r) 0 0) h 0 0 127 [(0, .ref u0), (1, .ref u1), (2, .int u2), (3, .ref u3), (4, .ref u4), (5, .int v5), (6, .int v6)] []) : ∀ n h v5 v6, fX5_search_L7 k u0 u1 u2 u3 u4 n h v5 v6 = some r → zV G x 8 (zQ G x (zoi r) 0 0) h 0 0 7 [(0, .ref u0), (1, .ref u1), (2, .int u2), (3, .ref u3), (4, .ref u4), (5, .int v5), (6, .int v6)] [] := by
  intro n
  induction n with
  | zero =>
    intro h v5 v6 hf
    have hf : (none : Option (Int32 × zH)) = some r := hf
    cases hf
  | succ n ih =>
    intro h v5 v6 hf
    rw [fX5_search_L7] at hf
    refine z_iload B dX5_search_7 6 rfl ?_
    refine z_aload_n B dX5_search_9 rfl 3 rfl ?_
    obtain ⟨w1, ew1, hf⟩ := zbs hf
    refine z_gI B fl_RX5_10 ew1 rfl dX5_search_10 ?_
    rcases zite hf with ⟨c2, hf⟩ | ⟨c2, hf⟩
    · refine z_icmp_ge B 127 dX5_search_13 (by decide) (fun _ => ?_) (fun e => absurd c2 e)
      exact hk _ _ _ hf
    refine z_icmp_ge B 127 dX5_search_13 (by decide) (fun e => absurd e c2) (fun _ => ?_)
    refine z_iconst (v := 0) B dX5_search_16 (by decide) ?_
    refine z_istore (lv' := [(7, .int 0), (0, .ref u0), (1, .ref u1), (2, .int u2), (3, .ref u3), (4, .ref u4), (5, .int v5), (6, .int v6)]) B dX5_search_17 (by decide) rfl ?_
    refine zV.sub [1, 2, 3, 4, 5, 6, 7, 0] rfl ?_
    refine fX5_search_L19_ok B hst hE (fun h3 y4 y5 hf => ?_) _ _ _ _ hf
    refine z_iinc (v' := (v6 + 1)) (lv' := [(6, .int (v6 + 1)), (0, .ref u0), (1, .ref u1), (2, .int u2), (3, .ref u3), (4, .ref u4), (5, .int y4), (7, .int y5)]) B dX5_search_121 6 rfl rfl (by decide) rfl ?_
    refine z_goto B 7 dX5_search_124 (by decide) ?_
    refine zV.sub [1, 2, 3, 4, 5, 6, 0] rfl ?_
    exact ih _ _ _ hf
set_option maxRecDepth 100000 in
set_option maxHeartbeats 4000000 in
theorem tX5_search {l : Launch} {G : zG} (hst : l.stackTraces = false) {h : zH} {a0 : Nat} {a1 : Nat} {a2 : Int32} {a3 : Nat} {a4 : Nat} {r : Int32 × zH} (hf : fX5_search h a0 a1 a2 a3 a4 = some r) : zMet l G yX5_search (.code yX5_search cX5_search 8 (some .boolean)) rm_X5_search 0 0 [.ref a0, .ref a1, .int a2, .ref a3, .ref a4] h (zoi r) := by
  unfold fX5_search at hf
  obtain ⟨-, hf⟩ := zck hf
  refine z_enter (by decide) (Nat.le_of_ble_eq_true rfl) hst (fun x hx B hE => ?_)
  subst hx
  have B : zB G x cX5_search 8 RX5 "search" rm_X5_search (some .boolean) := B
  show zV G x 8 (zQ G x (zoi r) 0 0) h 0 0 0 [(0, .ref a0), (1, .ref a1), (2, .int a2), (3, .ref a3), (4, .ref a4)] []
  refine z_ldc B dX5_search_0 kc_RX5_9 ?_
  refine z_istore (lv' := [(5, .int 1000000), (0, .ref a0), (1, .ref a1), (2, .int a2), (3, .ref a3), (4, .ref a4)]) B dX5_search_2 (by decide) rfl ?_
  refine z_iconst (v := 0) B dX5_search_4 (by decide) ?_
  refine z_istore (lv' := [(6, .int 0), (5, .int 1000000), (0, .ref a0), (1, .ref a1), (2, .int a2), (3, .ref a3), (4, .ref a4)]) B dX5_search_5 (by decide) rfl ?_
  refine zV.sub [2, 3, 4, 5, 6, 1, 0] rfl ?_
  refine fX5_search_L7_ok B hst hE (fun h1 y2 y3 hf => ?_) _ _ _ _ hf
  refine z_iload B dX5_search_127 5 rfl ?_
  refine z_ldc B dX5_search_129 kc_RX5_9 ?_
  rcases zite hf with ⟨c4, hf⟩ | ⟨c4, hf⟩
  · refine z_icmp_ne B 136 dX5_search_131 (by decide) (fun e => absurd c4 e) (fun _ => ?_)
    refine z_iconst (v := 0) B dX5_search_134 (by decide) ?_
    cases hf
    exact z_zret B dX5_search_135 (Or.inl rfl) (Nat.le_of_ble_eq_true rfl) (Nat.le_of_ble_eq_true rfl)
  refine z_icmp_ne B 136 dX5_search_131 (by decide) (fun _ => ?_) (fun e => absurd e c4)
  refine z_aload_n B dX5_search_136 rfl 0 rfl ?_
  refine z_aload B dX5_search_137 4 rfl ?_
  refine z_aload_n B dX5_search_139 rfl 0 rfl ?_
  obtain ⟨w5, ew5, hf⟩ := zbs hf
  refine z_gI B fl_RX5_40 ew5 rfl dX5_search_140 ?_
  refine z_aload_n B dX5_search_143 rfl 0 rfl ?_
  obtain ⟨w6, ew6, hf⟩ := zbs hf
  refine z_gI B fl_RX5_45 ew6 rfl dX5_search_144 ?_
  obtain ⟨w7, h8, ew7, hf⟩ := zb2s hf
  refine z_callVi B [.int w5, .int w6] [.ref a0] cw_X2_costOf mv_RX5_48 (tX2_costOf hst ew7) rfl (by decide) (kfX2_costOf ew7) ⟨rfl, rfl, (Nat.le_of_ble_eq_true rfl), (Nat.le_of_ble_eq_true rfl), (Nat.le_of_ble_eq_true rfl), (Nat.le_of_ble_eq_true rfl)⟩ rfl rfl (Nat.le_of_ble_eq_true rfl) dX5_search_147 ?_
  obtain ⟨h9, eh9, hf⟩ := zbs hf
  refine z_pI B fl_RX5_51 eh9 rfl dX5_search_150 ?_
  refine z_aload_n B dX5_search_153 rfl 0 rfl ?_
  refine z_aload B dX5_search_154 4 rfl ?_
  refine z_aload_n B dX5_search_156 rfl 0 rfl ?_
  obtain ⟨w10, ew10, hf⟩ := zbs hf
  refine z_gI B fl_RX5_40 ew10 rfl dX5_search_157 ?_
  refine z_aload_n B dX5_search_160 rfl 0 rfl ?_
  obtain ⟨w11, ew11, hf⟩ := zbs hf
  refine z_gI B fl_RX5_45 ew11 rfl dX5_search_161 ?_
  refine z_aload_n B dX5_search_164 rfl 1 rfl ?_
  obtain ⟨w12, ew12, hf⟩ := zbs hf
  refine z_gPR B fr_RX5_30 ew12 rfl dX5_search_165 ?_
  refine z_aload_n B dX5_search_168 rfl 0 rfl ?_
  obtain ⟨w13, ew13, hf⟩ := zbs hf
  refine z_gI B fl_RX5_40 ew13 rfl dX5_search_169 ?_
  obtain ⟨w14, ew14, hf⟩ := zbs hf
  refine z_aI B ew14 dX5_search_172 ?_
  refine z_aload_n B dX5_search_173 rfl 3 rfl ?_
  obtain ⟨w15, h16, ew15, hf⟩ := zb2s hf
  refine z_callVi B [.int w10, .int w11, .int w14, .ref a3] [.ref a0] cw_X2_sizeAtEnd mv_RX5_33 (tX2_sizeAtEnd hst ew15) rfl (by decide) (kfX2_sizeAtEnd ew15) ⟨rfl, rfl, (Nat.le_of_ble_eq_true rfl), (Nat.le_of_ble_eq_true rfl), (Nat.le_of_ble_eq_true rfl), (Nat.le_of_ble_eq_true rfl)⟩ rfl rfl (Nat.le_of_ble_eq_true rfl) dX5_search_174 ?_
  obtain ⟨h17, eh17, hf⟩ := zbs hf
  refine z_pI B fl_RX5_54 eh17 rfl dX5_search_177 ?_
  refine z_aload_n B dX5_search_180 rfl 0 rfl ?_
  refine z_aload_n B dX5_search_181 rfl 1 rfl ?_
  obtain ⟨w18, ew18, hf⟩ := zbs hf
  refine z_gPR B fr_RX5_57 ew18 rfl dX5_search_182 ?_
  refine z_aload_n B dX5_search_185 rfl 0 rfl ?_
  obtain ⟨w19, ew19, hf⟩ := zbs hf
  refine z_gI B fl_RX5_40 ew19 rfl dX5_search_186 ?_
  obtain ⟨w20, ew20, hf⟩ := zbs hf
  refine z_aI B ew20 dX5_search_189 ?_
  refine z_aload B dX5_search_190 4 rfl ?_
  refine z_aload_n B dX5_search_192 rfl 0 rfl ?_
  obtain ⟨w21, ew21, hf⟩ := zbs hf
  refine z_gI B fl_RX5_40 ew21 rfl dX5_search_193 ?_
  refine z_aload_n B dX5_search_196 rfl 0 rfl ?_
  obtain ⟨w22, ew22, hf⟩ := zbs hf
  refine z_gI B fl_RX5_45 ew22 rfl dX5_search_197 ?_
  refine z_aload_n B dX5_search_200 rfl 3 rfl ?_
  obtain ⟨w23, h24, ew23, hf⟩ := zb2s hf
  refine z_callVi B [.int w21, .int w22, .ref a3] [.int w20, .ref a0] cw_X2_lossOf mv_RX5_60 (tX2_lossOf hst ew23) rfl (by decide) (kfX2_lossOf ew23) ⟨rfl, rfl, (Nat.le_of_ble_eq_true rfl), (Nat.le_of_ble_eq_true rfl), (Nat.le_of_ble_eq_true rfl), (Nat.le_of_ble_eq_true rfl)⟩ rfl rfl (Nat.le_of_ble_eq_true rfl) dX5_search_201 ?_
  refine z_iadd B dX5_search_204 ?_
  obtain ⟨h25, eh25, hf⟩ := zbs hf
  refine z_pI B fl_RX5_64 eh25 rfl dX5_search_205 ?_
  refine z_iconst (v := 1) B dX5_search_208 (by decide) ?_
  cases hf
  exact z_zret B dX5_search_209 (Or.inr rfl) (Nat.le_of_ble_eq_true rfl) (Nat.le_of_ble_eq_true rfl)
abbrev rm_X6_findWay : Room := { frames := 3, cells := 0, slots := 0, locals := 78 }
set_option maxRecDepth 100000 in
set_option maxHeartbeats 4000000 in
theorem tX6_findWay {l : Launch} {G : zG} (hst : l.stackTraces = false) {h : zH} {a0 : Nat} {a1 : Nat} {a2 : Int32} {a3 : Int32} {r : Int32 × zH} (hf : fX6_findWay h a0 a1 a2 a3 = some r) : zMet l G yX6_findWay (.code yX6_findWay cX6_findWay 4 (some .boolean)) rm_X6_findWay 0 0 [.ref a0, .ref a1, .int a2, .int a3] h (zoi r) := by
  unfold fX6_findWay at hf
  obtain ⟨-, hf⟩ := zck hf
  refine z_enter (by decide) (Nat.le_of_ble_eq_true rfl) hst (fun x hx B hE => ?_)
  subst hx
  have B : zB G x cX6_findWay 4 RX6 "findWay" rm_X6_findWay (some .boolean) := B
  show zV G x 4 (zQ G x (zoi r) 0 0) h 0 0 0 [(0, .ref a0), (1, .ref a1), (2, .int a2), (3, .int a3)] []
  refine z_aload_n B dX6_findWay_0 rfl 0 rfl ?_
  obtain ⟨w1, ew1, hf⟩ := zbs hf
  refine z_gP B fl_RX6_29 ew1 rfl dX6_findWay_1 ?_
  refine z_aload_n B dX6_findWay_4 rfl 1 rfl ?_
  obtain ⟨w2, ew2, hf⟩ := zbs hf
  refine z_gPR B fr_RX6_159 ew2 rfl dX6_findWay_5 ?_
  refine z_iload_n B dX6_findWay_8 rfl 2 rfl ?_
  obtain ⟨w3, ew3, hf⟩ := zbs hf
  refine z_aP B ew3 dX6_findWay_9 ?_
  refine z_iload_n B dX6_findWay_10 rfl 3 rfl ?_
  refine z_aload_n B dX6_findWay_11 rfl 0 rfl ?_
  obtain ⟨w4, ew4, hf⟩ := zbs hf
  refine z_gP B fl_RX6_57 ew4 rfl dX6_findWay_12 ?_
  refine z_aload_n B dX6_findWay_15 rfl 0 rfl ?_
  obtain ⟨w5, ew5, hf⟩ := zbs hf
  refine z_gP B fl_RX6_19 ew5 rfl dX6_findWay_16 ?_
  obtain ⟨w6, h7, ew6, hf⟩ := zb2s hf
  refine z_callVi B [.ref w3, .int a3, .ref w4, .ref w5] [] cw_X5_search mv_RX6_380 (tX5_search hst ew6) rfl (by decide) (kfX5_search ew6) ⟨rfl, rfl, (Nat.le_of_ble_eq_true rfl), (Nat.le_of_ble_eq_true rfl), (Nat.le_of_ble_eq_true rfl), (Nat.le_of_ble_eq_true rfl)⟩ rfl rfl (Nat.le_of_ble_eq_true rfl) dX6_findWay_19 ?_
  rcases zite hf with ⟨c8, hf⟩ | ⟨c8, hf⟩
  · cases hf
    exact z_zret B dX6_findWay_22 c8 (Nat.le_of_ble_eq_true rfl) (Nat.le_of_ble_eq_true rfl)
  cases hf
abbrev rm_X3_useEntry : Room := { frames := 4, cells := 0, slots := 0, locals := 91 }
set_option maxRecDepth 100000 in
set_option maxHeartbeats 4000000 in
theorem tX3_useEntry {l : Launch} {G : zG} (hst : l.stackTraces = false) {h : zH} {a0 : Nat} {a1 : Int32} {a2 : Nat} {r : zH} (hf : fX3_useEntry h a0 a1 a2 = some r) : zMet l G yX3_useEntry (.code yX3_useEntry cX3_useEntry 4 none) rm_X3_useEntry 0 0 [.ref a0, .int a1, .ref a2] h (zov r) := by
  unfold fX3_useEntry at hf
  obtain ⟨-, hf⟩ := zck hf
  refine z_enter (by decide) (Nat.le_of_ble_eq_true rfl) hst (fun x hx B hE => ?_)
  subst hx
  have B : zB G x cX3_useEntry 4 RX3 "useEntry" rm_X3_useEntry none := B
  show zV G x 4 (zQ G x (zov r) 0 0) h 0 0 0 [(0, .ref a0), (1, .int a1), (2, .ref a2)] []
  refine z_aload_n B dX3_useEntry_0 rfl 0 rfl ?_
  refine z_iload_n B dX3_useEntry_1 rfl 1 rfl ?_
  obtain ⟨w1, h2, ew1, hf⟩ := zb2s hf
  refine z_callVi B [.int a1] [] cw_X3_hasEntry mv_RX3_58 (tX3_hasEntry hst ew1) rfl (by decide) (kfX3_hasEntry ew1) ⟨rfl, rfl, (Nat.le_of_ble_eq_true rfl), (Nat.le_of_ble_eq_true rfl), (Nat.le_of_ble_eq_true rfl), (Nat.le_of_ble_eq_true rfl)⟩ rfl rfl (Nat.le_of_ble_eq_true rfl) dX3_useEntry_2 ?_
  rcases zite hf with ⟨c3, hf⟩ | ⟨c3, hf⟩
  · refine z_if_ne B 9 dX3_useEntry_5 (by decide) (fun e => absurd c3 e) (fun _ => ?_)
    cases hf
    exact z_vret B dX3_useEntry_8 (Nat.le_of_ble_eq_true rfl) (Nat.le_of_ble_eq_true rfl)
  refine z_if_ne B 9 dX3_useEntry_5 (by decide) (fun _ => ?_) (fun e => absurd e c3)
  refine z_aload_n B dX3_useEntry_9 rfl 0 rfl ?_
  obtain ⟨w4, ew4, hf⟩ := zbs hf
  refine z_gP B fl_RX3_11 ew4 rfl dX3_useEntry_10 ?_
  refine z_iload_n B dX3_useEntry_13 rfl 1 rfl ?_
  obtain ⟨w5, ew5, hf⟩ := zbs hf
  refine z_aP B ew5 dX3_useEntry_14 ?_
  refine z_astore_n (lv' := [(3, .ref w5), (0, .ref a0), (1, .int a1), (2, .ref a2)]) B dX3_useEntry_15 rfl (by decide) rfl ?_
  refine z_aload_n B dX3_useEntry_16 rfl 1 rfl ?_
  refine z_dup B dX3_useEntry_17 rfl ?_
  obtain ⟨w6, ew6, hf⟩ := zbs hf
  refine z_gI B fl_RX3_26 ew6 rfl dX3_useEntry_18 ?_
  refine z_iconst (v := 1) B dX3_useEntry_21 (by decide) ?_
  refine z_iadd B dX3_useEntry_22 ?_
  obtain ⟨h7, eh7, hf⟩ := zbs hf
  refine z_pI B fl_RX3_26 eh7 rfl dX3_useEntry_23 ?_
  refine z_aload_n B dX3_useEntry_26 rfl 1 rfl ?_
  refine z_dup B dX3_useEntry_27 rfl ?_
  obtain ⟨w8, ew8, hf⟩ := zbs hf
  refine z_gI B fl_RX3_29 ew8 rfl dX3_useEntry_28 ?_
  refine z_aload_n B dX3_useEntry_31 rfl 3 rfl ?_
  obtain ⟨w9, ew9, hf⟩ := zbs hf
  refine z_gI B fl_RX3_112 ew9 rfl dX3_useEntry_32 ?_
  refine z_iadd B dX3_useEntry_35 ?_
  obtain ⟨h10, eh10, hf⟩ := zbs hf
  refine z_pI B fl_RX3_29 eh10 rfl dX3_useEntry_36 ?_
  refine z_aload_n B dX3_useEntry_39 rfl 0 rfl ?_
  refine z_dup B dX3_useEntry_40 rfl ?_
  obtain ⟨w11, ew11, hf⟩ := zbs hf
  refine z_gI B fl_RX3_116 ew11 rfl dX3_useEntry_41 ?_
  refine z_iconst (v := 1) B dX3_useEntry_44 (by decide) ?_
  refine z_iadd B dX3_useEntry_45 ?_
  obtain ⟨h12, eh12, hf⟩ := zbs hf
  refine z_pI B fl_RX3_116 eh12 rfl dX3_useEntry_46 ?_
  refine z_aload_n B dX3_useEntry_49 rfl 0 rfl ?_
  refine z_aload_n B dX3_useEntry_50 rfl 1 rfl ?_
  obtain ⟨w13, ew13, hf⟩ := zbs hf
  refine z_gI B fl_RX3_26 ew13 rfl dX3_useEntry_51 ?_
  obtain ⟨h14, eh14, hf⟩ := zbs hf
  refine z_pI B fl_RX3_119 eh14 rfl dX3_useEntry_54 ?_
  refine z_aload_n B dX3_useEntry_57 rfl 0 rfl ?_
  refine z_aload_n B dX3_useEntry_58 rfl 3 rfl ?_
  obtain ⟨w15, ew15, hf⟩ := zbs hf
  refine z_gI B fl_RX3_122 ew15 rfl dX3_useEntry_59 ?_
  obtain ⟨w16, h17, ew16, hf⟩ := zb2s hf
  refine z_callVi B [.int w15] [] cw_X1_holds mv_RX3_96 (tX1_holds hst ew16) rfl (by decide) (kfX1_holds ew16) ⟨rfl, rfl, (Nat.le_of_ble_eq_true rfl), (Nat.le_of_ble_eq_true rfl), (Nat.le_of_ble_eq_true rfl), (Nat.le_of_ble_eq_true rfl)⟩ rfl rfl (Nat.le_of_ble_eq_true rfl) dX3_useEntry_62 ?_
  rcases zite hf with ⟨c18, hf⟩ | ⟨c18, hf⟩
  · refine z_if_ne B 112 dX3_useEntry_65 (by decide) (fun e => absurd c18 e) (fun _ => ?_)
    refine z_aload_n B dX3_useEntry_68 rfl 1 rfl ?_
    refine z_iload_n B dX3_useEntry_69 rfl 2 rfl ?_
    refine z_iconst (v := 1) B dX3_useEntry_70 (by decide) ?_
    obtain ⟨w19, h20, ew19, hf⟩ := zb2s hf
    refine z_callVi B [.int a1, .int 1] [] cw_X3_leastSize mv_RX3_73 (tX3_leastSize hst ew19) rfl (by decide) (kfX3_leastSize ew19) ⟨rfl, rfl, (Nat.le_of_ble_eq_true rfl), (Nat.le_of_ble_eq_true rfl), (Nat.le_of_ble_eq_true rfl), (Nat.le_of_ble_eq_true rfl)⟩ rfl rfl (Nat.le_of_ble_eq_true rfl) dX3_useEntry_71 ?_
    refine z_aload_n B dX3_useEntry_74 rfl 3 rfl ?_
    obtain ⟨w21, ew21, hf⟩ := zbs hf
    refine z_gI B fl_RX3_125 ew21 rfl dX3_useEntry_75 ?_
    refine z_iadd B dX3_useEntry_78 ?_
    refine z_aload_n B dX3_useEntry_79 rfl 1 rfl ?_
    obtain ⟨w22, ew22, hf⟩ := zbs hf
    refine z_gI B fl_RX3_37 ew22 rfl dX3_useEntry_80 ?_
    rcases zite hf with ⟨c23, hf⟩ | ⟨c23, hf⟩
    · refine z_icmp_gt B 112 dX3_useEntry_83 (by decide) (fun _ => ?_) (fun e => absurd c23 e)
      refine z_aload_n B dX3_useEntry_112 rfl 1 rfl ?_
      refine z_iload_n B dX3_useEntry_113 rfl 2 rfl ?_
      obtain ⟨h24, eh24, hf⟩ := zbs hf
      refine z_callVv B [.int a1] [] cw_X3_moveToFront mv_RX3_93 (tX3_moveToFront hst eh24) rfl (by decide) (kfX3_moveToFront eh24) ⟨rfl, rfl, (Nat.le_of_ble_eq_true rfl), (Nat.le_of_ble_eq_true rfl), (Nat.le_of_ble_eq_true rfl), (Nat.le_of_ble_eq_true rfl)⟩ rfl rfl (Nat.le_of_ble_eq_true rfl) dX3_useEntry_114 ?_
      cases hf
      exact z_vret B dX3_useEntry_117 (Nat.le_of_ble_eq_true rfl) (Nat.le_of_ble_eq_true rfl)
    refine z_icmp_gt B 112 dX3_useEntry_83 (by decide) (fun e => absurd e c23) (fun _ => ?_)
    refine z_aload_n B dX3_useEntry_86 rfl 1 rfl ?_
    refine z_aload_n B dX3_useEntry_87 rfl 3 rfl ?_
    obtain ⟨w25, ew25, hf⟩ := zbs hf
    refine z_gI B fl_RX3_125 ew25 rfl dX3_useEntry_88 ?_
    refine z_iload_n B dX3_useEntry_91 rfl 2 rfl ?_
    obtain ⟨h26, eh26, hf⟩ := zbs hf
    refine z_callVv B [.int w25, .int a1] [] cw_X3_makeRoom mv_RX3_85 (tX3_makeRoom hst eh26) rfl (by decide) (kfX3_makeRoom eh26) ⟨rfl, rfl, (Nat.le_of_ble_eq_true rfl), (Nat.le_of_ble_eq_true rfl), (Nat.le_of_ble_eq_true rfl), (Nat.le_of_ble_eq_true rfl)⟩ rfl rfl (Nat.le_of_ble_eq_true rfl) dX3_useEntry_92 ?_
    refine z_aload_n B dX3_useEntry_95 rfl 0 rfl ?_
    refine z_aload_n B dX3_useEntry_96 rfl 3 rfl ?_
    obtain ⟨w27, ew27, hf⟩ := zbs hf
    refine z_gI B fl_RX3_122 ew27 rfl dX3_useEntry_97 ?_
    refine z_aload_n B dX3_useEntry_100 rfl 3 rfl ?_
    obtain ⟨w28, ew28, hf⟩ := zbs hf
    refine z_gI B fl_RX3_125 ew28 rfl dX3_useEntry_101 ?_
    refine z_aload_n B dX3_useEntry_104 rfl 3 rfl ?_
    obtain ⟨w29, ew29, hf⟩ := zbs hf
    refine z_gI B fl_RX3_126 ew29 rfl dX3_useEntry_105 ?_
    refine z_iconst (v := 1) B dX3_useEntry_108 (by decide) ?_
    obtain ⟨h30, eh30, hf⟩ := zbs hf
    refine z_callVv B [.int w27, .int w28, .int w29, .int 1] [] cw_X1_putForm mv_RX3_108 (tX1_putForm hst eh30) rfl (by decide) (kfX1_putForm eh30) ⟨rfl, rfl, (Nat.le_of_ble_eq_true rfl), (Nat.le_of_ble_eq_true rfl), (Nat.le_of_ble_eq_true rfl), (Nat.le_of_ble_eq_true rfl)⟩ rfl rfl (Nat.le_of_ble_eq_true rfl) dX3_useEntry_109 ?_
    refine z_aload_n B dX3_useEntry_112 rfl 1 rfl ?_
    refine z_iload_n B dX3_useEntry_113 rfl 2 rfl ?_
    obtain ⟨h31, eh31, hf⟩ := zbs hf
    refine z_callVv B [.int a1] [] cw_X3_moveToFront mv_RX3_93 (tX3_moveToFront hst eh31) rfl (by decide) (kfX3_moveToFront eh31) ⟨rfl, rfl, (Nat.le_of_ble_eq_true rfl), (Nat.le_of_ble_eq_true rfl), (Nat.le_of_ble_eq_true rfl), (Nat.le_of_ble_eq_true rfl)⟩ rfl rfl (Nat.le_of_ble_eq_true rfl) dX3_useEntry_114 ?_
    cases hf
    exact z_vret B dX3_useEntry_117 (Nat.le_of_ble_eq_true rfl) (Nat.le_of_ble_eq_true rfl)
  refine z_if_ne B 112 dX3_useEntry_65 (by decide) (fun _ => ?_) (fun e => absurd e c18)
  refine z_aload_n B dX3_useEntry_112 rfl 1 rfl ?_
  refine z_iload_n B dX3_useEntry_113 rfl 2 rfl ?_
  obtain ⟨h32, eh32, hf⟩ := zbs hf
  refine z_callVv B [.int a1] [] cw_X3_moveToFront mv_RX3_93 (tX3_moveToFront hst eh32) rfl (by decide) (kfX3_moveToFront eh32) ⟨rfl, rfl, (Nat.le_of_ble_eq_true rfl), (Nat.le_of_ble_eq_true rfl), (Nat.le_of_ble_eq_true rfl), (Nat.le_of_ble_eq_true rfl)⟩ rfl rfl (Nat.le_of_ble_eq_true rfl) dX3_useEntry_114 ?_
  cases hf
  exact z_vret B dX3_useEntry_117 (Nat.le_of_ble_eq_true rfl) (Nat.le_of_ble_eq_true rfl)
abbrev rm_X6_paste : Room := { frames := 7, cells := 3, slots := 18, locals := 114 }
set_option maxRecDepth 100000 in
set_option maxHeartbeats 4000000 in
theorem tX6_paste {l : Launch} {G : zG} (hst : l.stackTraces = false) {h : zH} {a0 : Nat} {a1 : Int32} {a2 : Int32} {r : (Int32 ⊕ String) × zH} (hf : fX6_paste h a0 a1 a2 = some r) : zMet l G yX6_paste (.code yX6_paste cX6_paste 3 (some .int)) rm_X6_paste 3 18 [.ref a0, .int a1, .int a2] h (zoxi r) := by
  unfold fX6_paste at hf
  obtain ⟨-, hf⟩ := zck hf
  refine z_enter (by decide) (Nat.le_of_ble_eq_true rfl) hst (fun x hx B hE => ?_)
  subst hx
  have B : zB G x cX6_paste 3 RX6 "paste" rm_X6_paste (some .int) := B
  show zV G x 3 (zQ G x (zoxi r) 3 18) h 0 0 0 [(0, .ref a0), (1, .int a1), (2, .int a2)] []
  refine z_aload_n B dX6_paste_0 rfl 0 rfl ?_
  refine z_iload_n B dX6_paste_1 rfl 1 rfl ?_
  rcases zb4s hf with ⟨E2, h1, eh1, rfl⟩ | ⟨h1, eh1, hf⟩
  · exact z_callVX B hE [.int a1] [] cw_X6_requireEntry mv_RX6_156 (tX6_requireEntry hst eh1) rfl (by decide) (kfX6_requireEntry eh1) ⟨rfl, rfl, (Nat.le_of_ble_eq_true rfl), (Nat.le_of_ble_eq_true rfl), (Nat.le_of_ble_eq_true rfl), (Nat.le_of_ble_eq_true rfl)⟩ rfl rfl (Nat.le_of_ble_eq_true rfl) dX6_paste_2 (Nat.le_of_ble_eq_true rfl) (Nat.le_of_ble_eq_true rfl)
  refine z_callVv B [.int a1] [] cw_X6_requireEntry mv_RX6_156 (tX6_requireEntry hst eh1) rfl (by decide) (kfX6_requireEntry eh1) ⟨rfl, rfl, (Nat.le_of_ble_eq_true rfl), (Nat.le_of_ble_eq_true rfl), (Nat.le_of_ble_eq_true rfl), (Nat.le_of_ble_eq_true rfl)⟩ rfl rfl (Nat.le_of_ble_eq_true rfl) dX6_paste_2 ?_
  refine z_aload_n B dX6_paste_5 rfl 0 rfl ?_
  refine z_iload_n B dX6_paste_6 rfl 2 rfl ?_
  rcases zb4s hf with ⟨E4, h3, eh3, rfl⟩ | ⟨h3, eh3, hf⟩
  · exact z_callVX B hE [.int a2] [] cw_X6_requirePlace mv_RX6_145 (tX6_requirePlace hst eh3) rfl (by decide) (kfX6_requirePlace eh3) ⟨rfl, rfl, (Nat.le_of_ble_eq_true rfl), (Nat.le_of_ble_eq_true rfl), (Nat.le_of_ble_eq_true rfl), (Nat.le_of_ble_eq_true rfl)⟩ rfl rfl (Nat.le_of_ble_eq_true rfl) dX6_paste_7 (Nat.le_of_ble_eq_true rfl) (Nat.le_of_ble_eq_true rfl)
  refine z_callVv B [.int a2] [] cw_X6_requirePlace mv_RX6_145 (tX6_requirePlace hst eh3) rfl (by decide) (kfX6_requirePlace eh3) ⟨rfl, rfl, (Nat.le_of_ble_eq_true rfl), (Nat.le_of_ble_eq_true rfl), (Nat.le_of_ble_eq_true rfl), (Nat.le_of_ble_eq_true rfl)⟩ rfl rfl (Nat.le_of_ble_eq_true rfl) dX6_paste_7 ?_
  refine z_aload_n B dX6_paste_10 rfl 0 rfl ?_
  refine z_aload_n B dX6_paste_11 rfl 0 rfl ?_
  obtain ⟨w5, ew5, hf⟩ := zbs hf
  refine z_gP B fl_RX6_36 ew5 rfl dX6_paste_12 ?_
  refine z_iload_n B dX6_paste_15 rfl 1 rfl ?_
  refine z_iload_n B dX6_paste_16 rfl 2 rfl ?_
  obtain ⟨w6, h7, ew6, hf⟩ := zb2s hf
  refine z_callVi B [.ref w5, .int a1, .int a2] [] cw_X6_findWay mv_RX6_227 (tX6_findWay hst ew6) rfl (by decide) (kfX6_findWay ew6) ⟨rfl, rfl, (Nat.le_of_ble_eq_true rfl), (Nat.le_of_ble_eq_true rfl), (Nat.le_of_ble_eq_true rfl), (Nat.le_of_ble_eq_true rfl)⟩ rfl rfl (Nat.le_of_ble_eq_true rfl) dX6_paste_17 ?_
  rcases zite hf with ⟨c8, hf⟩ | ⟨c8, hf⟩
  · refine z_if_ne B 33 dX6_paste_20 (by decide) (fun e => absurd c8 e) (fun _ => ?_)
    cases hf
    exact z_throw B hE rfl th_RX6_78_82 sl_231 dX6_paste_23 dX6_paste_26 dX6_paste_27 dX6_paste_29 dX6_paste_32 (Nat.le_of_ble_eq_true rfl) (Nat.le_of_ble_eq_true rfl) (Nat.le_of_ble_eq_true rfl) (Nat.le_of_ble_eq_true rfl) (Nat.le_of_ble_eq_true rfl) (Nat.le_of_ble_eq_true rfl)
  refine z_if_ne B 33 dX6_paste_20 (by decide) (fun _ => ?_) (fun e => absurd e c8)
  refine z_aload_n B dX6_paste_33 rfl 0 rfl ?_
  obtain ⟨h9, eh9, hf⟩ := zbs hf
  refine z_callVv B [] [] cw_X6_rememberNow mv_RX6_211 (tX6_rememberNow hst eh9) rfl (by decide) (kfX6_rememberNow eh9) ⟨rfl, rfl, (Nat.le_of_ble_eq_true rfl), (Nat.le_of_ble_eq_true rfl), (Nat.le_of_ble_eq_true rfl), (Nat.le_of_ble_eq_true rfl)⟩ rfl rfl (Nat.le_of_ble_eq_true rfl) dX6_paste_34 ?_
  refine z_aload_n B dX6_paste_37 rfl 0 rfl ?_
  obtain ⟨w10, ew10, hf⟩ := zbs hf
  refine z_gP B fl_RX6_36 ew10 rfl dX6_paste_38 ?_
  refine z_iload_n B dX6_paste_41 rfl 1 rfl ?_
  refine z_aload_n B dX6_paste_42 rfl 0 rfl ?_
  obtain ⟨w11, ew11, hf⟩ := zbs hf
  refine z_gP B fl_RX6_29 ew11 rfl dX6_paste_43 ?_
  obtain ⟨h12, eh12, hf⟩ := zbs hf
  refine z_callVv B [.int a1, .ref w11] [] cw_X3_useEntry mv_RX6_233 (tX3_useEntry hst eh12) rfl (by decide) (kfX3_useEntry eh12) ⟨rfl, rfl, (Nat.le_of_ble_eq_true rfl), (Nat.le_of_ble_eq_true rfl), (Nat.le_of_ble_eq_true rfl), (Nat.le_of_ble_eq_true rfl)⟩ rfl rfl (Nat.le_of_ble_eq_true rfl) dX6_paste_46 ?_
  refine z_aload_n B dX6_paste_49 rfl 0 rfl ?_
  obtain ⟨w13, ew13, hf⟩ := zbs hf
  refine z_gP B fl_RX6_29 ew13 rfl dX6_paste_50 ?_
  obtain ⟨w14, ew14, hf⟩ := zbs hf
  refine z_gI B fl_RX6_237 ew14 rfl dX6_paste_53 ?_
  cases hf
  exact z_iret B dX6_paste_56 (Nat.le_of_ble_eq_true rfl) (Nat.le_of_ble_eq_true rfl)
abbrev rm_X3_switchPin : Room := { frames := 1, cells := 0, slots := 0, locals := 21 }
set_option maxRecDepth 100000 in
set_option maxHeartbeats 4000000 in
theorem tX3_switchPin {l : Launch} {G : zG} (hst : l.stackTraces = false) {h : zH} {a0 : Nat} {a1 : Int32} {r : zH} (hf : fX3_switchPin h a0 a1 = some r) : zMet l G yX3_switchPin (.code yX3_switchPin cX3_switchPin 2 none) rm_X3_switchPin 0 0 [.ref a0, .int a1] h (zov r) := by
  unfold fX3_switchPin at hf
  obtain ⟨-, hf⟩ := zck hf
  refine z_enter (by decide) (Nat.le_of_ble_eq_true rfl) hst (fun x hx B hE => ?_)
  subst hx
  have B : zB G x cX3_switchPin 2 RX3 "switchPin" rm_X3_switchPin none := B
  show zV G x 2 (zQ G x (zov r) 0 0) h 0 0 0 [(0, .ref a0), (1, .int a1)] []
  refine z_aload_n B dX3_switchPin_0 rfl 0 rfl ?_
  refine z_iload_n B dX3_switchPin_1 rfl 1 rfl ?_
  obtain ⟨w1, h2, ew1, hf⟩ := zb2s hf
  refine z_callVi B [.int a1] [] cw_X3_hasEntry mv_RX3_58 (tX3_hasEntry hst ew1) rfl (by decide) (kfX3_hasEntry ew1) ⟨rfl, rfl, (Nat.le_of_ble_eq_true rfl), (Nat.le_of_ble_eq_true rfl), (Nat.le_of_ble_eq_true rfl), (Nat.le_of_ble_eq_true rfl)⟩ rfl rfl (Nat.le_of_ble_eq_true rfl) dX3_switchPin_2 ?_
  rcases zite hf with ⟨c3, hf⟩ | ⟨c3, hf⟩
  · refine z_if_eq B 34 dX3_switchPin_5 (by decide) (fun _ => ?_) (fun e => absurd c3 e)
    cases hf
    exact z_vret B dX3_switchPin_34 (Nat.le_of_ble_eq_true rfl) (Nat.le_of_ble_eq_true rfl)
  refine z_if_eq B 34 dX3_switchPin_5 (by decide) (fun e => absurd e c3) (fun _ => ?_)
  refine z_aload_n B dX3_switchPin_8 rfl 0 rfl ?_
  obtain ⟨w4, ew4, hf⟩ := zbs hf
  refine z_gP B fl_RX3_11 ew4 rfl dX3_switchPin_9 ?_
  refine z_iload_n B dX3_switchPin_12 rfl 1 rfl ?_
  obtain ⟨w5, ew5, hf⟩ := zbs hf
  refine z_aP B ew5 dX3_switchPin_13 ?_
  refine z_aload_n B dX3_switchPin_14 rfl 0 rfl ?_
  obtain ⟨w6, ew6, hf⟩ := zbs hf
  refine z_gP B fl_RX3_11 ew6 rfl dX3_switchPin_15 ?_
  refine z_iload_n B dX3_switchPin_18 rfl 1 rfl ?_
  obtain ⟨w7, ew7, hf⟩ := zbs hf
  refine z_aP B ew7 dX3_switchPin_19 ?_
  obtain ⟨w8, ew8, hf⟩ := zbs hf
  refine z_gI B fl_RX3_54 ew8 rfl dX3_switchPin_20 ?_
  rcases zite hf with ⟨c9, hf⟩ | ⟨c9, hf⟩
  · refine z_if_ne B 30 dX3_switchPin_23 (by decide) (fun e => absurd c9 e) (fun _ => ?_)
    refine z_iconst (v := 1) B dX3_switchPin_26 (by decide) ?_
    refine z_goto B 31 dX3_switchPin_27 (by decide) ?_
    obtain ⟨h10, eh10, hf⟩ := zbs hf
    refine z_pZ B fl_RX3_54 eh10 rfl dX3_switchPin_31 ?_
    cases hf
    exact z_vret B dX3_switchPin_34 (Nat.le_of_ble_eq_true rfl) (Nat.le_of_ble_eq_true rfl)
  refine z_if_ne B 30 dX3_switchPin_23 (by decide) (fun _ => ?_) (fun e => absurd e c9)
  refine z_iconst (v := 0) B dX3_switchPin_30 (by decide) ?_
  obtain ⟨h11, eh11, hf⟩ := zbs hf
  refine z_pZ B fl_RX3_54 eh11 rfl dX3_switchPin_31 ?_
  cases hf
  exact z_vret B dX3_switchPin_34 (Nat.le_of_ble_eq_true rfl) (Nat.le_of_ble_eq_true rfl)
abbrev rm_X6_togglePin : Room := { frames := 7, cells := 1, slots := 6, locals := 103 }
set_option maxRecDepth 100000 in
set_option maxHeartbeats 4000000 in
theorem tX6_togglePin {l : Launch} {G : zG} (hst : l.stackTraces = false) {h : zH} {a0 : Nat} {a1 : Int32} {r : (Int32 ⊕ String) × zH} (hf : fX6_togglePin h a0 a1 = some r) : zMet l G yX6_togglePin (.code yX6_togglePin cX6_togglePin 2 (some .int)) rm_X6_togglePin 1 6 [.ref a0, .int a1] h (zoxi r) := by
  unfold fX6_togglePin at hf
  obtain ⟨-, hf⟩ := zck hf
  refine z_enter (by decide) (Nat.le_of_ble_eq_true rfl) hst (fun x hx B hE => ?_)
  subst hx
  have B : zB G x cX6_togglePin 2 RX6 "togglePin" rm_X6_togglePin (some .int) := B
  show zV G x 2 (zQ G x (zoxi r) 1 6) h 0 0 0 [(0, .ref a0), (1, .int a1)] []
  refine z_aload_n B dX6_togglePin_0 rfl 0 rfl ?_
  refine z_iload_n B dX6_togglePin_1 rfl 1 rfl ?_
  rcases zb4s hf with ⟨E2, h1, eh1, rfl⟩ | ⟨h1, eh1, hf⟩
  · exact z_callVX B hE [.int a1] [] cw_X6_requireEntry mv_RX6_156 (tX6_requireEntry hst eh1) rfl (by decide) (kfX6_requireEntry eh1) ⟨rfl, rfl, (Nat.le_of_ble_eq_true rfl), (Nat.le_of_ble_eq_true rfl), (Nat.le_of_ble_eq_true rfl), (Nat.le_of_ble_eq_true rfl)⟩ rfl rfl (Nat.le_of_ble_eq_true rfl) dX6_togglePin_2 (Nat.le_of_ble_eq_true rfl) (Nat.le_of_ble_eq_true rfl)
  refine z_callVv B [.int a1] [] cw_X6_requireEntry mv_RX6_156 (tX6_requireEntry hst eh1) rfl (by decide) (kfX6_requireEntry eh1) ⟨rfl, rfl, (Nat.le_of_ble_eq_true rfl), (Nat.le_of_ble_eq_true rfl), (Nat.le_of_ble_eq_true rfl), (Nat.le_of_ble_eq_true rfl)⟩ rfl rfl (Nat.le_of_ble_eq_true rfl) dX6_togglePin_2 ?_
  refine z_aload_n B dX6_togglePin_5 rfl 0 rfl ?_
  obtain ⟨h3, eh3, hf⟩ := zbs hf
  refine z_callVv B [] [] cw_X6_rememberNow mv_RX6_211 (tX6_rememberNow hst eh3) rfl (by decide) (kfX6_rememberNow eh3) ⟨rfl, rfl, (Nat.le_of_ble_eq_true rfl), (Nat.le_of_ble_eq_true rfl), (Nat.le_of_ble_eq_true rfl), (Nat.le_of_ble_eq_true rfl)⟩ rfl rfl (Nat.le_of_ble_eq_true rfl) dX6_togglePin_6 ?_
  refine z_aload_n B dX6_togglePin_9 rfl 0 rfl ?_
  obtain ⟨w4, ew4, hf⟩ := zbs hf
  refine z_gP B fl_RX6_36 ew4 rfl dX6_togglePin_10 ?_
  refine z_iload_n B dX6_togglePin_13 rfl 1 rfl ?_
  obtain ⟨h5, eh5, hf⟩ := zbs hf
  refine z_callVv B [.int a1] [] cw_X3_switchPin mv_RX6_240 (tX3_switchPin hst eh5) rfl (by decide) (kfX3_switchPin eh5) ⟨rfl, rfl, (Nat.le_of_ble_eq_true rfl), (Nat.le_of_ble_eq_true rfl), (Nat.le_of_ble_eq_true rfl), (Nat.le_of_ble_eq_true rfl)⟩ rfl rfl (Nat.le_of_ble_eq_true rfl) dX6_togglePin_14 ?_
  refine z_aload_n B dX6_togglePin_17 rfl 0 rfl ?_
  obtain ⟨w6, ew6, hf⟩ := zbs hf
  refine z_gP B fl_RX6_36 ew6 rfl dX6_togglePin_18 ?_
  obtain ⟨w7, h8, ew7, hf⟩ := zb2s hf
  refine z_callVi B [] [] cw_X3_pinnedCount mv_RX6_243 (tX3_pinnedCount hst ew7) rfl (by decide) (kfX3_pinnedCount ew7) ⟨rfl, rfl, (Nat.le_of_ble_eq_true rfl), (Nat.le_of_ble_eq_true rfl), (Nat.le_of_ble_eq_true rfl), (Nat.le_of_ble_eq_true rfl)⟩ rfl rfl (Nat.le_of_ble_eq_true rfl) dX6_togglePin_21 ?_
  cases hf
  exact z_iret B dX6_togglePin_24 (Nat.le_of_ble_eq_true rfl) (Nat.le_of_ble_eq_true rfl)
abbrev rm_X6_remove : Room := { frames := 7, cells := 1, slots := 6, locals := 103 }
set_option maxRecDepth 100000 in
set_option maxHeartbeats 4000000 in
theorem tX6_remove {l : Launch} {G : zG} (hst : l.stackTraces = false) {h : zH} {a0 : Nat} {a1 : Int32} {r : (Int32 ⊕ String) × zH} (hf : fX6_remove h a0 a1 = some r) : zMet l G yX6_remove (.code yX6_remove cX6_remove 3 (some .int)) rm_X6_remove 1 6 [.ref a0, .int a1] h (zoxi r) := by
  unfold fX6_remove at hf
  obtain ⟨-, hf⟩ := zck hf
  refine z_enter (by decide) (Nat.le_of_ble_eq_true rfl) hst (fun x hx B hE => ?_)
  subst hx
  have B : zB G x cX6_remove 3 RX6 "remove" rm_X6_remove (some .int) := B
  show zV G x 3 (zQ G x (zoxi r) 1 6) h 0 0 0 [(0, .ref a0), (1, .int a1)] []
  refine z_aload_n B dX6_remove_0 rfl 0 rfl ?_
  refine z_iload_n B dX6_remove_1 rfl 1 rfl ?_
  rcases zb4s hf with ⟨E2, h1, eh1, rfl⟩ | ⟨h1, eh1, hf⟩
  · exact z_callVX B hE [.int a1] [] cw_X6_requireEntry mv_RX6_156 (tX6_requireEntry hst eh1) rfl (by decide) (kfX6_requireEntry eh1) ⟨rfl, rfl, (Nat.le_of_ble_eq_true rfl), (Nat.le_of_ble_eq_true rfl), (Nat.le_of_ble_eq_true rfl), (Nat.le_of_ble_eq_true rfl)⟩ rfl rfl (Nat.le_of_ble_eq_true rfl) dX6_remove_2 (Nat.le_of_ble_eq_true rfl) (Nat.le_of_ble_eq_true rfl)
  refine z_callVv B [.int a1] [] cw_X6_requireEntry mv_RX6_156 (tX6_requireEntry hst eh1) rfl (by decide) (kfX6_requireEntry eh1) ⟨rfl, rfl, (Nat.le_of_ble_eq_true rfl), (Nat.le_of_ble_eq_true rfl), (Nat.le_of_ble_eq_true rfl), (Nat.le_of_ble_eq_true rfl)⟩ rfl rfl (Nat.le_of_ble_eq_true rfl) dX6_remove_2 ?_
  refine z_aload_n B dX6_remove_5 rfl 0 rfl ?_
  obtain ⟨h3, eh3, hf⟩ := zbs hf
  refine z_callVv B [] [] cw_X6_rememberNow mv_RX6_211 (tX6_rememberNow hst eh3) rfl (by decide) (kfX6_rememberNow eh3) ⟨rfl, rfl, (Nat.le_of_ble_eq_true rfl), (Nat.le_of_ble_eq_true rfl), (Nat.le_of_ble_eq_true rfl), (Nat.le_of_ble_eq_true rfl)⟩ rfl rfl (Nat.le_of_ble_eq_true rfl) dX6_remove_6 ?_
  refine z_aload_n B dX6_remove_9 rfl 0 rfl ?_
  obtain ⟨w4, ew4, hf⟩ := zbs hf
  refine z_gP B fl_RX6_36 ew4 rfl dX6_remove_10 ?_
  obtain ⟨w5, ew5, hf⟩ := zbs hf
  refine z_gPR B fr_RX6_159 ew5 rfl dX6_remove_13 ?_
  refine z_iload_n B dX6_remove_16 rfl 1 rfl ?_
  obtain ⟨w6, ew6, hf⟩ := zbs hf
  refine z_aP B ew6 dX6_remove_17 ?_
  obtain ⟨w7, ew7, hf⟩ := zbs hf
  refine z_gI B fl_RX6_163 ew7 rfl dX6_remove_18 ?_
  refine z_istore_n (lv' := [(2, .int w7), (0, .ref a0), (1, .int a1)]) B dX6_remove_21 rfl (by decide) rfl ?_
  refine z_aload_n B dX6_remove_22 rfl 1 rfl ?_
  obtain ⟨w8, ew8, hf⟩ := zbs hf
  refine z_gP B fl_RX6_36 ew8 rfl dX6_remove_23 ?_
  refine z_iload_n B dX6_remove_26 rfl 2 rfl ?_
  obtain ⟨h9, eh9, hf⟩ := zbs hf
  refine z_callVv B [.int a1] [] cw_X3_dropEntry mv_RX6_246 (tX3_dropEntry hst eh9) rfl (by decide) (kfX3_dropEntry eh9) ⟨rfl, rfl, (Nat.le_of_ble_eq_true rfl), (Nat.le_of_ble_eq_true rfl), (Nat.le_of_ble_eq_true rfl), (Nat.le_of_ble_eq_true rfl)⟩ rfl rfl (Nat.le_of_ble_eq_true rfl) dX6_remove_27 ?_
  refine z_iload_n B dX6_remove_30 rfl 0 rfl ?_
  cases hf
  exact z_iret B dX6_remove_31 (Nat.le_of_ble_eq_true rfl) (Nat.le_of_ble_eq_true rfl)
abbrev rm_X6_setBudget : Room := { frames := 6, cells := 1, slots := 6, locals := 91 }
set_option maxRecDepth 100000 in
set_option maxHeartbeats 4000000 in
theorem tX6_setBudget {l : Launch} {G : zG} (hst : l.stackTraces = false) {h : zH} {a0 : Nat} {a1 : Int32} {r : (Int32 ⊕ String) × zH} (hf : fX6_setBudget h a0 a1 = some r) : zMet l G yX6_setBudget (.code yX6_setBudget cX6_setBudget 2 (some .int)) rm_X6_setBudget 1 6 [.ref a0, .int a1] h (zoxi r) := by
  unfold fX6_setBudget at hf
  obtain ⟨-, hf⟩ := zck hf
  refine z_enter (by decide) (Nat.le_of_ble_eq_true rfl) hst (fun x hx B hE => ?_)
  subst hx
  have B : zB G x cX6_setBudget 2 RX6 "setBudget" rm_X6_setBudget (some .int) := B
  show zV G x 2 (zQ G x (zoxi r) 1 6) h 0 0 0 [(0, .ref a0), (1, .int a1)] []
  refine z_iload_n B dX6_setBudget_0 rfl 1 rfl ?_
  refine z_iconst (v := 1) B dX6_setBudget_1 (by decide) ?_
  rcases zite hf with ⟨c1, hf⟩ | ⟨c1, hf⟩
  · refine z_icmp_lt B 11 dX6_setBudget_2 (by decide) (fun _ => ?_) (fun e => absurd c1 e)
    cases hf
    exact z_throw B hE rfl th_RX6_67_71 sl_250 dX6_setBudget_11 dX6_setBudget_14 dX6_setBudget_15 dX6_setBudget_17 dX6_setBudget_20 (Nat.le_of_ble_eq_true rfl) (Nat.le_of_ble_eq_true rfl) (Nat.le_of_ble_eq_true rfl) (Nat.le_of_ble_eq_true rfl) (Nat.le_of_ble_eq_true rfl) (Nat.le_of_ble_eq_true rfl)
  refine z_icmp_lt B 11 dX6_setBudget_2 (by decide) (fun e => absurd e c1) (fun _ => ?_)
  refine z_iload_n B dX6_setBudget_5 rfl 1 rfl ?_
  refine z_ldc B dX6_setBudget_6 kc_RX6_249 ?_
  rcases zite hf with ⟨c2, hf⟩ | ⟨c2, hf⟩
  · refine z_icmp_le B 21 dX6_setBudget_8 (by decide) (fun _ => ?_) (fun e => absurd c2 e)
    refine z_aload_n B dX6_setBudget_21 rfl 0 rfl ?_
    obtain ⟨w3, ew3, hf⟩ := zbs hf
    refine z_gP B fl_RX6_36 ew3 rfl dX6_setBudget_22 ?_
    refine z_iconst (v := (-1)) B dX6_setBudget_25 (by decide) ?_
    refine z_iconst (v := 0) B dX6_setBudget_26 (by decide) ?_
    obtain ⟨w4, h5, ew4, hf⟩ := zb2s hf
    refine z_callVi B [.int (-1), .int 0] [] cw_X3_leastSize mv_RX6_252 (tX3_leastSize hst ew4) rfl (by decide) (kfX3_leastSize ew4) ⟨rfl, rfl, (Nat.le_of_ble_eq_true rfl), (Nat.le_of_ble_eq_true rfl), (Nat.le_of_ble_eq_true rfl), (Nat.le_of_ble_eq_true rfl)⟩ rfl rfl (Nat.le_of_ble_eq_true rfl) dX6_setBudget_27 ?_
    refine z_iload_n B dX6_setBudget_30 rfl 1 rfl ?_
    rcases zite hf with ⟨c6, hf⟩ | ⟨c6, hf⟩
    · refine z_icmp_le B 45 dX6_setBudget_31 (by decide) (fun _ => ?_) (fun e => absurd c6 e)
      refine z_aload_n B dX6_setBudget_45 rfl 0 rfl ?_
      obtain ⟨h7, eh7, hf⟩ := zbs hf
      refine z_callVv B [] [] cw_X6_rememberNow mv_RX6_211 (tX6_rememberNow hst eh7) rfl (by decide) (kfX6_rememberNow eh7) ⟨rfl, rfl, (Nat.le_of_ble_eq_true rfl), (Nat.le_of_ble_eq_true rfl), (Nat.le_of_ble_eq_true rfl), (Nat.le_of_ble_eq_true rfl)⟩ rfl rfl (Nat.le_of_ble_eq_true rfl) dX6_setBudget_46 ?_
      refine z_aload_n B dX6_setBudget_49 rfl 0 rfl ?_
      obtain ⟨w8, ew8, hf⟩ := zbs hf
      refine z_gP B fl_RX6_36 ew8 rfl dX6_setBudget_50 ?_
      refine z_iload_n B dX6_setBudget_53 rfl 1 rfl ?_
      obtain ⟨h9, eh9, hf⟩ := zbs hf
      refine z_pI B fl_RX6_109 eh9 rfl dX6_setBudget_54 ?_
      refine z_aload_n B dX6_setBudget_57 rfl 0 rfl ?_
      obtain ⟨w10, ew10, hf⟩ := zbs hf
      refine z_gP B fl_RX6_36 ew10 rfl dX6_setBudget_58 ?_
      refine z_iconst (v := 0) B dX6_setBudget_61 (by decide) ?_
      refine z_iconst (v := (-1)) B dX6_setBudget_62 (by decide) ?_
      obtain ⟨h11, eh11, hf⟩ := zbs hf
      refine z_callVv B [.int 0, .int (-1)] [] cw_X3_makeRoom mv_RX6_258 (tX3_makeRoom hst eh11) rfl (by decide) (kfX3_makeRoom eh11) ⟨rfl, rfl, (Nat.le_of_ble_eq_true rfl), (Nat.le_of_ble_eq_true rfl), (Nat.le_of_ble_eq_true rfl), (Nat.le_of_ble_eq_true rfl)⟩ rfl rfl (Nat.le_of_ble_eq_true rfl) dX6_setBudget_63 ?_
      refine z_aload_n B dX6_setBudget_66 rfl 0 rfl ?_
      obtain ⟨w12, ew12, hf⟩ := zbs hf
      refine z_gP B fl_RX6_36 ew12 rfl dX6_setBudget_67 ?_
      obtain ⟨w13, h14, ew13, hf⟩ := zb2s hf
      refine z_callVi B [] [] cw_X3_usedSize mv_RX6_112 (tX3_usedSize hst ew13) rfl (by decide) (kfX3_usedSize ew13) ⟨rfl, rfl, (Nat.le_of_ble_eq_true rfl), (Nat.le_of_ble_eq_true rfl), (Nat.le_of_ble_eq_true rfl), (Nat.le_of_ble_eq_true rfl)⟩ rfl rfl (Nat.le_of_ble_eq_true rfl) dX6_setBudget_70 ?_
      cases hf
      exact z_iret B dX6_setBudget_73 (Nat.le_of_ble_eq_true rfl) (Nat.le_of_ble_eq_true rfl)
    refine z_icmp_le B 45 dX6_setBudget_31 (by decide) (fun e => absurd e c6) (fun _ => ?_)
    cases hf
    exact z_throwW B hE rfl th_RX6_78_82 sl_256 dX6_setBudget_34 dX6_setBudget_37 dX6_setBudget_38 dX6_setBudget_41 dX6_setBudget_44 (Nat.le_of_ble_eq_true rfl) (Nat.le_of_ble_eq_true rfl) (Nat.le_of_ble_eq_true rfl) (Nat.le_of_ble_eq_true rfl) (Nat.le_of_ble_eq_true rfl) (Nat.le_of_ble_eq_true rfl)
  refine z_icmp_le B 21 dX6_setBudget_8 (by decide) (fun e => absurd e c2) (fun _ => ?_)
  cases hf
  exact z_throw B hE rfl th_RX6_67_71 sl_250 dX6_setBudget_11 dX6_setBudget_14 dX6_setBudget_15 dX6_setBudget_17 dX6_setBudget_20 (Nat.le_of_ble_eq_true rfl) (Nat.le_of_ble_eq_true rfl) (Nat.le_of_ble_eq_true rfl) (Nat.le_of_ble_eq_true rfl) (Nat.le_of_ble_eq_true rfl) (Nat.le_of_ble_eq_true rfl)
abbrev rm_X6_setCost : Room := { frames := 7, cells := 2, slots := 12, locals := 103 }
set_option maxRecDepth 100000 in
set_option maxHeartbeats 4000000 in
theorem tX6_setCost {l : Launch} {G : zG} (hst : l.stackTraces = false) {h : zH} {a0 : Nat} {a1 : Int32} {a2 : Int32} {r : (Int32 ⊕ String) × zH} (hf : fX6_setCost h a0 a1 a2 = some r) : zMet l G yX6_setCost (.code yX6_setCost cX6_setCost 4 (some .int)) rm_X6_setCost 2 12 [.ref a0, .int a1, .int a2] h (zoxi r) := by
  unfold fX6_setCost at hf
  obtain ⟨-, hf⟩ := zck hf
  refine z_enter (by decide) (Nat.le_of_ble_eq_true rfl) hst (fun x hx B hE => ?_)
  subst hx
  have B : zB G x cX6_setCost 4 RX6 "setCost" rm_X6_setCost (some .int) := B
  show zV G x 4 (zQ G x (zoxi r) 2 12) h 0 0 0 [(0, .ref a0), (1, .int a1), (2, .int a2)] []
  refine z_aload_n B dX6_setCost_0 rfl 0 rfl ?_
  refine z_iload_n B dX6_setCost_1 rfl 1 rfl ?_
  rcases zb4s hf with ⟨E2, h1, eh1, rfl⟩ | ⟨h1, eh1, hf⟩
  · exact z_callVX B hE [.int a1] [] cw_X6_requireConversion mv_RX6_124 (tX6_requireConversion hst eh1) rfl (by decide) (kfX6_requireConversion eh1) ⟨rfl, rfl, (Nat.le_of_ble_eq_true rfl), (Nat.le_of_ble_eq_true rfl), (Nat.le_of_ble_eq_true rfl), (Nat.le_of_ble_eq_true rfl)⟩ rfl rfl (Nat.le_of_ble_eq_true rfl) dX6_setCost_2 (Nat.le_of_ble_eq_true rfl) (Nat.le_of_ble_eq_true rfl)
  refine z_callVv B [.int a1] [] cw_X6_requireConversion mv_RX6_124 (tX6_requireConversion hst eh1) rfl (by decide) (kfX6_requireConversion eh1) ⟨rfl, rfl, (Nat.le_of_ble_eq_true rfl), (Nat.le_of_ble_eq_true rfl), (Nat.le_of_ble_eq_true rfl), (Nat.le_of_ble_eq_true rfl)⟩ rfl rfl (Nat.le_of_ble_eq_true rfl) dX6_setCost_2 ?_
  refine z_iload_n B dX6_setCost_5 rfl 2 rfl ?_
  refine z_iconst (v := 1) B dX6_setCost_6 (by decide) ?_
  rcases zite hf with ⟨c3, hf⟩ | ⟨c3, hf⟩
  · refine z_icmp_lt B 16 dX6_setCost_7 (by decide) (fun _ => ?_) (fun e => absurd c3 e)
    cases hf
    exact z_throwW B hE rfl th_RX6_67_71 sl_261 dX6_setCost_16 dX6_setCost_19 dX6_setCost_20 dX6_setCost_23 dX6_setCost_26 (Nat.le_of_ble_eq_true rfl) (Nat.le_of_ble_eq_true rfl) (Nat.le_of_ble_eq_true rfl) (Nat.le_of_ble_eq_true rfl) (Nat.le_of_ble_eq_true rfl) (Nat.le_of_ble_eq_true rfl)
  refine z_icmp_lt B 16 dX6_setCost_7 (by decide) (fun e => absurd e c3) (fun _ => ?_)
  refine z_iload_n B dX6_setCost_10 rfl 2 rfl ?_
  refine z_bipush (v := 99) B dX6_setCost_11 (by decide) ?_
  rcases zite hf with ⟨c4, hf⟩ | ⟨c4, hf⟩
  · refine z_icmp_le B 27 dX6_setCost_13 (by decide) (fun _ => ?_) (fun e => absurd c4 e)
    refine z_aload_n B dX6_setCost_27 rfl 0 rfl ?_
    obtain ⟨h5, eh5, hf⟩ := zbs hf
    refine z_callVv B [] [] cw_X6_rememberNow mv_RX6_211 (tX6_rememberNow hst eh5) rfl (by decide) (kfX6_rememberNow eh5) ⟨rfl, rfl, (Nat.le_of_ble_eq_true rfl), (Nat.le_of_ble_eq_true rfl), (Nat.le_of_ble_eq_true rfl), (Nat.le_of_ble_eq_true rfl)⟩ rfl rfl (Nat.le_of_ble_eq_true rfl) dX6_setCost_28 ?_
    refine z_aload_n B dX6_setCost_31 rfl 0 rfl ?_
    obtain ⟨w6, ew6, hf⟩ := zbs hf
    refine z_gP B fl_RX6_36 ew6 rfl dX6_setCost_32 ?_
    obtain ⟨w7, ew7, hf⟩ := zbs hf
    refine z_gPR B fr_RX6_134 ew7 rfl dX6_setCost_35 ?_
    refine z_iload_n B dX6_setCost_38 rfl 1 rfl ?_
    obtain ⟨w8, ew8, hf⟩ := zbs hf
    refine z_aI B ew8 dX6_setCost_39 ?_
    refine z_istore_n (lv' := [(3, .int w8), (0, .ref a0), (1, .int a1), (2, .int a2)]) B dX6_setCost_40 rfl (by decide) rfl ?_
    refine z_aload_n B dX6_setCost_41 rfl 1 rfl ?_
    obtain ⟨w9, ew9, hf⟩ := zbs hf
    refine z_gP B fl_RX6_36 ew9 rfl dX6_setCost_42 ?_
    obtain ⟨w10, ew10, hf⟩ := zbs hf
    refine z_gPR B fr_RX6_134 ew10 rfl dX6_setCost_45 ?_
    refine z_iload_n B dX6_setCost_48 rfl 2 rfl ?_
    refine z_iload_n B dX6_setCost_49 rfl 3 rfl ?_
    obtain ⟨h11, eh11, hf⟩ := zbs hf
    refine z_bI B eh11 dX6_setCost_50 ?_
    refine z_aload_n B dX6_setCost_51 rfl 1 rfl ?_
    obtain ⟨h12, eh12, hf⟩ := zbs hf
    refine z_callVv B [] [] cw_X6_findPaths mv_RX6_263 (tX6_findPaths hst eh12) rfl (by decide) (kfX6_findPaths eh12) ⟨rfl, rfl, (Nat.le_of_ble_eq_true rfl), (Nat.le_of_ble_eq_true rfl), (Nat.le_of_ble_eq_true rfl), (Nat.le_of_ble_eq_true rfl)⟩ rfl rfl (Nat.le_of_ble_eq_true rfl) dX6_setCost_52 ?_
    refine z_iload_n B dX6_setCost_55 rfl 0 rfl ?_
    cases hf
    exact z_iret B dX6_setCost_56 (Nat.le_of_ble_eq_true rfl) (Nat.le_of_ble_eq_true rfl)
  refine z_icmp_le B 27 dX6_setCost_13 (by decide) (fun e => absurd e c4) (fun _ => ?_)
  cases hf
  exact z_throwW B hE rfl th_RX6_67_71 sl_261 dX6_setCost_16 dX6_setCost_19 dX6_setCost_20 dX6_setCost_23 dX6_setCost_26 (Nat.le_of_ble_eq_true rfl) (Nat.le_of_ble_eq_true rfl) (Nat.le_of_ble_eq_true rfl) (Nat.le_of_ble_eq_true rfl) (Nat.le_of_ble_eq_true rfl) (Nat.le_of_ble_eq_true rfl)
abbrev rm_X6_undo : Room := { frames := 6, cells := 1, slots := 6, locals := 91 }
set_option maxRecDepth 100000 in
set_option maxHeartbeats 4000000 in
theorem tX6_undo {l : Launch} {G : zG} (hst : l.stackTraces = false) {h : zH} {a0 : Nat} {r : (Int32 ⊕ String) × zH} (hf : fX6_undo h a0 = some r) : zMet l G yX6_undo (.code yX6_undo cX6_undo 1 (some .int)) rm_X6_undo 1 6 [.ref a0] h (zoxi r) := by
  unfold fX6_undo at hf
  obtain ⟨-, hf⟩ := zck hf
  refine z_enter (by decide) (Nat.le_of_ble_eq_true rfl) hst (fun x hx B hE => ?_)
  subst hx
  have B : zB G x cX6_undo 1 RX6 "undo" rm_X6_undo (some .int) := B
  show zV G x 1 (zQ G x (zoxi r) 1 6) h 0 0 0 [(0, .ref a0)] []
  refine z_aload_n B dX6_undo_0 rfl 0 rfl ?_
  obtain ⟨w1, ew1, hf⟩ := zbs hf
  refine z_gI B fl_RX6_266 ew1 rfl dX6_undo_1 ?_
  refine z_iconst (v := 1) B dX6_undo_4 (by decide) ?_
  rcases zite hf with ⟨c2, hf⟩ | ⟨c2, hf⟩
  · refine z_icmp_lt B 20 dX6_undo_5 (by decide) (fun _ => ?_) (fun e => absurd c2 e)
    cases hf
    exact z_throwW B hE rfl th_RX6_78_82 sl_269 dX6_undo_20 dX6_undo_23 dX6_undo_24 dX6_undo_27 dX6_undo_30 (Nat.le_of_ble_eq_true rfl) (Nat.le_of_ble_eq_true rfl) (Nat.le_of_ble_eq_true rfl) (Nat.le_of_ble_eq_true rfl) (Nat.le_of_ble_eq_true rfl) (Nat.le_of_ble_eq_true rfl)
  refine z_icmp_lt B 20 dX6_undo_5 (by decide) (fun e => absurd e c2) (fun _ => ?_)
  refine z_aload_n B dX6_undo_8 rfl 0 rfl ?_
  obtain ⟨w3, ew3, hf⟩ := zbs hf
  refine z_gI B fl_RX6_266 ew3 rfl dX6_undo_9 ?_
  refine z_aload_n B dX6_undo_12 rfl 0 rfl ?_
  obtain ⟨w4, ew4, hf⟩ := zbs hf
  refine z_gP B fl_RX6_43 ew4 rfl dX6_undo_13 ?_
  obtain ⟨w5, ew5, hf⟩ := zbs hf
  refine z_len B ew5 dX6_undo_16 ?_
  rcases zite hf with ⟨c6, hf⟩ | ⟨c6, hf⟩
  · refine z_icmp_le B 31 dX6_undo_17 (by decide) (fun _ => ?_) (fun e => absurd c6 e)
    refine z_aload_n B dX6_undo_31 rfl 0 rfl ?_
    refine z_dup B dX6_undo_32 rfl ?_
    obtain ⟨w7, ew7, hf⟩ := zbs hf
    refine z_gI B fl_RX6_266 ew7 rfl dX6_undo_33 ?_
    refine z_iconst (v := 1) B dX6_undo_36 (by decide) ?_
    refine z_isub B dX6_undo_37 ?_
    obtain ⟨h8, eh8, hf⟩ := zbs hf
    refine z_pI B fl_RX6_266 eh8 rfl dX6_undo_38 ?_
    refine z_aload_n B dX6_undo_41 rfl 0 rfl ?_
    obtain ⟨w9, ew9, hf⟩ := zbs hf
    refine z_gP B fl_RX6_36 ew9 rfl dX6_undo_42 ?_
    refine z_aload_n B dX6_undo_45 rfl 0 rfl ?_
    obtain ⟨w10, ew10, hf⟩ := zbs hf
    refine z_gP B fl_RX6_43 ew10 rfl dX6_undo_46 ?_
    refine z_aload_n B dX6_undo_49 rfl 0 rfl ?_
    obtain ⟨w11, ew11, hf⟩ := zbs hf
    refine z_gI B fl_RX6_266 ew11 rfl dX6_undo_50 ?_
    obtain ⟨w12, ew12, hf⟩ := zbs hf
    refine z_aP B ew12 dX6_undo_53 ?_
    obtain ⟨h13, eh13, hf⟩ := zbs hf
    refine z_callVv B [.ref w12] [] cw_X3_takeOver mv_RX6_271 (tX3_takeOver hst eh13) rfl (by decide) (kfX3_takeOver eh13) ⟨rfl, rfl, (Nat.le_of_ble_eq_true rfl), (Nat.le_of_ble_eq_true rfl), (Nat.le_of_ble_eq_true rfl), (Nat.le_of_ble_eq_true rfl)⟩ rfl rfl (Nat.le_of_ble_eq_true rfl) dX6_undo_54 ?_
    refine z_aload_n B dX6_undo_57 rfl 0 rfl ?_
    obtain ⟨h14, eh14, hf⟩ := zbs hf
    refine z_callVv B [] [] cw_X6_findPaths mv_RX6_263 (tX6_findPaths hst eh14) rfl (by decide) (kfX6_findPaths eh14) ⟨rfl, rfl, (Nat.le_of_ble_eq_true rfl), (Nat.le_of_ble_eq_true rfl), (Nat.le_of_ble_eq_true rfl), (Nat.le_of_ble_eq_true rfl)⟩ rfl rfl (Nat.le_of_ble_eq_true rfl) dX6_undo_58 ?_
    refine z_aload_n B dX6_undo_61 rfl 0 rfl ?_
    obtain ⟨w15, ew15, hf⟩ := zbs hf
    refine z_gI B fl_RX6_266 ew15 rfl dX6_undo_62 ?_
    cases hf
    exact z_iret B dX6_undo_65 (Nat.le_of_ble_eq_true rfl) (Nat.le_of_ble_eq_true rfl)
  refine z_icmp_le B 31 dX6_undo_17 (by decide) (fun e => absurd e c6) (fun _ => ?_)
  cases hf
  exact z_throwW B hE rfl th_RX6_78_82 sl_269 dX6_undo_20 dX6_undo_23 dX6_undo_24 dX6_undo_27 dX6_undo_30 (Nat.le_of_ble_eq_true rfl) (Nat.le_of_ble_eq_true rfl) (Nat.le_of_ble_eq_true rfl) (Nat.le_of_ble_eq_true rfl) (Nat.le_of_ble_eq_true rfl) (Nat.le_of_ble_eq_true rfl)
abbrev rm_X2_stepsOf : Room := { frames := 1, cells := 0, slots := 0, locals := 22 }
set_option maxRecDepth 100000 in
set_option maxHeartbeats 4000000 in
theorem tX2_stepsOf {l : Launch} {G : zG} (hst : l.stackTraces = false) {h : zH} {a0 : Nat} {a1 : Int32} {a2 : Int32} {r : Int32 × zH} (hf : fX2_stepsOf h a0 a1 a2 = some r) : zMet l G yX2_stepsOf (.code yX2_stepsOf cX2_stepsOf 3 (some .int)) rm_X2_stepsOf 0 0 [.ref a0, .int a1, .int a2] h (zoi r) := by
  unfold fX2_stepsOf at hf
  obtain ⟨-, hf⟩ := zck hf
  refine z_enter (by decide) (Nat.le_of_ble_eq_true rfl) hst (fun x hx B hE => ?_)
  subst hx
  have B : zB G x cX2_stepsOf 3 RX2 "stepsOf" rm_X2_stepsOf (some .int) := B
  show zV G x 3 (zQ G x (zoi r) 0 0) h 0 0 0 [(0, .ref a0), (1, .int a1), (2, .int a2)] []
  refine z_aload_n B dX2_stepsOf_0 rfl 0 rfl ?_
  refine z_iload_n B dX2_stepsOf_1 rfl 1 rfl ?_
  refine z_iload_n B dX2_stepsOf_2 rfl 2 rfl ?_
  obtain ⟨w1, h2, ew1, hf⟩ := zb2s hf
  refine z_callVi B [.int a1, .int a2] [] cw_X2_connects mv_RX2_55 (tX2_connects hst ew1) rfl (by decide) (kfX2_connects ew1) ⟨rfl, rfl, (Nat.le_of_ble_eq_true rfl), (Nat.le_of_ble_eq_true rfl), (Nat.le_of_ble_eq_true rfl), (Nat.le_of_ble_eq_true rfl)⟩ rfl rfl (Nat.le_of_ble_eq_true rfl) dX2_stepsOf_3 ?_
  rcases zite hf with ⟨c3, hf⟩ | ⟨c3, hf⟩
  · refine z_if_eq B 23 dX2_stepsOf_6 (by decide) (fun _ => ?_) (fun e => absurd c3 e)
    refine z_bipush (v := (-9)) B dX2_stepsOf_23 (by decide) ?_
    cases hf
    exact z_iret B dX2_stepsOf_25 (Nat.le_of_ble_eq_true rfl) (Nat.le_of_ble_eq_true rfl)
  refine z_if_eq B 23 dX2_stepsOf_6 (by decide) (fun e => absurd e c3) (fun _ => ?_)
  refine z_aload_n B dX2_stepsOf_9 rfl 0 rfl ?_
  obtain ⟨w4, ew4, hf⟩ := zbs hf
  refine z_gP B fl_RX2_19 ew4 rfl dX2_stepsOf_10 ?_
  refine z_iload_n B dX2_stepsOf_13 rfl 1 rfl ?_
  obtain ⟨w5, ew5, hf⟩ := zbs hf
  refine z_aP B ew5 dX2_stepsOf_14 ?_
  refine z_iload_n B dX2_stepsOf_15 rfl 2 rfl ?_
  obtain ⟨w6, ew6, hf⟩ := zbs hf
  refine z_aI B ew6 dX2_stepsOf_16 ?_
  refine z_bipush (v := 8) B dX2_stepsOf_17 (by decide) ?_
  refine z_irem B dX2_stepsOf_19 (by decide) ?_
  refine z_goto B 25 dX2_stepsOf_20 (by decide) ?_
  cases hf
  exact z_iret B dX2_stepsOf_25 (Nat.le_of_ble_eq_true rfl) (Nat.le_of_ble_eq_true rfl)
abbrev rm_X6_path : Room := { frames := 7, cells := 3, slots := 18, locals := 103 }
set_option maxRecDepth 100000 in
set_option maxHeartbeats 4000000 in
theorem tX6_path {l : Launch} {G : zG} (hst : l.stackTraces = false) {h : zH} {a0 : Nat} {a1 : Int32} {a2 : Int32} {a3 : Int32} {r : (Int32 ⊕ String) × zH} (hf : fX6_path h a0 a1 a2 a3 = some r) : zMet l G yX6_path (.code yX6_path cX6_path 4 (some .int)) rm_X6_path 3 18 [.ref a0, .int a1, .int a2, .int a3] h (zoxi r) := by
  unfold fX6_path at hf
  obtain ⟨-, hf⟩ := zck hf
  refine z_enter (by decide) (Nat.le_of_ble_eq_true rfl) hst (fun x hx B hE => ?_)
  subst hx
  have B : zB G x cX6_path 4 RX6 "path" rm_X6_path (some .int) := B
  show zV G x 4 (zQ G x (zoxi r) 3 18) h 0 0 0 [(0, .ref a0), (1, .int a1), (2, .int a2), (3, .int a3)] []
  refine z_aload_n B dX6_path_0 rfl 0 rfl ?_
  refine z_iload_n B dX6_path_1 rfl 1 rfl ?_
  rcases zb4s hf with ⟨E2, h1, eh1, rfl⟩ | ⟨h1, eh1, hf⟩
  · exact z_callVX B hE [.int a1] [] cw_X6_requireFormat mv_RX6_190 (tX6_requireFormat hst eh1) rfl (by decide) (kfX6_requireFormat eh1) ⟨rfl, rfl, (Nat.le_of_ble_eq_true rfl), (Nat.le_of_ble_eq_true rfl), (Nat.le_of_ble_eq_true rfl), (Nat.le_of_ble_eq_true rfl)⟩ rfl rfl (Nat.le_of_ble_eq_true rfl) dX6_path_2 (Nat.le_of_ble_eq_true rfl) (Nat.le_of_ble_eq_true rfl)
  refine z_callVv B [.int a1] [] cw_X6_requireFormat mv_RX6_190 (tX6_requireFormat hst eh1) rfl (by decide) (kfX6_requireFormat eh1) ⟨rfl, rfl, (Nat.le_of_ble_eq_true rfl), (Nat.le_of_ble_eq_true rfl), (Nat.le_of_ble_eq_true rfl), (Nat.le_of_ble_eq_true rfl)⟩ rfl rfl (Nat.le_of_ble_eq_true rfl) dX6_path_2 ?_
  refine z_aload_n B dX6_path_5 rfl 0 rfl ?_
  refine z_iload_n B dX6_path_6 rfl 2 rfl ?_
  rcases zb4s hf with ⟨E4, h3, eh3, rfl⟩ | ⟨h3, eh3, hf⟩
  · exact z_callVX B hE [.int a2] [] cw_X6_requireFormat mv_RX6_190 (tX6_requireFormat hst eh3) rfl (by decide) (kfX6_requireFormat eh3) ⟨rfl, rfl, (Nat.le_of_ble_eq_true rfl), (Nat.le_of_ble_eq_true rfl), (Nat.le_of_ble_eq_true rfl), (Nat.le_of_ble_eq_true rfl)⟩ rfl rfl (Nat.le_of_ble_eq_true rfl) dX6_path_7 (Nat.le_of_ble_eq_true rfl) (Nat.le_of_ble_eq_true rfl)
  refine z_callVv B [.int a2] [] cw_X6_requireFormat mv_RX6_190 (tX6_requireFormat hst eh3) rfl (by decide) (kfX6_requireFormat eh3) ⟨rfl, rfl, (Nat.le_of_ble_eq_true rfl), (Nat.le_of_ble_eq_true rfl), (Nat.le_of_ble_eq_true rfl), (Nat.le_of_ble_eq_true rfl)⟩ rfl rfl (Nat.le_of_ble_eq_true rfl) dX6_path_7 ?_
  refine z_iload_n B dX6_path_10 rfl 3 rfl ?_
  rcases zite hf with ⟨c5, hf⟩ | ⟨c5, hf⟩
  · refine z_tabIn B 0 36 dX6_path_11 c5 (by decide) (by decide) rfl (by decide) ?_
    refine z_aload_n B dX6_path_36 rfl 0 rfl ?_
    obtain ⟨w6, ew6, hf⟩ := zbs hf
    refine z_gP B fl_RX6_19 ew6 rfl dX6_path_37 ?_
    refine z_iload_n B dX6_path_40 rfl 1 rfl ?_
    refine z_iload_n B dX6_path_41 rfl 2 rfl ?_
    obtain ⟨w7, h8, ew7, hf⟩ := zb2s hf
    refine z_callVi B [.int a1, .int a2] [] cw_X2_costOf mv_RX6_275 (tX2_costOf hst ew7) rfl (by decide) (kfX2_costOf ew7) ⟨rfl, rfl, (Nat.le_of_ble_eq_true rfl), (Nat.le_of_ble_eq_true rfl), (Nat.le_of_ble_eq_true rfl), (Nat.le_of_ble_eq_true rfl)⟩ rfl rfl (Nat.le_of_ble_eq_true rfl) dX6_path_42 ?_
    cases hf
    exact z_iret B dX6_path_45 (Nat.le_of_ble_eq_true rfl) (Nat.le_of_ble_eq_true rfl)
  rcases zite hf with ⟨c9, hf⟩ | ⟨c9, hf⟩
  · refine z_tabIn B 1 46 dX6_path_11 c9 (by decide) (by decide) rfl (by decide) ?_
    refine z_aload_n B dX6_path_46 rfl 0 rfl ?_
    obtain ⟨w10, ew10, hf⟩ := zbs hf
    refine z_gP B fl_RX6_19 ew10 rfl dX6_path_47 ?_
    refine z_iload_n B dX6_path_50 rfl 1 rfl ?_
    refine z_iload_n B dX6_path_51 rfl 2 rfl ?_
    obtain ⟨w11, h12, ew11, hf⟩ := zb2s hf
    refine z_callVi B [.int a1, .int a2] [] cw_X2_stepsOf mv_RX6_279 (tX2_stepsOf hst ew11) rfl (by decide) (kfX2_stepsOf ew11) ⟨rfl, rfl, (Nat.le_of_ble_eq_true rfl), (Nat.le_of_ble_eq_true rfl), (Nat.le_of_ble_eq_true rfl), (Nat.le_of_ble_eq_true rfl)⟩ rfl rfl (Nat.le_of_ble_eq_true rfl) dX6_path_52 ?_
    cases hf
    exact z_iret B dX6_path_55 (Nat.le_of_ble_eq_true rfl) (Nat.le_of_ble_eq_true rfl)
  rcases zite hf with ⟨c13, hf⟩ | ⟨c13, hf⟩
  · refine z_tabIn B 2 56 dX6_path_11 c13 (by decide) (by decide) rfl (by decide) ?_
    refine z_aload_n B dX6_path_56 rfl 0 rfl ?_
    obtain ⟨w14, ew14, hf⟩ := zbs hf
    refine z_gP B fl_RX6_19 ew14 rfl dX6_path_57 ?_
    refine z_iload_n B dX6_path_60 rfl 1 rfl ?_
    refine z_iload_n B dX6_path_61 rfl 2 rfl ?_
    refine z_aload_n B dX6_path_62 rfl 0 rfl ?_
    obtain ⟨w15, ew15, hf⟩ := zbs hf
    refine z_gP B fl_RX6_57 ew15 rfl dX6_path_63 ?_
    obtain ⟨w16, h17, ew16, hf⟩ := zb2s hf
    refine z_callVi B [.int a1, .int a2, .ref w15] [] cw_X2_lossOf mv_RX6_282 (tX2_lossOf hst ew16) rfl (by decide) (kfX2_lossOf ew16) ⟨rfl, rfl, (Nat.le_of_ble_eq_true rfl), (Nat.le_of_ble_eq_true rfl), (Nat.le_of_ble_eq_true rfl), (Nat.le_of_ble_eq_true rfl)⟩ rfl rfl (Nat.le_of_ble_eq_true rfl) dX6_path_66 ?_
    cases hf
    exact z_iret B dX6_path_69 (Nat.le_of_ble_eq_true rfl) (Nat.le_of_ble_eq_true rfl)
  refine z_tabOut B 70 dX6_path_11 (z_outL 0 3 (by decide) (fun j hj0 hj => by rcases (show j = 0 ∨ j = 1 ∨ j = 2 by omega) with rfl | rfl | rfl <;> assumption)) (by decide) ?_
  cases hf
  exact z_throwW B hE rfl th_RX6_67_71 sl_286 dX6_path_70 dX6_path_73 dX6_path_74 dX6_path_77 dX6_path_80 (Nat.le_of_ble_eq_true rfl) (Nat.le_of_ble_eq_true rfl) (Nat.le_of_ble_eq_true rfl) (Nat.le_of_ble_eq_true rfl) (Nat.le_of_ble_eq_true rfl) (Nat.le_of_ble_eq_true rfl)
abbrev rm_X2_formatAt : Room := { frames := 1, cells := 0, slots := 0, locals := 22 }
set_option maxRecDepth 100000 in
set_option maxHeartbeats 4000000 in
theorem fX2_formatAt_L18_ok {G : zG} {x : zX} (B : zB G x cX2_formatAt 8 RX2 "formatAt" rm_X2_formatAt (some .int)) (hst : (zl x).stackTraces = false) (hE : ∀ e ∈ (zc x).exceptionTable.toList, False) {r : Int32 × zH} {k : zH → Int32 → Int32 → Option (Int32 × zH)} {u0 : Nat} {u1 : Int32} {u2 : Int32} {u3 : Int32} {u4 : Nat} (hk : ∀ h v5 v6, k h v5 v6 = some r → zV G x 8 (zQ G x (zoi r) 0 0) h 0 0 67 [(0, .ref u0), (1, .int u1), (2, .int u2), (3, .int u3), (4, .ref u4), (5, .int v5), (6, .int v6)] []) : ∀ n h v5 v6, fX2_formatAt_L18 k u0 u1 u2 u3 u4 n h v5 v6 = some r → zV G x 8 (zQ G x (zoi r) 0 0) h 0 0 18 [(0, .ref u0), (1, .int u1), (2, .int u2), (3, .int u3), (4, .ref u4), (5, .int v5), (6, .int v6)] [] := by
  intro n
  induction n with
  | zero =>
    intro h v5 v6 hf
    have hf : (none : Option (Int32 × zH)) = some r := hf
    cases hf
  | succ n ih =>
    intro h v5 v6 hf
    rw [fX2_formatAt_L18] at hf
    refine z_iload B dX2_formatAt_18 6 rfl ?_
    refine z_bipush (v := 8) B dX2_formatAt_20 (by decide) ?_
    rcases zite hf with ⟨c1, hf⟩ | ⟨c1, hf⟩
    · refine z_icmp_ge B 67 dX2_formatAt_22 (by decide) (fun _ => ?_) (fun e => absurd c1 e)
      exact hk _ _ _ hf
    refine z_icmp_ge B 67 dX2_formatAt_22 (by decide) (fun e => absurd e c1) (fun _ => ?_)
    refine z_iload B dX2_formatAt_25 6 rfl ?_
    refine z_iload_n B dX2_formatAt_27 rfl 3 rfl ?_
    rcases zite hf with ⟨c2, hf⟩ | ⟨c2, hf⟩
    · refine z_icmp_ge B 67 dX2_formatAt_28 (by decide) (fun _ => ?_) (fun e => absurd c2 e)
      exact hk _ _ _ hf
    refine z_icmp_ge B 67 dX2_formatAt_28 (by decide) (fun e => absurd e c2) (fun _ => ?_)
    refine z_aload_n B dX2_formatAt_31 rfl 0 rfl ?_
    obtain ⟨w3, ew3, hf⟩ := zbs hf
    refine z_gP B fl_RX2_22 ew3 rfl dX2_formatAt_32 ?_
    refine z_iload B dX2_formatAt_35 5 rfl ?_
    obtain ⟨w4, ew4, hf⟩ := zbs hf
    refine z_aP B ew4 dX2_formatAt_37 ?_
    refine z_iload_n B dX2_formatAt_38 rfl 2 rfl ?_
    obtain ⟨w5, ew5, hf⟩ := zbs hf
    refine z_aI B ew5 dX2_formatAt_39 ?_
    refine z_istore (lv' := [(7, .int w5), (0, .ref u0), (1, .int u1), (2, .int u2), (3, .int u3), (4, .ref u4), (5, .int v5), (6, .int v6)]) B dX2_formatAt_40 (by decide) rfl ?_
    refine z_iload B dX2_formatAt_42 0 rfl ?_
    refine z_iconst (v := (-1)) B dX2_formatAt_44 (by decide) ?_
    rcases zite hf with ⟨c6, hf⟩ | ⟨c6, hf⟩
    · refine z_icmp_ne B 51 dX2_formatAt_45 (by decide) (fun e => absurd c6 e) (fun _ => ?_)
      refine z_bipush (v := (-9)) B dX2_formatAt_48 (by decide) ?_
      cases hf
      exact z_iret B dX2_formatAt_50 (Nat.le_of_ble_eq_true rfl) (Nat.le_of_ble_eq_true rfl)
    refine z_icmp_ne B 51 dX2_formatAt_45 (by decide) (fun _ => ?_) (fun e => absurd e c6)
    refine z_aload B dX2_formatAt_51 5 rfl ?_
    obtain ⟨w7, ew7, hf⟩ := zbs hf
    refine z_gPR B fr_RX2_38 ew7 rfl dX2_formatAt_53 ?_
    refine z_iload B dX2_formatAt_56 0 rfl ?_
    obtain ⟨w8, ew8, hf⟩ := zbs hf
    refine z_aI B ew8 dX2_formatAt_58 ?_
    refine z_istore (lv' := [(5, .int w8), (7, .int w5), (0, .ref u0), (1, .int u1), (2, .int u2), (3, .int u3), (4, .ref u4), (6, .int v6)]) B dX2_formatAt_59 (by decide) rfl ?_
    refine z_iinc (v' := (v6 + 1)) (lv' := [(6, .int (v6 + 1)), (5, .int w8), (7, .int w5), (0, .ref u0), (1, .int u1), (2, .int u2), (3, .int u3), (4, .ref u4)]) B dX2_formatAt_61 7 rfl rfl (by decide) rfl ?_
    refine z_goto B 18 dX2_formatAt_64 (by decide) ?_
    refine zV.sub [3, 4, 5, 6, 7, 1, 0] rfl ?_
    exact ih _ _ _ hf
set_option maxRecDepth 100000 in
set_option maxHeartbeats 4000000 in
theorem tX2_formatAt {l : Launch} {G : zG} (hst : l.stackTraces = false) {h : zH} {a0 : Nat} {a1 : Int32} {a2 : Int32} {a3 : Int32} {a4 : Nat} {r : Int32 × zH} (hf : fX2_formatAt h a0 a1 a2 a3 a4 = some r) : zMet l G yX2_formatAt (.code yX2_formatAt cX2_formatAt 8 (some .int)) rm_X2_formatAt 0 0 [.ref a0, .int a1, .int a2, .int a3, .ref a4] h (zoi r) := by
  unfold fX2_formatAt at hf
  obtain ⟨-, hf⟩ := zck hf
  refine z_enter (by decide) (Nat.le_of_ble_eq_true rfl) hst (fun x hx B hE => ?_)
  subst hx
  have B : zB G x cX2_formatAt 8 RX2 "formatAt" rm_X2_formatAt (some .int) := B
  show zV G x 8 (zQ G x (zoi r) 0 0) h 0 0 0 [(0, .ref a0), (1, .int a1), (2, .int a2), (3, .int a3), (4, .ref a4)] []
  refine z_aload_n B dX2_formatAt_0 rfl 0 rfl ?_
  refine z_iload_n B dX2_formatAt_1 rfl 1 rfl ?_
  refine z_iload_n B dX2_formatAt_2 rfl 2 rfl ?_
  obtain ⟨w1, h2, ew1, hf⟩ := zb2s hf
  refine z_callVi B [.int a1, .int a2] [] cw_X2_connects mv_RX2_55 (tX2_connects hst ew1) rfl (by decide) (kfX2_connects ew1) ⟨rfl, rfl, (Nat.le_of_ble_eq_true rfl), (Nat.le_of_ble_eq_true rfl), (Nat.le_of_ble_eq_true rfl), (Nat.le_of_ble_eq_true rfl)⟩ rfl rfl (Nat.le_of_ble_eq_true rfl) dX2_formatAt_3 ?_
  rcases zite hf with ⟨c3, hf⟩ | ⟨c3, hf⟩
  · refine z_if_ne B 12 dX2_formatAt_6 (by decide) (fun e => absurd c3 e) (fun _ => ?_)
    refine z_bipush (v := (-9)) B dX2_formatAt_9 (by decide) ?_
    cases hf
    exact z_iret B dX2_formatAt_11 (Nat.le_of_ble_eq_true rfl) (Nat.le_of_ble_eq_true rfl)
  refine z_if_ne B 12 dX2_formatAt_6 (by decide) (fun _ => ?_) (fun e => absurd e c3)
  refine z_iload_n B dX2_formatAt_12 rfl 1 rfl ?_
  refine z_istore (lv' := [(5, .int a1), (0, .ref a0), (1, .int a1), (2, .int a2), (3, .int a3), (4, .ref a4)]) B dX2_formatAt_13 (by decide) rfl ?_
  refine z_iconst (v := 0) B dX2_formatAt_15 (by decide) ?_
  refine z_istore (lv' := [(6, .int 0), (5, .int a1), (0, .ref a0), (1, .int a1), (2, .int a2), (3, .int a3), (4, .ref a4)]) B dX2_formatAt_16 (by decide) rfl ?_
  refine zV.sub [2, 3, 4, 5, 6, 1, 0] rfl ?_
  refine fX2_formatAt_L18_ok B hst hE (fun h4 y5 y6 hf => ?_) _ _ _ _ hf
  refine z_iload B dX2_formatAt_67 5 rfl ?_
  cases hf
  exact z_iret B dX2_formatAt_69 (Nat.le_of_ble_eq_true rfl) (Nat.le_of_ble_eq_true rfl)
abbrev rm_X6_step : Room := { frames := 7, cells := 3, slots := 18, locals := 103 }
set_option maxRecDepth 100000 in
set_option maxHeartbeats 4000000 in
theorem tX6_step {l : Launch} {G : zG} (hst : l.stackTraces = false) {h : zH} {a0 : Nat} {a1 : Int32} {a2 : Int32} {a3 : Int32} {r : (Int32 ⊕ String) × zH} (hf : fX6_step h a0 a1 a2 a3 = some r) : zMet l G yX6_step (.code yX6_step cX6_step 4 (some .int)) rm_X6_step 3 18 [.ref a0, .int a1, .int a2, .int a3] h (zoxi r) := by
  unfold fX6_step at hf
  obtain ⟨-, hf⟩ := zck hf
  refine z_enter (by decide) (Nat.le_of_ble_eq_true rfl) hst (fun x hx B hE => ?_)
  subst hx
  have B : zB G x cX6_step 4 RX6 "step" rm_X6_step (some .int) := B
  show zV G x 4 (zQ G x (zoxi r) 3 18) h 0 0 0 [(0, .ref a0), (1, .int a1), (2, .int a2), (3, .int a3)] []
  refine z_aload_n B dX6_step_0 rfl 0 rfl ?_
  refine z_iload_n B dX6_step_1 rfl 1 rfl ?_
  rcases zb4s hf with ⟨E2, h1, eh1, rfl⟩ | ⟨h1, eh1, hf⟩
  · exact z_callVX B hE [.int a1] [] cw_X6_requireFormat mv_RX6_190 (tX6_requireFormat hst eh1) rfl (by decide) (kfX6_requireFormat eh1) ⟨rfl, rfl, (Nat.le_of_ble_eq_true rfl), (Nat.le_of_ble_eq_true rfl), (Nat.le_of_ble_eq_true rfl), (Nat.le_of_ble_eq_true rfl)⟩ rfl rfl (Nat.le_of_ble_eq_true rfl) dX6_step_2 (Nat.le_of_ble_eq_true rfl) (Nat.le_of_ble_eq_true rfl)
  refine z_callVv B [.int a1] [] cw_X6_requireFormat mv_RX6_190 (tX6_requireFormat hst eh1) rfl (by decide) (kfX6_requireFormat eh1) ⟨rfl, rfl, (Nat.le_of_ble_eq_true rfl), (Nat.le_of_ble_eq_true rfl), (Nat.le_of_ble_eq_true rfl), (Nat.le_of_ble_eq_true rfl)⟩ rfl rfl (Nat.le_of_ble_eq_true rfl) dX6_step_2 ?_
  refine z_aload_n B dX6_step_5 rfl 0 rfl ?_
  refine z_iload_n B dX6_step_6 rfl 2 rfl ?_
  rcases zb4s hf with ⟨E4, h3, eh3, rfl⟩ | ⟨h3, eh3, hf⟩
  · exact z_callVX B hE [.int a2] [] cw_X6_requireFormat mv_RX6_190 (tX6_requireFormat hst eh3) rfl (by decide) (kfX6_requireFormat eh3) ⟨rfl, rfl, (Nat.le_of_ble_eq_true rfl), (Nat.le_of_ble_eq_true rfl), (Nat.le_of_ble_eq_true rfl), (Nat.le_of_ble_eq_true rfl)⟩ rfl rfl (Nat.le_of_ble_eq_true rfl) dX6_step_7 (Nat.le_of_ble_eq_true rfl) (Nat.le_of_ble_eq_true rfl)
  refine z_callVv B [.int a2] [] cw_X6_requireFormat mv_RX6_190 (tX6_requireFormat hst eh3) rfl (by decide) (kfX6_requireFormat eh3) ⟨rfl, rfl, (Nat.le_of_ble_eq_true rfl), (Nat.le_of_ble_eq_true rfl), (Nat.le_of_ble_eq_true rfl), (Nat.le_of_ble_eq_true rfl)⟩ rfl rfl (Nat.le_of_ble_eq_true rfl) dX6_step_7 ?_
  refine z_iload_n B dX6_step_10 rfl 3 rfl ?_
  rcases zite hf with ⟨c5, hf⟩ | ⟨c5, hf⟩
  · refine z_if_lt B 20 dX6_step_11 (by decide) (fun _ => ?_) (fun e => absurd c5 e)
    cases hf
    exact z_throwW B hE rfl th_RX6_67_71 sl_288 dX6_step_20 dX6_step_23 dX6_step_24 dX6_step_27 dX6_step_30 (Nat.le_of_ble_eq_true rfl) (Nat.le_of_ble_eq_true rfl) (Nat.le_of_ble_eq_true rfl) (Nat.le_of_ble_eq_true rfl) (Nat.le_of_ble_eq_true rfl) (Nat.le_of_ble_eq_true rfl)
  refine z_if_lt B 20 dX6_step_11 (by decide) (fun e => absurd e c5) (fun _ => ?_)
  refine z_iload_n B dX6_step_14 rfl 3 rfl ?_
  refine z_bipush (v := 8) B dX6_step_15 (by decide) ?_
  rcases zite hf with ⟨c6, hf⟩ | ⟨c6, hf⟩
  · refine z_icmp_lt B 31 dX6_step_17 (by decide) (fun _ => ?_) (fun e => absurd c6 e)
    refine z_aload_n B dX6_step_31 rfl 0 rfl ?_
    obtain ⟨w7, ew7, hf⟩ := zbs hf
    refine z_gP B fl_RX6_19 ew7 rfl dX6_step_32 ?_
    refine z_iload_n B dX6_step_35 rfl 1 rfl ?_
    refine z_iload_n B dX6_step_36 rfl 2 rfl ?_
    refine z_iload_n B dX6_step_37 rfl 3 rfl ?_
    refine z_aload_n B dX6_step_38 rfl 0 rfl ?_
    obtain ⟨w8, ew8, hf⟩ := zbs hf
    refine z_gP B fl_RX6_57 ew8 rfl dX6_step_39 ?_
    obtain ⟨w9, h10, ew9, hf⟩ := zb2s hf
    refine z_callVi B [.int a1, .int a2, .int a3, .ref w8] [] cw_X2_formatAt mv_RX6_290 (tX2_formatAt hst ew9) rfl (by decide) (kfX2_formatAt ew9) ⟨rfl, rfl, (Nat.le_of_ble_eq_true rfl), (Nat.le_of_ble_eq_true rfl), (Nat.le_of_ble_eq_true rfl), (Nat.le_of_ble_eq_true rfl)⟩ rfl rfl (Nat.le_of_ble_eq_true rfl) dX6_step_42 ?_
    cases hf
    exact z_iret B dX6_step_45 (Nat.le_of_ble_eq_true rfl) (Nat.le_of_ble_eq_true rfl)
  refine z_icmp_lt B 31 dX6_step_17 (by decide) (fun e => absurd e c6) (fun _ => ?_)
  cases hf
  exact z_throwW B hE rfl th_RX6_67_71 sl_288 dX6_step_20 dX6_step_23 dX6_step_24 dX6_step_27 dX6_step_30 (Nat.le_of_ble_eq_true rfl) (Nat.le_of_ble_eq_true rfl) (Nat.le_of_ble_eq_true rfl) (Nat.le_of_ble_eq_true rfl) (Nat.le_of_ble_eq_true rfl) (Nat.le_of_ble_eq_true rfl)
abbrev rm_X6_sizeAfter : Room := { frames := 7, cells := 3, slots := 18, locals := 103 }
set_option maxRecDepth 100000 in
set_option maxHeartbeats 4000000 in
theorem tX6_sizeAfter {l : Launch} {G : zG} (hst : l.stackTraces = false) {h : zH} {a0 : Nat} {a1 : Int32} {a2 : Int32} {a3 : Int32} {r : (Int32 ⊕ String) × zH} (hf : fX6_sizeAfter h a0 a1 a2 a3 = some r) : zMet l G yX6_sizeAfter (.code yX6_sizeAfter cX6_sizeAfter 4 (some .int)) rm_X6_sizeAfter 3 18 [.ref a0, .int a1, .int a2, .int a3] h (zoxi r) := by
  unfold fX6_sizeAfter at hf
  obtain ⟨-, hf⟩ := zck hf
  refine z_enter (by decide) (Nat.le_of_ble_eq_true rfl) hst (fun x hx B hE => ?_)
  subst hx
  have B : zB G x cX6_sizeAfter 4 RX6 "sizeAfter" rm_X6_sizeAfter (some .int) := B
  show zV G x 4 (zQ G x (zoxi r) 3 18) h 0 0 0 [(0, .ref a0), (1, .int a1), (2, .int a2), (3, .int a3)] []
  refine z_aload_n B dX6_sizeAfter_0 rfl 0 rfl ?_
  refine z_iload_n B dX6_sizeAfter_1 rfl 1 rfl ?_
  rcases zb4s hf with ⟨E2, h1, eh1, rfl⟩ | ⟨h1, eh1, hf⟩
  · exact z_callVX B hE [.int a1] [] cw_X6_requireFormat mv_RX6_190 (tX6_requireFormat hst eh1) rfl (by decide) (kfX6_requireFormat eh1) ⟨rfl, rfl, (Nat.le_of_ble_eq_true rfl), (Nat.le_of_ble_eq_true rfl), (Nat.le_of_ble_eq_true rfl), (Nat.le_of_ble_eq_true rfl)⟩ rfl rfl (Nat.le_of_ble_eq_true rfl) dX6_sizeAfter_2 (Nat.le_of_ble_eq_true rfl) (Nat.le_of_ble_eq_true rfl)
  refine z_callVv B [.int a1] [] cw_X6_requireFormat mv_RX6_190 (tX6_requireFormat hst eh1) rfl (by decide) (kfX6_requireFormat eh1) ⟨rfl, rfl, (Nat.le_of_ble_eq_true rfl), (Nat.le_of_ble_eq_true rfl), (Nat.le_of_ble_eq_true rfl), (Nat.le_of_ble_eq_true rfl)⟩ rfl rfl (Nat.le_of_ble_eq_true rfl) dX6_sizeAfter_2 ?_
  refine z_aload_n B dX6_sizeAfter_5 rfl 0 rfl ?_
  refine z_iload_n B dX6_sizeAfter_6 rfl 2 rfl ?_
  rcases zb4s hf with ⟨E4, h3, eh3, rfl⟩ | ⟨h3, eh3, hf⟩
  · exact z_callVX B hE [.int a2] [] cw_X6_requireFormat mv_RX6_190 (tX6_requireFormat hst eh3) rfl (by decide) (kfX6_requireFormat eh3) ⟨rfl, rfl, (Nat.le_of_ble_eq_true rfl), (Nat.le_of_ble_eq_true rfl), (Nat.le_of_ble_eq_true rfl), (Nat.le_of_ble_eq_true rfl)⟩ rfl rfl (Nat.le_of_ble_eq_true rfl) dX6_sizeAfter_7 (Nat.le_of_ble_eq_true rfl) (Nat.le_of_ble_eq_true rfl)
  refine z_callVv B [.int a2] [] cw_X6_requireFormat mv_RX6_190 (tX6_requireFormat hst eh3) rfl (by decide) (kfX6_requireFormat eh3) ⟨rfl, rfl, (Nat.le_of_ble_eq_true rfl), (Nat.le_of_ble_eq_true rfl), (Nat.le_of_ble_eq_true rfl), (Nat.le_of_ble_eq_true rfl)⟩ rfl rfl (Nat.le_of_ble_eq_true rfl) dX6_sizeAfter_7 ?_
  refine z_iload_n B dX6_sizeAfter_10 rfl 3 rfl ?_
  refine z_iconst (v := 1) B dX6_sizeAfter_11 (by decide) ?_
  rcases zite hf with ⟨c5, hf⟩ | ⟨c5, hf⟩
  · refine z_icmp_lt B 21 dX6_sizeAfter_12 (by decide) (fun _ => ?_) (fun e => absurd c5 e)
    cases hf
    exact z_throwW B hE rfl th_RX6_67_71 sl_294 dX6_sizeAfter_21 dX6_sizeAfter_24 dX6_sizeAfter_25 dX6_sizeAfter_28 dX6_sizeAfter_31 (Nat.le_of_ble_eq_true rfl) (Nat.le_of_ble_eq_true rfl) (Nat.le_of_ble_eq_true rfl) (Nat.le_of_ble_eq_true rfl) (Nat.le_of_ble_eq_true rfl) (Nat.le_of_ble_eq_true rfl)
  refine z_icmp_lt B 21 dX6_sizeAfter_12 (by decide) (fun e => absurd e c5) (fun _ => ?_)
  refine z_iload_n B dX6_sizeAfter_15 rfl 3 rfl ?_
  refine z_ldc B dX6_sizeAfter_16 kc_RX6_249 ?_
  rcases zite hf with ⟨c6, hf⟩ | ⟨c6, hf⟩
  · refine z_icmp_le B 32 dX6_sizeAfter_18 (by decide) (fun _ => ?_) (fun e => absurd c6 e)
    refine z_aload_n B dX6_sizeAfter_32 rfl 0 rfl ?_
    obtain ⟨w7, ew7, hf⟩ := zbs hf
    refine z_gP B fl_RX6_19 ew7 rfl dX6_sizeAfter_33 ?_
    refine z_iload_n B dX6_sizeAfter_36 rfl 1 rfl ?_
    refine z_iload_n B dX6_sizeAfter_37 rfl 2 rfl ?_
    refine z_iload_n B dX6_sizeAfter_38 rfl 3 rfl ?_
    refine z_aload_n B dX6_sizeAfter_39 rfl 0 rfl ?_
    obtain ⟨w8, ew8, hf⟩ := zbs hf
    refine z_gP B fl_RX6_57 ew8 rfl dX6_sizeAfter_40 ?_
    obtain ⟨w9, h10, ew9, hf⟩ := zb2s hf
    refine z_callVi B [.int a1, .int a2, .int a3, .ref w8] [] cw_X2_sizeAtEnd mv_RX6_296 (tX2_sizeAtEnd hst ew9) rfl (by decide) (kfX2_sizeAtEnd ew9) ⟨rfl, rfl, (Nat.le_of_ble_eq_true rfl), (Nat.le_of_ble_eq_true rfl), (Nat.le_of_ble_eq_true rfl), (Nat.le_of_ble_eq_true rfl)⟩ rfl rfl (Nat.le_of_ble_eq_true rfl) dX6_sizeAfter_43 ?_
    cases hf
    exact z_iret B dX6_sizeAfter_46 (Nat.le_of_ble_eq_true rfl) (Nat.le_of_ble_eq_true rfl)
  refine z_icmp_le B 32 dX6_sizeAfter_18 (by decide) (fun e => absurd e c6) (fun _ => ?_)
  cases hf
  exact z_throwW B hE rfl th_RX6_67_71 sl_294 dX6_sizeAfter_21 dX6_sizeAfter_24 dX6_sizeAfter_25 dX6_sizeAfter_28 dX6_sizeAfter_31 (Nat.le_of_ble_eq_true rfl) (Nat.le_of_ble_eq_true rfl) (Nat.le_of_ble_eq_true rfl) (Nat.le_of_ble_eq_true rfl) (Nat.le_of_ble_eq_true rfl) (Nat.le_of_ble_eq_true rfl)
abbrev rm_X6_reachable : Room := { frames := 7, cells := 1, slots := 6, locals := 103 }
set_option maxRecDepth 100000 in
set_option maxHeartbeats 4000000 in
theorem fX6_reachable_L9_ok {G : zG} {x : zX} (B : zB G x cX6_reachable 4 RX6 "reachable" rm_X6_reachable (some .int)) (hst : (zl x).stackTraces = false) (hE : ∀ e ∈ (zc x).exceptionTable.toList, False) {r : (Int32 ⊕ String) × zH} {k : zH → Int32 → Int32 → Option ((Int32 ⊕ String) × zH)} {u0 : Nat} {u1 : Int32} (hk : ∀ h v2 v3, k h v2 v3 = some r → zV G x 4 (zQ G x (zoxi r) 1 6) h 1 6 44 [(0, .ref u0), (1, .int u1), (2, .int v2), (3, .int v3)] []) : ∀ n h v2 v3, fX6_reachable_L9 k u0 u1 n h v2 v3 = some r → zV G x 4 (zQ G x (zoxi r) 1 6) h 1 6 9 [(0, .ref u0), (1, .int u1), (2, .int v2), (3, .int v3)] [] := by
  intro n
  induction n with
  | zero =>
    intro h v2 v3 hf
    have hf : (none : Option ((Int32 ⊕ String) × zH)) = some r := hf
    cases hf
  | succ n ih =>
    intro h v2 v3 hf
    rw [fX6_reachable_L9] at hf
    refine z_iload_n B dX6_reachable_9 rfl 3 rfl ?_
    refine z_aload_n B dX6_reachable_10 rfl 0 rfl ?_
    obtain ⟨w1, ew1, hf⟩ := zbs hf
    refine z_gP B fl_RX6_57 ew1 rfl dX6_reachable_11 ?_
    obtain ⟨w2, ew2, hf⟩ := zbs hf
    refine z_gI B fl_RX6_100 ew2 rfl dX6_reachable_14 ?_
    rcases zite hf with ⟨c3, hf⟩ | ⟨c3, hf⟩
    · refine z_icmp_ge B 44 dX6_reachable_17 (by decide) (fun _ => ?_) (fun e => absurd c3 e)
      exact hk _ _ _ hf
    refine z_icmp_ge B 44 dX6_reachable_17 (by decide) (fun e => absurd e c3) (fun _ => ?_)
    refine z_aload_n B dX6_reachable_20 rfl 0 rfl ?_
    obtain ⟨w4, ew4, hf⟩ := zbs hf
    refine z_gP B fl_RX6_19 ew4 rfl dX6_reachable_21 ?_
    refine z_iload_n B dX6_reachable_24 rfl 1 rfl ?_
    refine z_iload_n B dX6_reachable_25 rfl 3 rfl ?_
    obtain ⟨w5, h6, ew5, hf⟩ := zb2s hf
    refine z_callVi B [.int u1, .int v3] [] cw_X2_connects mv_RX6_299 (tX2_connects hst ew5) rfl (by decide) (kfX2_connects ew5) ⟨rfl, rfl, (Nat.le_of_ble_eq_true rfl), (Nat.le_of_ble_eq_true rfl), (Nat.le_of_ble_eq_true rfl), (Nat.le_of_ble_eq_true rfl)⟩ rfl rfl (Nat.le_of_ble_eq_true rfl) dX6_reachable_26 ?_
    rcases zite hf with ⟨c7, hf⟩ | ⟨c7, hf⟩
    · refine z_if_eq B 38 dX6_reachable_29 (by decide) (fun _ => ?_) (fun e => absurd c7 e)
      refine z_iinc (v' := (v3 + 1)) (lv' := [(3, .int (v3 + 1)), (0, .ref u0), (1, .int u1), (2, .int v2)]) B dX6_reachable_38 3 rfl rfl (by decide) rfl ?_
      refine z_goto B 9 dX6_reachable_41 (by decide) ?_
      refine zV.sub [1, 2, 3, 0] rfl ?_
      exact ih _ _ _ hf
    refine z_if_eq B 38 dX6_reachable_29 (by decide) (fun e => absurd e c7) (fun _ => ?_)
    refine z_iload_n B dX6_reachable_32 rfl 2 rfl ?_
    refine z_iconst (v := 1) B dX6_reachable_33 (by decide) ?_
    refine z_iload_n B dX6_reachable_34 rfl 3 rfl ?_
    refine z_ishl B dX6_reachable_35 ?_
    refine z_ior B dX6_reachable_36 ?_
    refine z_istore_n (lv' := [(2, .int ((v2 : Int32) ||| ((1 : Int32) <<< (v3 &&& 31)))), (0, .ref u0), (1, .int u1), (3, .int v3)]) B dX6_reachable_37 rfl (by decide) rfl ?_
    refine z_iinc (v' := (v3 + 1)) (lv' := [(3, .int (v3 + 1)), (2, .int ((v2 : Int32) ||| ((1 : Int32) <<< (v3 &&& 31)))), (0, .ref u0), (1, .int u1)]) B dX6_reachable_38 3 rfl rfl (by decide) rfl ?_
    refine z_goto B 9 dX6_reachable_41 (by decide) ?_
    refine zV.sub [2, 3, 1, 0] rfl ?_
    exact ih _ _ _ hf
set_option maxRecDepth 100000 in
set_option maxHeartbeats 4000000 in
theorem tX6_reachable {l : Launch} {G : zG} (hst : l.stackTraces = false) {h : zH} {a0 : Nat} {a1 : Int32} {r : (Int32 ⊕ String) × zH} (hf : fX6_reachable h a0 a1 = some r) : zMet l G yX6_reachable (.code yX6_reachable cX6_reachable 4 (some .int)) rm_X6_reachable 1 6 [.ref a0, .int a1] h (zoxi r) := by
  unfold fX6_reachable at hf
  obtain ⟨-, hf⟩ := zck hf
  refine z_enter (by decide) (Nat.le_of_ble_eq_true rfl) hst (fun x hx B hE => ?_)
  subst hx
  have B : zB G x cX6_reachable 4 RX6 "reachable" rm_X6_reachable (some .int) := B
  show zV G x 4 (zQ G x (zoxi r) 1 6) h 0 0 0 [(0, .ref a0), (1, .int a1)] []
  refine z_aload_n B dX6_reachable_0 rfl 0 rfl ?_
  refine z_iload_n B dX6_reachable_1 rfl 1 rfl ?_
  rcases zb4s hf with ⟨E2, h1, eh1, rfl⟩ | ⟨h1, eh1, hf⟩
  · exact z_callVX B hE [.int a1] [] cw_X6_requireFormat mv_RX6_190 (tX6_requireFormat hst eh1) rfl (by decide) (kfX6_requireFormat eh1) ⟨rfl, rfl, (Nat.le_of_ble_eq_true rfl), (Nat.le_of_ble_eq_true rfl), (Nat.le_of_ble_eq_true rfl), (Nat.le_of_ble_eq_true rfl)⟩ rfl rfl (Nat.le_of_ble_eq_true rfl) dX6_reachable_2 (Nat.le_of_ble_eq_true rfl) (Nat.le_of_ble_eq_true rfl)
  refine z_callVv B [.int a1] [] cw_X6_requireFormat mv_RX6_190 (tX6_requireFormat hst eh1) rfl (by decide) (kfX6_requireFormat eh1) ⟨rfl, rfl, (Nat.le_of_ble_eq_true rfl), (Nat.le_of_ble_eq_true rfl), (Nat.le_of_ble_eq_true rfl), (Nat.le_of_ble_eq_true rfl)⟩ rfl rfl (Nat.le_of_ble_eq_true rfl) dX6_reachable_2 ?_
  refine z_iconst (v := 0) B dX6_reachable_5 (by decide) ?_
  refine z_istore_n (lv' := [(2, .int 0), (0, .ref a0), (1, .int a1)]) B dX6_reachable_6 rfl (by decide) rfl ?_
  refine z_iconst (v := 0) B dX6_reachable_7 (by decide) ?_
  refine z_istore_n (lv' := [(3, .int 0), (2, .int 0), (0, .ref a0), (1, .int a1)]) B dX6_reachable_8 rfl (by decide) rfl ?_
  refine zV.sub [2, 3, 1, 0] rfl ?_
  refine fX6_reachable_L9_ok B hst hE (fun h3 y4 y5 hf => ?_) _ _ _ _ hf
  refine z_iload_n B dX6_reachable_44 rfl 2 rfl ?_
  cases hf
  exact z_iret B dX6_reachable_45 (Nat.le_of_ble_eq_true rfl) (Nat.le_of_ble_eq_true rfl)
abbrev rm_X6_without : Room := { frames := 7, cells := 3, slots := 18, locals := 103 }
set_option maxRecDepth 100000 in
set_option maxHeartbeats 4000000 in
theorem tX6_without {l : Launch} {G : zG} (hst : l.stackTraces = false) {h : zH} {a0 : Nat} {a1 : Int32} {a2 : Int32} {a3 : Int32} {r : (Int32 ⊕ String) × zH} (hf : fX6_without h a0 a1 a2 a3 = some r) : zMet l G yX6_without (.code yX6_without cX6_without 4 (some .int)) rm_X6_without 3 18 [.ref a0, .int a1, .int a2, .int a3] h (zoxi r) := by
  unfold fX6_without at hf
  obtain ⟨-, hf⟩ := zck hf
  refine z_enter (by decide) (Nat.le_of_ble_eq_true rfl) hst (fun x hx B hE => ?_)
  subst hx
  have B : zB G x cX6_without 4 RX6 "without" rm_X6_without (some .int) := B
  show zV G x 4 (zQ G x (zoxi r) 3 18) h 0 0 0 [(0, .ref a0), (1, .int a1), (2, .int a2), (3, .int a3)] []
  refine z_aload_n B dX6_without_0 rfl 0 rfl ?_
  refine z_iload_n B dX6_without_1 rfl 1 rfl ?_
  rcases zb4s hf with ⟨E2, h1, eh1, rfl⟩ | ⟨h1, eh1, hf⟩
  · exact z_callVX B hE [.int a1] [] cw_X6_requireConversion mv_RX6_124 (tX6_requireConversion hst eh1) rfl (by decide) (kfX6_requireConversion eh1) ⟨rfl, rfl, (Nat.le_of_ble_eq_true rfl), (Nat.le_of_ble_eq_true rfl), (Nat.le_of_ble_eq_true rfl), (Nat.le_of_ble_eq_true rfl)⟩ rfl rfl (Nat.le_of_ble_eq_true rfl) dX6_without_2 (Nat.le_of_ble_eq_true rfl) (Nat.le_of_ble_eq_true rfl)
  refine z_callVv B [.int a1] [] cw_X6_requireConversion mv_RX6_124 (tX6_requireConversion hst eh1) rfl (by decide) (kfX6_requireConversion eh1) ⟨rfl, rfl, (Nat.le_of_ble_eq_true rfl), (Nat.le_of_ble_eq_true rfl), (Nat.le_of_ble_eq_true rfl), (Nat.le_of_ble_eq_true rfl)⟩ rfl rfl (Nat.le_of_ble_eq_true rfl) dX6_without_2 ?_
  refine z_aload_n B dX6_without_5 rfl 0 rfl ?_
  refine z_iload_n B dX6_without_6 rfl 2 rfl ?_
  rcases zb4s hf with ⟨E4, h3, eh3, rfl⟩ | ⟨h3, eh3, hf⟩
  · exact z_callVX B hE [.int a2] [] cw_X6_requireFormat mv_RX6_190 (tX6_requireFormat hst eh3) rfl (by decide) (kfX6_requireFormat eh3) ⟨rfl, rfl, (Nat.le_of_ble_eq_true rfl), (Nat.le_of_ble_eq_true rfl), (Nat.le_of_ble_eq_true rfl), (Nat.le_of_ble_eq_true rfl)⟩ rfl rfl (Nat.le_of_ble_eq_true rfl) dX6_without_7 (Nat.le_of_ble_eq_true rfl) (Nat.le_of_ble_eq_true rfl)
  refine z_callVv B [.int a2] [] cw_X6_requireFormat mv_RX6_190 (tX6_requireFormat hst eh3) rfl (by decide) (kfX6_requireFormat eh3) ⟨rfl, rfl, (Nat.le_of_ble_eq_true rfl), (Nat.le_of_ble_eq_true rfl), (Nat.le_of_ble_eq_true rfl), (Nat.le_of_ble_eq_true rfl)⟩ rfl rfl (Nat.le_of_ble_eq_true rfl) dX6_without_7 ?_
  refine z_aload_n B dX6_without_10 rfl 0 rfl ?_
  refine z_iload_n B dX6_without_11 rfl 3 rfl ?_
  rcases zb4s hf with ⟨E6, h5, eh5, rfl⟩ | ⟨h5, eh5, hf⟩
  · exact z_callVX B hE [.int a3] [] cw_X6_requireFormat mv_RX6_190 (tX6_requireFormat hst eh5) rfl (by decide) (kfX6_requireFormat eh5) ⟨rfl, rfl, (Nat.le_of_ble_eq_true rfl), (Nat.le_of_ble_eq_true rfl), (Nat.le_of_ble_eq_true rfl), (Nat.le_of_ble_eq_true rfl)⟩ rfl rfl (Nat.le_of_ble_eq_true rfl) dX6_without_12 (Nat.le_of_ble_eq_true rfl) (Nat.le_of_ble_eq_true rfl)
  refine z_callVv B [.int a3] [] cw_X6_requireFormat mv_RX6_190 (tX6_requireFormat hst eh5) rfl (by decide) (kfX6_requireFormat eh5) ⟨rfl, rfl, (Nat.le_of_ble_eq_true rfl), (Nat.le_of_ble_eq_true rfl), (Nat.le_of_ble_eq_true rfl), (Nat.le_of_ble_eq_true rfl)⟩ rfl rfl (Nat.le_of_ble_eq_true rfl) dX6_without_12 ?_
  refine z_aload_n B dX6_without_15 rfl 0 rfl ?_
  obtain ⟨w7, ew7, hf⟩ := zbs hf
  refine z_gP B fl_RX6_23 ew7 rfl dX6_without_16 ?_
  refine z_aload_n B dX6_without_19 rfl 0 rfl ?_
  obtain ⟨w8, ew8, hf⟩ := zbs hf
  refine z_gP B fl_RX6_57 ew8 rfl dX6_without_20 ?_
  refine z_aload_n B dX6_without_23 rfl 0 rfl ?_
  obtain ⟨w9, ew9, hf⟩ := zbs hf
  refine z_gP B fl_RX6_36 ew9 rfl dX6_without_24 ?_
  obtain ⟨w10, ew10, hf⟩ := zbs hf
  refine z_gPR B fr_RX6_134 ew10 rfl dX6_without_27 ?_
  refine z_iload_n B dX6_without_30 rfl 1 rfl ?_
  obtain ⟨h11, eh11, hf⟩ := zbs hf
  refine z_callVv B [.ref w8, .ref w10, .int a1] [] cw_X2_find mv_RX6_302 (tX2_find hst eh11) rfl (by decide) (kfX2_find eh11) ⟨rfl, rfl, (Nat.le_of_ble_eq_true rfl), (Nat.le_of_ble_eq_true rfl), (Nat.le_of_ble_eq_true rfl), (Nat.le_of_ble_eq_true rfl)⟩ rfl rfl (Nat.le_of_ble_eq_true rfl) dX6_without_31 ?_
  refine z_aload_n B dX6_without_34 rfl 0 rfl ?_
  obtain ⟨w12, ew12, hf⟩ := zbs hf
  refine z_gP B fl_RX6_23 ew12 rfl dX6_without_35 ?_
  refine z_iload_n B dX6_without_38 rfl 2 rfl ?_
  refine z_iload_n B dX6_without_39 rfl 3 rfl ?_
  obtain ⟨w13, h14, ew13, hf⟩ := zb2s hf
  refine z_callVi B [.int a2, .int a3] [] cw_X2_costOf mv_RX6_275 (tX2_costOf hst ew13) rfl (by decide) (kfX2_costOf ew13) ⟨rfl, rfl, (Nat.le_of_ble_eq_true rfl), (Nat.le_of_ble_eq_true rfl), (Nat.le_of_ble_eq_true rfl), (Nat.le_of_ble_eq_true rfl)⟩ rfl rfl (Nat.le_of_ble_eq_true rfl) dX6_without_40 ?_
  cases hf
  exact z_iret B dX6_without_43 (Nat.le_of_ble_eq_true rfl) (Nat.le_of_ble_eq_true rfl)
abbrev rm_X6_worth : Room := { frames := 7, cells := 1, slots := 6, locals := 103 }
set_option maxRecDepth 100000 in
set_option maxHeartbeats 4000000 in
theorem tX6_worth {l : Launch} {G : zG} (hst : l.stackTraces = false) {h : zH} {a0 : Nat} {a1 : Int32} {r : (Int32 ⊕ String) × zH} (hf : fX6_worth h a0 a1 = some r) : zMet l G yX6_worth (.code yX6_worth cX6_worth 3 (some .int)) rm_X6_worth 1 6 [.ref a0, .int a1] h (zoxi r) := by
  unfold fX6_worth at hf
  obtain ⟨-, hf⟩ := zck hf
  refine z_enter (by decide) (Nat.le_of_ble_eq_true rfl) hst (fun x hx B hE => ?_)
  subst hx
  have B : zB G x cX6_worth 3 RX6 "worth" rm_X6_worth (some .int) := B
  show zV G x 3 (zQ G x (zoxi r) 1 6) h 0 0 0 [(0, .ref a0), (1, .int a1)] []
  refine z_aload_n B dX6_worth_0 rfl 0 rfl ?_
  refine z_iload_n B dX6_worth_1 rfl 1 rfl ?_
  rcases zb4s hf with ⟨E2, h1, eh1, rfl⟩ | ⟨h1, eh1, hf⟩
  · exact z_callVX B hE [.int a1] [] cw_X6_requireConversion mv_RX6_124 (tX6_requireConversion hst eh1) rfl (by decide) (kfX6_requireConversion eh1) ⟨rfl, rfl, (Nat.le_of_ble_eq_true rfl), (Nat.le_of_ble_eq_true rfl), (Nat.le_of_ble_eq_true rfl), (Nat.le_of_ble_eq_true rfl)⟩ rfl rfl (Nat.le_of_ble_eq_true rfl) dX6_worth_2 (Nat.le_of_ble_eq_true rfl) (Nat.le_of_ble_eq_true rfl)
  refine z_callVv B [.int a1] [] cw_X6_requireConversion mv_RX6_124 (tX6_requireConversion hst eh1) rfl (by decide) (kfX6_requireConversion eh1) ⟨rfl, rfl, (Nat.le_of_ble_eq_true rfl), (Nat.le_of_ble_eq_true rfl), (Nat.le_of_ble_eq_true rfl), (Nat.le_of_ble_eq_true rfl)⟩ rfl rfl (Nat.le_of_ble_eq_true rfl) dX6_worth_2 ?_
  refine z_aload_n B dX6_worth_5 rfl 0 rfl ?_
  obtain ⟨w3, ew3, hf⟩ := zbs hf
  refine z_gP B fl_RX6_23 ew3 rfl dX6_worth_6 ?_
  refine z_aload_n B dX6_worth_9 rfl 0 rfl ?_
  obtain ⟨w4, ew4, hf⟩ := zbs hf
  refine z_gP B fl_RX6_57 ew4 rfl dX6_worth_10 ?_
  refine z_aload_n B dX6_worth_13 rfl 0 rfl ?_
  obtain ⟨w5, ew5, hf⟩ := zbs hf
  refine z_gP B fl_RX6_36 ew5 rfl dX6_worth_14 ?_
  obtain ⟨w6, ew6, hf⟩ := zbs hf
  refine z_gPR B fr_RX6_134 ew6 rfl dX6_worth_17 ?_
  refine z_iload_n B dX6_worth_20 rfl 1 rfl ?_
  obtain ⟨h7, eh7, hf⟩ := zbs hf
  refine z_callVv B [.ref w4, .ref w6, .int a1] [] cw_X2_find mv_RX6_302 (tX2_find hst eh7) rfl (by decide) (kfX2_find eh7) ⟨rfl, rfl, (Nat.le_of_ble_eq_true rfl), (Nat.le_of_ble_eq_true rfl), (Nat.le_of_ble_eq_true rfl), (Nat.le_of_ble_eq_true rfl)⟩ rfl rfl (Nat.le_of_ble_eq_true rfl) dX6_worth_21 ?_
  refine z_aload_n B dX6_worth_24 rfl 0 rfl ?_
  obtain ⟨w8, ew8, hf⟩ := zbs hf
  refine z_gP B fl_RX6_23 ew8 rfl dX6_worth_25 ?_
  refine z_aload_n B dX6_worth_28 rfl 0 rfl ?_
  obtain ⟨w9, ew9, hf⟩ := zbs hf
  refine z_gP B fl_RX6_57 ew9 rfl dX6_worth_29 ?_
  obtain ⟨w10, ew10, hf⟩ := zbs hf
  refine z_gPR B fr_RX6_127 ew10 rfl dX6_worth_32 ?_
  refine z_iload_n B dX6_worth_35 rfl 1 rfl ?_
  obtain ⟨w11, ew11, hf⟩ := zbs hf
  refine z_aI B ew11 dX6_worth_36 ?_
  refine z_aload_n B dX6_worth_37 rfl 0 rfl ?_
  obtain ⟨w12, ew12, hf⟩ := zbs hf
  refine z_gP B fl_RX6_57 ew12 rfl dX6_worth_38 ?_
  obtain ⟨w13, ew13, hf⟩ := zbs hf
  refine z_gPR B fr_RX6_131 ew13 rfl dX6_worth_41 ?_
  refine z_iload_n B dX6_worth_44 rfl 1 rfl ?_
  obtain ⟨w14, ew14, hf⟩ := zbs hf
  refine z_aI B ew14 dX6_worth_45 ?_
  obtain ⟨w15, h16, ew15, hf⟩ := zb2s hf
  refine z_callVi B [.int w11, .int w14] [] cw_X2_costOf mv_RX6_275 (tX2_costOf hst ew15) rfl (by decide) (kfX2_costOf ew15) ⟨rfl, rfl, (Nat.le_of_ble_eq_true rfl), (Nat.le_of_ble_eq_true rfl), (Nat.le_of_ble_eq_true rfl), (Nat.le_of_ble_eq_true rfl)⟩ rfl rfl (Nat.le_of_ble_eq_true rfl) dX6_worth_46 ?_
  refine z_istore_n (lv' := [(2, .int w15), (0, .ref a0), (1, .int a1)]) B dX6_worth_49 rfl (by decide) rfl ?_
  refine z_iload_n B dX6_worth_50 rfl 0 rfl ?_
  refine z_bipush (v := (-9)) B dX6_worth_51 (by decide) ?_
  rcases zite hf with ⟨c17, hf⟩ | ⟨c17, hf⟩
  · refine z_icmp_ne B 61 dX6_worth_53 (by decide) (fun e => absurd c17 e) (fun _ => ?_)
    refine z_bipush (v := 99) B dX6_worth_56 (by decide) ?_
    refine z_goto B 67 dX6_worth_58 (by decide) ?_
    cases hf
    exact z_iret B dX6_worth_67 (Nat.le_of_ble_eq_true rfl) (Nat.le_of_ble_eq_true rfl)
  refine z_icmp_ne B 61 dX6_worth_53 (by decide) (fun _ => ?_) (fun e => absurd e c17)
  refine z_iload_n B dX6_worth_61 rfl 0 rfl ?_
  refine z_bipush (v := 99) B dX6_worth_62 (by decide) ?_
  refine z_min B mm_RX6_306 kw_min1 kw_m kw_min2 dX6_worth_64 (Nat.le_of_ble_eq_true rfl) (Nat.le_of_ble_eq_true rfl) (Nat.le_of_ble_eq_true rfl) (Nat.le_of_ble_eq_true rfl) ?_
  cases hf
  exact z_iret B dX6_worth_67 (Nat.le_of_ble_eq_true rfl) (Nat.le_of_ble_eq_true rfl)
abbrev rm_X2_usedConversions : Room := { frames := 0, cells := 0, slots := 0, locals := 0 }
set_option maxRecDepth 100000 in
set_option maxHeartbeats 4000000 in
theorem fX2_usedConversions_L15_ok {G : zG} {x : zX} (B : zB G x cX2_usedConversions 5 RX2 "usedConversions" rm_X2_usedConversions (some .int)) (hst : (zl x).stackTraces = false) (hE : ∀ e ∈ (zc x).exceptionTable.toList, False) {r : Int32 × zH} {k : zH → Int32 → Int32 → Option (Int32 × zH)} {u0 : Nat} {u1 : Nat} {u3 : Int32} (hk : ∀ h v2 v4, k h v2 v4 = some r → zV G x 5 (zQ G x (zoi r) 0 0) h 0 0 57 [(0, .ref u0), (1, .ref u1), (2, .int v2), (3, .int u3), (4, .int v4)] []) : ∀ n h v2 v4, fX2_usedConversions_L15 k u0 u1 u3 n h v2 v4 = some r → zV G x 5 (zQ G x (zoi r) 0 0) h 0 0 15 [(0, .ref u0), (1, .ref u1), (2, .int v2), (3, .int u3), (4, .int v4)] [] := by
  intro n
  induction n with
  | zero =>
    intro h v2 v4 hf
    have hf : (none : Option (Int32 × zH)) = some r := hf
    cases hf
  | succ n ih =>
    intro h v2 v4 hf
    rw [fX2_usedConversions_L15] at hf
    refine z_iload B dX2_usedConversions_15 4 rfl ?_
    refine z_aload_n B dX2_usedConversions_17 rfl 1 rfl ?_
    obtain ⟨w1, ew1, hf⟩ := zbs hf
    refine z_gI B fl_RX2_72 ew1 rfl dX2_usedConversions_18 ?_
    rcases zite hf with ⟨c2, hf⟩ | ⟨c2, hf⟩
    · refine z_icmp_ge B 57 dX2_usedConversions_21 (by decide) (fun _ => ?_) (fun e => absurd c2 e)
      exact hk _ _ _ hf
    refine z_icmp_ge B 57 dX2_usedConversions_21 (by decide) (fun e => absurd e c2) (fun _ => ?_)
    refine z_aload_n B dX2_usedConversions_24 rfl 0 rfl ?_
    obtain ⟨w3, ew3, hf⟩ := zbs hf
    refine z_gP B fl_RX2_22 ew3 rfl dX2_usedConversions_25 ?_
    refine z_iload_n B dX2_usedConversions_28 rfl 3 rfl ?_
    obtain ⟨w4, ew4, hf⟩ := zbs hf
    refine z_aP B ew4 dX2_usedConversions_29 ?_
    refine z_iload B dX2_usedConversions_30 4 rfl ?_
    obtain ⟨w5, ew5, hf⟩ := zbs hf
    refine z_aI B ew5 dX2_usedConversions_32 ?_
    refine z_iconst (v := (-1)) B dX2_usedConversions_33 (by decide) ?_
    rcases zite hf with ⟨c6, hf⟩ | ⟨c6, hf⟩
    · refine z_icmp_eq B 51 dX2_usedConversions_34 (by decide) (fun _ => ?_) (fun e => absurd c6 e)
      refine z_iinc (v' := (v4 + 1)) (lv' := [(4, .int (v4 + 1)), (0, .ref u0), (1, .ref u1), (2, .int v2), (3, .int u3)]) B dX2_usedConversions_51 4 rfl rfl (by decide) rfl ?_
      refine z_goto B 15 dX2_usedConversions_54 (by decide) ?_
      refine zV.sub [1, 2, 3, 4, 0] rfl ?_
      exact ih _ _ _ hf
    refine z_icmp_eq B 51 dX2_usedConversions_34 (by decide) (fun e => absurd e c6) (fun _ => ?_)
    refine z_iload_n B dX2_usedConversions_37 rfl 2 rfl ?_
    refine z_iconst (v := 1) B dX2_usedConversions_38 (by decide) ?_
    refine z_aload_n B dX2_usedConversions_39 rfl 0 rfl ?_
    obtain ⟨w7, ew7, hf⟩ := zbs hf
    refine z_gP B fl_RX2_22 ew7 rfl dX2_usedConversions_40 ?_
    refine z_iload_n B dX2_usedConversions_43 rfl 3 rfl ?_
    obtain ⟨w8, ew8, hf⟩ := zbs hf
    refine z_aP B ew8 dX2_usedConversions_44 ?_
    refine z_iload B dX2_usedConversions_45 4 rfl ?_
    obtain ⟨w9, ew9, hf⟩ := zbs hf
    refine z_aI B ew9 dX2_usedConversions_47 ?_
    refine z_ishl B dX2_usedConversions_48 ?_
    refine z_ior B dX2_usedConversions_49 ?_
    refine z_istore_n (lv' := [(2, .int ((v2 : Int32) ||| ((1 : Int32) <<< (w9 &&& 31)))), (0, .ref u0), (1, .ref u1), (3, .int u3), (4, .int v4)]) B dX2_usedConversions_50 rfl (by decide) rfl ?_
    refine z_iinc (v' := (v4 + 1)) (lv' := [(4, .int (v4 + 1)), (2, .int ((v2 : Int32) ||| ((1 : Int32) <<< (w9 &&& 31)))), (0, .ref u0), (1, .ref u1), (3, .int u3)]) B dX2_usedConversions_51 4 rfl rfl (by decide) rfl ?_
    refine z_goto B 15 dX2_usedConversions_54 (by decide) ?_
    refine zV.sub [2, 3, 1, 4, 0] rfl ?_
    exact ih _ _ _ hf
set_option maxRecDepth 100000 in
set_option maxHeartbeats 4000000 in
theorem fX2_usedConversions_L4_ok {G : zG} {x : zX} (B : zB G x cX2_usedConversions 5 RX2 "usedConversions" rm_X2_usedConversions (some .int)) (hst : (zl x).stackTraces = false) (hE : ∀ e ∈ (zc x).exceptionTable.toList, False) {r : Int32 × zH} {k : zH → Int32 → Int32 → Option (Int32 × zH)} {u0 : Nat} {u1 : Nat} (hk : ∀ h v2 v3, k h v2 v3 = some r → zV G x 5 (zQ G x (zoi r) 0 0) h 0 0 63 [(0, .ref u0), (1, .ref u1), (2, .int v2), (3, .int v3)] []) : ∀ n h v2 v3, fX2_usedConversions_L4 k u0 u1 n h v2 v3 = some r → zV G x 5 (zQ G x (zoi r) 0 0) h 0 0 4 [(0, .ref u0), (1, .ref u1), (2, .int v2), (3, .int v3)] [] := by
  intro n
  induction n with
  | zero =>
    intro h v2 v3 hf
    have hf : (none : Option (Int32 × zH)) = some r := hf
    cases hf
  | succ n ih =>
    intro h v2 v3 hf
    rw [fX2_usedConversions_L4] at hf
    refine z_iload_n B dX2_usedConversions_4 rfl 3 rfl ?_
    refine z_aload_n B dX2_usedConversions_5 rfl 1 rfl ?_
    obtain ⟨w1, ew1, hf⟩ := zbs hf
    refine z_gI B fl_RX2_72 ew1 rfl dX2_usedConversions_6 ?_
    rcases zite hf with ⟨c2, hf⟩ | ⟨c2, hf⟩
    · refine z_icmp_ge B 63 dX2_usedConversions_9 (by decide) (fun _ => ?_) (fun e => absurd c2 e)
      exact hk _ _ _ hf
    refine z_icmp_ge B 63 dX2_usedConversions_9 (by decide) (fun e => absurd e c2) (fun _ => ?_)
    refine z_iconst (v := 0) B dX2_usedConversions_12 (by decide) ?_
    refine z_istore (lv' := [(4, .int 0), (0, .ref u0), (1, .ref u1), (2, .int v2), (3, .int v3)]) B dX2_usedConversions_13 (by decide) rfl ?_
    refine zV.sub [1, 2, 3, 4, 0] rfl ?_
    refine fX2_usedConversions_L15_ok B hst hE (fun h3 y4 y5 hf => ?_) _ _ _ _ hf
    refine z_iinc (v' := (v3 + 1)) (lv' := [(3, .int (v3 + 1)), (0, .ref u0), (1, .ref u1), (2, .int y4), (4, .int y5)]) B dX2_usedConversions_57 3 rfl rfl (by decide) rfl ?_
    refine z_goto B 4 dX2_usedConversions_60 (by decide) ?_
    refine zV.sub [1, 2, 3, 0] rfl ?_
    exact ih _ _ _ hf
set_option maxRecDepth 100000 in
set_option maxHeartbeats 4000000 in
theorem tX2_usedConversions {l : Launch} {G : zG} (hst : l.stackTraces = false) {h : zH} {a0 : Nat} {a1 : Nat} {r : Int32 × zH} (hf : fX2_usedConversions h a0 a1 = some r) : zMet l G yX2_usedConversions (.code yX2_usedConversions cX2_usedConversions 5 (some .int)) rm_X2_usedConversions 0 0 [.ref a0, .ref a1] h (zoi r) := by
  unfold fX2_usedConversions at hf
  obtain ⟨-, hf⟩ := zck hf
  refine z_enter (by decide) (Nat.le_of_ble_eq_true rfl) hst (fun x hx B hE => ?_)
  subst hx
  have B : zB G x cX2_usedConversions 5 RX2 "usedConversions" rm_X2_usedConversions (some .int) := B
  show zV G x 5 (zQ G x (zoi r) 0 0) h 0 0 0 [(0, .ref a0), (1, .ref a1)] []
  refine z_iconst (v := 0) B dX2_usedConversions_0 (by decide) ?_
  refine z_istore_n (lv' := [(2, .int 0), (0, .ref a0), (1, .ref a1)]) B dX2_usedConversions_1 rfl (by decide) rfl ?_
  refine z_iconst (v := 0) B dX2_usedConversions_2 (by decide) ?_
  refine z_istore_n (lv' := [(3, .int 0), (2, .int 0), (0, .ref a0), (1, .ref a1)]) B dX2_usedConversions_3 rfl (by decide) rfl ?_
  refine zV.sub [2, 3, 1, 0] rfl ?_
  refine fX2_usedConversions_L4_ok B hst hE (fun h1 y2 y3 hf => ?_) _ _ _ _ hf
  refine z_iload_n B dX2_usedConversions_63 rfl 2 rfl ?_
  cases hf
  exact z_iret B dX2_usedConversions_64 (Nat.le_of_ble_eq_true rfl) (Nat.le_of_ble_eq_true rfl)
abbrev rm_X6_idle : Room := { frames := 1, cells := 0, slots := 0, locals := 24 }
set_option maxRecDepth 100000 in
set_option maxHeartbeats 4000000 in
theorem tX6_idle {l : Launch} {G : zG} (hst : l.stackTraces = false) {h : zH} {a0 : Nat} {r : Int32 × zH} (hf : fX6_idle h a0 = some r) : zMet l G yX6_idle (.code yX6_idle cX6_idle 2 (some .int)) rm_X6_idle 0 0 [.ref a0] h (zoi r) := by
  unfold fX6_idle at hf
  obtain ⟨-, hf⟩ := zck hf
  refine z_enter (by decide) (Nat.le_of_ble_eq_true rfl) hst (fun x hx B hE => ?_)
  subst hx
  have B : zB G x cX6_idle 2 RX6 "idle" rm_X6_idle (some .int) := B
  show zV G x 2 (zQ G x (zoi r) 0 0) h 0 0 0 [(0, .ref a0)] []
  refine z_iconst (v := 1) B dX6_idle_0 (by decide) ?_
  refine z_aload_n B dX6_idle_1 rfl 0 rfl ?_
  obtain ⟨w1, ew1, hf⟩ := zbs hf
  refine z_gP B fl_RX6_57 ew1 rfl dX6_idle_2 ?_
  obtain ⟨w2, ew2, hf⟩ := zbs hf
  refine z_gI B fl_RX6_97 ew2 rfl dX6_idle_5 ?_
  refine z_ishl B dX6_idle_8 ?_
  refine z_iconst (v := 1) B dX6_idle_9 (by decide) ?_
  refine z_isub B dX6_idle_10 ?_
  refine z_istore_n (lv' := [(1, .int ((((1 : Int32) <<< (w2 &&& 31)) : Int32) - 1)), (0, .ref a0)]) B dX6_idle_11 rfl (by decide) rfl ?_
  refine z_iload_n B dX6_idle_12 rfl 0 rfl ?_
  refine z_aload_n B dX6_idle_13 rfl 1 rfl ?_
  obtain ⟨w3, ew3, hf⟩ := zbs hf
  refine z_gP B fl_RX6_19 ew3 rfl dX6_idle_14 ?_
  refine z_aload_n B dX6_idle_17 rfl 1 rfl ?_
  obtain ⟨w4, ew4, hf⟩ := zbs hf
  refine z_gP B fl_RX6_57 ew4 rfl dX6_idle_18 ?_
  obtain ⟨w5, h6, ew5, hf⟩ := zb2s hf
  refine z_callVi B [.ref w4] [.int ((((1 : Int32) <<< (w2 &&& 31)) : Int32) - 1)] cw_X2_usedConversions mv_RX6_311 (tX2_usedConversions hst ew5) rfl (by decide) (kfX2_usedConversions ew5) ⟨rfl, rfl, (Nat.le_of_ble_eq_true rfl), (Nat.le_of_ble_eq_true rfl), (Nat.le_of_ble_eq_true rfl), (Nat.le_of_ble_eq_true rfl)⟩ rfl rfl (Nat.le_of_ble_eq_true rfl) dX6_idle_21 ?_
  refine z_iconst (v := (-1)) B dX6_idle_24 (by decide) ?_
  refine z_ixor B dX6_idle_25 ?_
  refine z_iand B dX6_idle_26 ?_
  cases hf
  exact z_iret B dX6_idle_27 (Nat.le_of_ble_eq_true rfl) (Nat.le_of_ble_eq_true rfl)
abbrev rm_X2_passes : Room := { frames := 2, cells := 0, slots := 0, locals := 49 }
set_option maxRecDepth 100000 in
set_option maxHeartbeats 4000000 in
theorem fX2_passes_L3_ok {G : zG} {x : zX} (B : zB G x cX2_passes 6 RX2 "passes" rm_X2_passes (some .boolean)) (hst : (zl x).stackTraces = false) (hE : ∀ e ∈ (zc x).exceptionTable.toList, False) {r : Int32 × zH} {k : zH → Int32 → Option (Int32 × zH)} {u0 : Nat} {u1 : Int32} {u2 : Int32} {u3 : Int32} {u4 : Nat} (hk : ∀ h v5, k h v5 = some r → zV G x 6 (zQ G x (zoi r) 0 0) h 0 0 32 [(0, .ref u0), (1, .int u1), (2, .int u2), (3, .int u3), (4, .ref u4), (5, .int v5)] []) : ∀ n h v5, fX2_passes_L3 k u0 u1 u2 u3 u4 n h v5 = some r → zV G x 6 (zQ G x (zoi r) 0 0) h 0 0 3 [(0, .ref u0), (1, .int u1), (2, .int u2), (3, .int u3), (4, .ref u4), (5, .int v5)] [] := by
  intro n
  induction n with
  | zero =>
    intro h v5 hf
    have hf : (none : Option (Int32 × zH)) = some r := hf
    cases hf
  | succ n ih =>
    intro h v5 hf
    rw [fX2_passes_L3] at hf
    refine z_iload B dX2_passes_3 5 rfl ?_
    refine z_bipush (v := 8) B dX2_passes_5 (by decide) ?_
    rcases zite hf with ⟨c1, hf⟩ | ⟨c1, hf⟩
    · refine z_icmp_ge B 32 dX2_passes_7 (by decide) (fun _ => ?_) (fun e => absurd c1 e)
      exact hk _ _ hf
    refine z_icmp_ge B 32 dX2_passes_7 (by decide) (fun e => absurd e c1) (fun _ => ?_)
    refine z_aload_n B dX2_passes_10 rfl 0 rfl ?_
    refine z_iload_n B dX2_passes_11 rfl 1 rfl ?_
    refine z_iload_n B dX2_passes_12 rfl 2 rfl ?_
    refine z_iload B dX2_passes_13 5 rfl ?_
    refine z_aload B dX2_passes_15 4 rfl ?_
    obtain ⟨w2, h3, ew2, hf⟩ := zb2s hf
    refine z_callVi B [.int u1, .int u2, .int v5, .ref u4] [] cw_X2_formatAt mv_RX2_68 (tX2_formatAt hst ew2) rfl (by decide) (kfX2_formatAt ew2) ⟨rfl, rfl, (Nat.le_of_ble_eq_true rfl), (Nat.le_of_ble_eq_true rfl), (Nat.le_of_ble_eq_true rfl), (Nat.le_of_ble_eq_true rfl)⟩ rfl rfl (Nat.le_of_ble_eq_true rfl) dX2_passes_17 ?_
    refine z_iload_n B dX2_passes_20 rfl 3 rfl ?_
    rcases zite hf with ⟨c4, hf⟩ | ⟨c4, hf⟩
    · refine z_icmp_ne B 26 dX2_passes_21 (by decide) (fun e => absurd c4 e) (fun _ => ?_)
      refine z_iconst (v := 1) B dX2_passes_24 (by decide) ?_
      cases hf
      exact z_zret B dX2_passes_25 (Or.inr rfl) (Nat.le_of_ble_eq_true rfl) (Nat.le_of_ble_eq_true rfl)
    refine z_icmp_ne B 26 dX2_passes_21 (by decide) (fun _ => ?_) (fun e => absurd e c4)
    refine z_iinc (v' := (v5 + 1)) (lv' := [(5, .int (v5 + 1)), (0, .ref u0), (1, .int u1), (2, .int u2), (3, .int u3), (4, .ref u4)]) B dX2_passes_26 5 rfl rfl (by decide) rfl ?_
    refine z_goto B 3 dX2_passes_29 (by decide) ?_
    refine zV.sub [1, 2, 3, 4, 5, 0] rfl ?_
    exact ih _ _ hf
set_option maxRecDepth 100000 in
set_option maxHeartbeats 4000000 in
theorem tX2_passes {l : Launch} {G : zG} (hst : l.stackTraces = false) {h : zH} {a0 : Nat} {a1 : Int32} {a2 : Int32} {a3 : Int32} {a4 : Nat} {r : Int32 × zH} (hf : fX2_passes h a0 a1 a2 a3 a4 = some r) : zMet l G yX2_passes (.code yX2_passes cX2_passes 6 (some .boolean)) rm_X2_passes 0 0 [.ref a0, .int a1, .int a2, .int a3, .ref a4] h (zoi r) := by
  unfold fX2_passes at hf
  obtain ⟨-, hf⟩ := zck hf
  refine z_enter (by decide) (Nat.le_of_ble_eq_true rfl) hst (fun x hx B hE => ?_)
  subst hx
  have B : zB G x cX2_passes 6 RX2 "passes" rm_X2_passes (some .boolean) := B
  show zV G x 6 (zQ G x (zoi r) 0 0) h 0 0 0 [(0, .ref a0), (1, .int a1), (2, .int a2), (3, .int a3), (4, .ref a4)] []
  refine z_iconst (v := 0) B dX2_passes_0 (by decide) ?_
  refine z_istore (lv' := [(5, .int 0), (0, .ref a0), (1, .int a1), (2, .int a2), (3, .int a3), (4, .ref a4)]) B dX2_passes_1 (by decide) rfl ?_
  refine zV.sub [1, 2, 3, 4, 5, 0] rfl ?_
  refine fX2_passes_L3_ok B hst hE (fun h1 y2 hf => ?_) _ _ _ hf
  refine z_iconst (v := 0) B dX2_passes_32 (by decide) ?_
  cases hf
  exact z_zret B dX2_passes_33 (Or.inl rfl) (Nat.le_of_ble_eq_true rfl) (Nat.le_of_ble_eq_true rfl)
abbrev rm_X6_between : Room := { frames := 7, cells := 1, slots := 6, locals := 103 }
set_option maxRecDepth 100000 in
set_option maxHeartbeats 4000000 in
theorem fX6_between_L23_ok {G : zG} {x : zX} (B : zB G x cX6_between 5 RX6 "between" rm_X6_between (some .int)) (hst : (zl x).stackTraces = false) (hE : ∀ e ∈ (zc x).exceptionTable.toList, False) {r : (Int32 ⊕ String) × zH} {k : zH → Int32 → Int32 → Option ((Int32 ⊕ String) × zH)} {u0 : Nat} {u1 : Int32} {u3 : Int32} (hk : ∀ h v2 v4, k h v2 v4 = some r → zV G x 5 (zQ G x (zoxi r) 1 6) h 1 6 79 [(0, .ref u0), (1, .int u1), (2, .int v2), (3, .int u3), (4, .int v4)] []) : ∀ n h v2 v4, fX6_between_L23 k u0 u1 u3 n h v2 v4 = some r → zV G x 5 (zQ G x (zoxi r) 1 6) h 1 6 23 [(0, .ref u0), (1, .int u1), (2, .int v2), (3, .int u3), (4, .int v4)] [] := by
  intro n
  induction n with
  | zero =>
    intro h v2 v4 hf
    have hf : (none : Option ((Int32 ⊕ String) × zH)) = some r := hf
    cases hf
  | succ n ih =>
    intro h v2 v4 hf
    rw [fX6_between_L23] at hf
    refine z_iload B dX6_between_23 4 rfl ?_
    refine z_aload_n B dX6_between_25 rfl 0 rfl ?_
    obtain ⟨w1, ew1, hf⟩ := zbs hf
    refine z_gP B fl_RX6_57 ew1 rfl dX6_between_26 ?_
    obtain ⟨w2, ew2, hf⟩ := zbs hf
    refine z_gI B fl_RX6_100 ew2 rfl dX6_between_29 ?_
    rcases zite hf with ⟨c3, hf⟩ | ⟨c3, hf⟩
    · refine z_icmp_ge B 79 dX6_between_32 (by decide) (fun _ => ?_) (fun e => absurd c3 e)
      exact hk _ _ _ hf
    refine z_icmp_ge B 79 dX6_between_32 (by decide) (fun e => absurd e c3) (fun _ => ?_)
    refine z_iload_n B dX6_between_35 rfl 3 rfl ?_
    refine z_iload B dX6_between_36 4 rfl ?_
    rcases zite hf with ⟨c4, hf⟩ | ⟨c4, hf⟩
    · refine z_icmp_eq B 73 dX6_between_38 (by decide) (fun _ => ?_) (fun e => absurd c4 e)
      refine z_iinc (v' := (v4 + 1)) (lv' := [(4, .int (v4 + 1)), (0, .ref u0), (1, .int u1), (2, .int v2), (3, .int u3)]) B dX6_between_73 4 rfl rfl (by decide) rfl ?_
      refine z_goto B 23 dX6_between_76 (by decide) ?_
      refine zV.sub [1, 2, 3, 4, 0] rfl ?_
      exact ih _ _ _ hf
    refine z_icmp_eq B 73 dX6_between_38 (by decide) (fun e => absurd e c4) (fun _ => ?_)
    refine z_iload_n B dX6_between_41 rfl 3 rfl ?_
    refine z_iload_n B dX6_between_42 rfl 1 rfl ?_
    rcases zite hf with ⟨c5, hf⟩ | ⟨c5, hf⟩
    · refine z_icmp_eq B 73 dX6_between_43 (by decide) (fun _ => ?_) (fun e => absurd c5 e)
      refine z_iinc (v' := (v4 + 1)) (lv' := [(4, .int (v4 + 1)), (0, .ref u0), (1, .int u1), (2, .int v2), (3, .int u3)]) B dX6_between_73 4 rfl rfl (by decide) rfl ?_
      refine z_goto B 23 dX6_between_76 (by decide) ?_
      refine zV.sub [1, 2, 3, 4, 0] rfl ?_
      exact ih _ _ _ hf
    refine z_icmp_eq B 73 dX6_between_43 (by decide) (fun e => absurd e c5) (fun _ => ?_)
    refine z_iload B dX6_between_46 4 rfl ?_
    refine z_iload_n B dX6_between_48 rfl 1 rfl ?_
    rcases zite hf with ⟨c6, hf⟩ | ⟨c6, hf⟩
    · refine z_icmp_eq B 73 dX6_between_49 (by decide) (fun _ => ?_) (fun e => absurd c6 e)
      refine z_iinc (v' := (v4 + 1)) (lv' := [(4, .int (v4 + 1)), (0, .ref u0), (1, .int u1), (2, .int v2), (3, .int u3)]) B dX6_between_73 4 rfl rfl (by decide) rfl ?_
      refine z_goto B 23 dX6_between_76 (by decide) ?_
      refine zV.sub [1, 2, 3, 4, 0] rfl ?_
      exact ih _ _ _ hf
    refine z_icmp_eq B 73 dX6_between_49 (by decide) (fun e => absurd e c6) (fun _ => ?_)
    refine z_aload_n B dX6_between_52 rfl 0 rfl ?_
    obtain ⟨w7, ew7, hf⟩ := zbs hf
    refine z_gP B fl_RX6_19 ew7 rfl dX6_between_53 ?_
    refine z_iload_n B dX6_between_56 rfl 3 rfl ?_
    refine z_iload B dX6_between_57 4 rfl ?_
    refine z_iload_n B dX6_between_59 rfl 1 rfl ?_
    refine z_aload_n B dX6_between_60 rfl 0 rfl ?_
    obtain ⟨w8, ew8, hf⟩ := zbs hf
    refine z_gP B fl_RX6_57 ew8 rfl dX6_between_61 ?_
    obtain ⟨w9, h10, ew9, hf⟩ := zb2s hf
    refine z_callVi B [.int u3, .int v4, .int u1, .ref w8] [] cw_X2_passes mv_RX6_314 (tX2_passes hst ew9) rfl (by decide) (kfX2_passes ew9) ⟨rfl, rfl, (Nat.le_of_ble_eq_true rfl), (Nat.le_of_ble_eq_true rfl), (Nat.le_of_ble_eq_true rfl), (Nat.le_of_ble_eq_true rfl)⟩ rfl rfl (Nat.le_of_ble_eq_true rfl) dX6_between_64 ?_
    rcases zite hf with ⟨c11, hf⟩ | ⟨c11, hf⟩
    · refine z_if_eq B 73 dX6_between_67 (by decide) (fun _ => ?_) (fun e => absurd c11 e)
      refine z_iinc (v' := (v4 + 1)) (lv' := [(4, .int (v4 + 1)), (0, .ref u0), (1, .int u1), (2, .int v2), (3, .int u3)]) B dX6_between_73 4 rfl rfl (by decide) rfl ?_
      refine z_goto B 23 dX6_between_76 (by decide) ?_
      refine zV.sub [1, 2, 3, 4, 0] rfl ?_
      exact ih _ _ _ hf
    refine z_if_eq B 73 dX6_between_67 (by decide) (fun e => absurd e c11) (fun _ => ?_)
    refine z_iinc (v' := (v2 + 1)) (lv' := [(2, .int (v2 + 1)), (0, .ref u0), (1, .int u1), (3, .int u3), (4, .int v4)]) B dX6_between_70 2 rfl rfl (by decide) rfl ?_
    refine z_iinc (v' := (v4 + 1)) (lv' := [(4, .int (v4 + 1)), (2, .int (v2 + 1)), (0, .ref u0), (1, .int u1), (3, .int u3)]) B dX6_between_73 4 rfl rfl (by decide) rfl ?_
    refine z_goto B 23 dX6_between_76 (by decide) ?_
    refine zV.sub [2, 3, 1, 4, 0] rfl ?_
    exact ih _ _ _ hf
set_option maxRecDepth 100000 in
set_option maxHeartbeats 4000000 in
theorem fX6_between_L9_ok {G : zG} {x : zX} (B : zB G x cX6_between 5 RX6 "between" rm_X6_between (some .int)) (hst : (zl x).stackTraces = false) (hE : ∀ e ∈ (zc x).exceptionTable.toList, False) {r : (Int32 ⊕ String) × zH} {k : zH → Int32 → Int32 → Option ((Int32 ⊕ String) × zH)} {u0 : Nat} {u1 : Int32} (hk : ∀ h v2 v3, k h v2 v3 = some r → zV G x 5 (zQ G x (zoxi r) 1 6) h 1 6 85 [(0, .ref u0), (1, .int u1), (2, .int v2), (3, .int v3)] []) : ∀ n h v2 v3, fX6_between_L9 k u0 u1 n h v2 v3 = some r → zV G x 5 (zQ G x (zoxi r) 1 6) h 1 6 9 [(0, .ref u0), (1, .int u1), (2, .int v2), (3, .int v3)] [] := by
  intro n
  induction n with
  | zero =>
    intro h v2 v3 hf
    have hf : (none : Option ((Int32 ⊕ String) × zH)) = some r := hf
    cases hf
  | succ n ih =>
    intro h v2 v3 hf
    rw [fX6_between_L9] at hf
    refine z_iload_n B dX6_between_9 rfl 3 rfl ?_
    refine z_aload_n B dX6_between_10 rfl 0 rfl ?_
    obtain ⟨w1, ew1, hf⟩ := zbs hf
    refine z_gP B fl_RX6_57 ew1 rfl dX6_between_11 ?_
    obtain ⟨w2, ew2, hf⟩ := zbs hf
    refine z_gI B fl_RX6_100 ew2 rfl dX6_between_14 ?_
    rcases zite hf with ⟨c3, hf⟩ | ⟨c3, hf⟩
    · refine z_icmp_ge B 85 dX6_between_17 (by decide) (fun _ => ?_) (fun e => absurd c3 e)
      exact hk _ _ _ hf
    refine z_icmp_ge B 85 dX6_between_17 (by decide) (fun e => absurd e c3) (fun _ => ?_)
    refine z_iconst (v := 0) B dX6_between_20 (by decide) ?_
    refine z_istore (lv' := [(4, .int 0), (0, .ref u0), (1, .int u1), (2, .int v2), (3, .int v3)]) B dX6_between_21 (by decide) rfl ?_
    refine zV.sub [1, 2, 3, 4, 0] rfl ?_
    refine fX6_between_L23_ok B hst hE (fun h4 y5 y6 hf => ?_) _ _ _ _ hf
    refine z_iinc (v' := (v3 + 1)) (lv' := [(3, .int (v3 + 1)), (0, .ref u0), (1, .int u1), (2, .int y5), (4, .int y6)]) B dX6_between_79 3 rfl rfl (by decide) rfl ?_
    refine z_goto B 9 dX6_between_82 (by decide) ?_
    refine zV.sub [1, 2, 3, 0] rfl ?_
    exact ih _ _ _ hf
set_option maxRecDepth 100000 in
set_option maxHeartbeats 4000000 in
theorem tX6_between {l : Launch} {G : zG} (hst : l.stackTraces = false) {h : zH} {a0 : Nat} {a1 : Int32} {r : (Int32 ⊕ String) × zH} (hf : fX6_between h a0 a1 = some r) : zMet l G yX6_between (.code yX6_between cX6_between 5 (some .int)) rm_X6_between 1 6 [.ref a0, .int a1] h (zoxi r) := by
  unfold fX6_between at hf
  obtain ⟨-, hf⟩ := zck hf
  refine z_enter (by decide) (Nat.le_of_ble_eq_true rfl) hst (fun x hx B hE => ?_)
  subst hx
  have B : zB G x cX6_between 5 RX6 "between" rm_X6_between (some .int) := B
  show zV G x 5 (zQ G x (zoxi r) 1 6) h 0 0 0 [(0, .ref a0), (1, .int a1)] []
  refine z_aload_n B dX6_between_0 rfl 0 rfl ?_
  refine z_iload_n B dX6_between_1 rfl 1 rfl ?_
  rcases zb4s hf with ⟨E2, h1, eh1, rfl⟩ | ⟨h1, eh1, hf⟩
  · exact z_callVX B hE [.int a1] [] cw_X6_requireFormat mv_RX6_190 (tX6_requireFormat hst eh1) rfl (by decide) (kfX6_requireFormat eh1) ⟨rfl, rfl, (Nat.le_of_ble_eq_true rfl), (Nat.le_of_ble_eq_true rfl), (Nat.le_of_ble_eq_true rfl), (Nat.le_of_ble_eq_true rfl)⟩ rfl rfl (Nat.le_of_ble_eq_true rfl) dX6_between_2 (Nat.le_of_ble_eq_true rfl) (Nat.le_of_ble_eq_true rfl)
  refine z_callVv B [.int a1] [] cw_X6_requireFormat mv_RX6_190 (tX6_requireFormat hst eh1) rfl (by decide) (kfX6_requireFormat eh1) ⟨rfl, rfl, (Nat.le_of_ble_eq_true rfl), (Nat.le_of_ble_eq_true rfl), (Nat.le_of_ble_eq_true rfl), (Nat.le_of_ble_eq_true rfl)⟩ rfl rfl (Nat.le_of_ble_eq_true rfl) dX6_between_2 ?_
  refine z_iconst (v := 0) B dX6_between_5 (by decide) ?_
  refine z_istore_n (lv' := [(2, .int 0), (0, .ref a0), (1, .int a1)]) B dX6_between_6 rfl (by decide) rfl ?_
  refine z_iconst (v := 0) B dX6_between_7 (by decide) ?_
  refine z_istore_n (lv' := [(3, .int 0), (2, .int 0), (0, .ref a0), (1, .int a1)]) B dX6_between_8 rfl (by decide) rfl ?_
  refine zV.sub [2, 3, 1, 0] rfl ?_
  refine fX6_between_L9_ok B hst hE (fun h3 y4 y5 hf => ?_) _ _ _ _ hf
  refine z_iload_n B dX6_between_85 rfl 2 rfl ?_
  cases hf
  exact z_iret B dX6_between_86 (Nat.le_of_ble_eq_true rfl) (Nat.le_of_ble_eq_true rfl)
