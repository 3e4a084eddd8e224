theorem dX7_remove_0 : zD cX7_remove 0 (.aload_n 0) 1 1 := ⟨by decide +kernel, rfl⟩
theorem dX7_remove_1 : zD cX7_remove 1 (.aload_n 0) 1 2 := ⟨by decide +kernel, rfl⟩
theorem dX7_remove_2 : zD cX7_remove 2 (.getfield 56) 3 5 := ⟨by decide +kernel, rfl⟩
theorem dX7_remove_5 : zD cX7_remove 5 (.iload_n 1) 1 6 := ⟨by decide +kernel, rfl⟩
theorem dX7_remove_6 : zD cX7_remove 6 (.invokestatic 204) 3 9 := ⟨by decide +kernel, rfl⟩
theorem dX7_remove_9 : zD cX7_remove 9 (.ifCond .eq 7) 3 12 := ⟨by decide +kernel, rfl⟩
theorem dX7_remove_12 : zD cX7_remove 12 (.iconst 0) 1 13 := ⟨by decide +kernel, rfl⟩
theorem dX7_remove_13 : zD cX7_remove 13 (.goto 4) 3 16 := ⟨by decide +kernel, rfl⟩
theorem dX7_remove_16 : zD cX7_remove 16 (.iconst 1) 1 17 := ⟨by decide +kernel, rfl⟩
theorem dX7_remove_17 : zD cX7_remove 17 (.invokevirtual 112) 3 20 := ⟨by decide +kernel, rfl⟩
theorem dX7_remove_20 : zD cX7_remove 20 (.ifCond .eq 5) 3 23 := ⟨by decide +kernel, rfl⟩
theorem dX7_remove_23 : zD cX7_remove 23 (.iconst 0) 1 24 := ⟨by decide +kernel, rfl⟩
theorem dX7_remove_24 : zD cX7_remove 24 (.ireturn) 1 25 := ⟨by decide +kernel, rfl⟩
theorem dX7_remove_25 : zD cX7_remove 25 (.aload_n 0) 1 26 := ⟨by decide +kernel, rfl⟩
theorem dX7_remove_26 : zD cX7_remove 26 (.invokevirtual 94) 3 29 := ⟨by decide +kernel, rfl⟩
theorem dX7_remove_29 : zD cX7_remove 29 (.aload_n 0) 1 30 := ⟨by decide +kernel, rfl⟩
theorem dX7_remove_30 : zD cX7_remove 30 (.getfield 56) 3 33 := ⟨by decide +kernel, rfl⟩
theorem dX7_remove_33 : zD cX7_remove 33 (.iload_n 1) 1 34 := ⟨by decide +kernel, rfl⟩
theorem dX7_remove_34 : zD cX7_remove 34 (.invokestatic 166) 3 37 := ⟨by decide +kernel, rfl⟩
theorem dX7_remove_37 : zD cX7_remove 37 (.istore_n 2) 1 38 := ⟨by decide +kernel, rfl⟩
theorem dX7_remove_38 : zD cX7_remove 38 (.aload_n 0) 1 39 := ⟨by decide +kernel, rfl⟩
theorem dX7_remove_39 : zD cX7_remove 39 (.getfield 56) 3 42 := ⟨by decide +kernel, rfl⟩
theorem dX7_remove_42 : zD cX7_remove 42 (.iload_n 1) 1 43 := ⟨by decide +kernel, rfl⟩
theorem dX7_remove_43 : zD cX7_remove 43 (.invokestatic 190) 3 46 := ⟨by decide +kernel, rfl⟩
theorem dX7_remove_46 : zD cX7_remove 46 (.iload_n 2) 1 47 := ⟨by decide +kernel, rfl⟩
theorem dX7_remove_47 : zD cX7_remove 47 (.ireturn) 1 48 := ⟨by decide +kernel, rfl⟩
theorem dX7_setBudget_0 : zD cX7_setBudget 0 (.aload_n 0) 1 1 := ⟨by decide +kernel, rfl⟩
theorem dX7_setBudget_1 : zD cX7_setBudget 1 (.iload_n 1) 1 2 := ⟨by decide +kernel, rfl⟩
theorem dX7_setBudget_2 : zD cX7_setBudget 2 (.i2l) 1 3 := ⟨by decide +kernel, rfl⟩
theorem dX7_setBudget_3 : zD cX7_setBudget 3 (.lconst 1) 1 4 := ⟨by decide +kernel, rfl⟩
theorem dX7_setBudget_4 : zD cX7_setBudget 4 (.ldc2_w 265) 3 7 := ⟨by decide +kernel, rfl⟩
theorem dX7_setBudget_7 : zD cX7_setBudget 7 (.invokestatic 97) 3 10 := ⟨by decide +kernel, rfl⟩
theorem dX7_setBudget_10 : zD cX7_setBudget 10 (.ifCond .eq 7) 3 13 := ⟨by decide +kernel, rfl⟩
theorem dX7_setBudget_13 : zD cX7_setBudget 13 (.iconst 0) 1 14 := ⟨by decide +kernel, rfl⟩
theorem dX7_setBudget_14 : zD cX7_setBudget 14 (.goto 4) 3 17 := ⟨by decide +kernel, rfl⟩
theorem dX7_setBudget_17 : zD cX7_setBudget 17 (.iconst 1) 1 18 := ⟨by decide +kernel, rfl⟩
theorem dX7_setBudget_18 : zD cX7_setBudget 18 (.invokevirtual 112) 3 21 := ⟨by decide +kernel, rfl⟩
theorem dX7_setBudget_21 : zD cX7_setBudget 21 (.ifCond .eq 5) 3 24 := ⟨by decide +kernel, rfl⟩
theorem dX7_setBudget_24 : zD cX7_setBudget 24 (.iconst 0) 1 25 := ⟨by decide +kernel, rfl⟩
theorem dX7_setBudget_25 : zD cX7_setBudget 25 (.ireturn) 1 26 := ⟨by decide +kernel, rfl⟩
theorem dX7_setBudget_26 : zD cX7_setBudget 26 (.aload_n 0) 1 27 := ⟨by decide +kernel, rfl⟩
theorem dX7_setBudget_27 : zD cX7_setBudget 27 (.invokevirtual 247) 3 30 := ⟨by decide +kernel, rfl⟩
theorem dX7_setBudget_30 : zD cX7_setBudget 30 (.aload_n 0) 1 31 := ⟨by decide +kernel, rfl⟩
theorem dX7_setBudget_31 : zD cX7_setBudget 31 (.getfield 59) 3 34 := ⟨by decide +kernel, rfl⟩
theorem dX7_setBudget_34 : zD cX7_setBudget 34 (.iconst 3) 1 35 := ⟨by decide +kernel, rfl⟩
theorem dX7_setBudget_35 : zD cX7_setBudget 35 (.iload_n 1) 1 36 := ⟨by decide +kernel, rfl⟩
theorem dX7_setBudget_36 : zD cX7_setBudget 36 (.iastore) 1 37 := ⟨by decide +kernel, rfl⟩
theorem dX7_setBudget_37 : zD cX7_setBudget 37 (.aload_n 0) 1 38 := ⟨by decide +kernel, rfl⟩
theorem dX7_setBudget_38 : zD cX7_setBudget 38 (.aload_n 0) 1 39 := ⟨by decide +kernel, rfl⟩
theorem dX7_setBudget_39 : zD cX7_setBudget 39 (.getfield 59) 3 42 := ⟨by decide +kernel, rfl⟩
theorem dX7_setBudget_42 : zD cX7_setBudget 42 (.iconst 0) 1 43 := ⟨by decide +kernel, rfl⟩
theorem dX7_setBudget_43 : zD cX7_setBudget 43 (.bipush (-9)) 2 45 := ⟨by decide +kernel, rfl⟩
theorem dX7_setBudget_45 : zD cX7_setBudget 45 (.iconst 1) 1 46 := ⟨by decide +kernel, rfl⟩
theorem dX7_setBudget_46 : zD cX7_setBudget 46 (.invokestatic 219) 3 49 := ⟨by decide +kernel, rfl⟩
theorem dX7_setBudget_49 : zD cX7_setBudget 49 (.ifCond .eq 7) 3 52 := ⟨by decide +kernel, rfl⟩
theorem dX7_setBudget_52 : zD cX7_setBudget 52 (.iconst 0) 1 53 := ⟨by decide +kernel, rfl⟩
theorem dX7_setBudget_53 : zD cX7_setBudget 53 (.goto 4) 3 56 := ⟨by decide +kernel, rfl⟩
theorem dX7_setBudget_56 : zD cX7_setBudget 56 (.iconst 2) 1 57 := ⟨by decide +kernel, rfl⟩
theorem dX7_setBudget_57 : zD cX7_setBudget 57 (.invokevirtual 112) 3 60 := ⟨by decide +kernel, rfl⟩
theorem dX7_setBudget_60 : zD cX7_setBudget 60 (.ifCond .eq 5) 3 63 := ⟨by decide +kernel, rfl⟩
theorem dX7_setBudget_63 : zD cX7_setBudget 63 (.iconst 0) 1 64 := ⟨by decide +kernel, rfl⟩
theorem dX7_setBudget_64 : zD cX7_setBudget 64 (.ireturn) 1 65 := ⟨by decide +kernel, rfl⟩
theorem dX7_setBudget_65 : zD cX7_setBudget 65 (.aload_n 0) 1 66 := ⟨by decide +kernel, rfl⟩
theorem dX7_setBudget_66 : zD cX7_setBudget 66 (.invokevirtual 253) 3 69 := ⟨by decide +kernel, rfl⟩
theorem dX7_setBudget_69 : zD cX7_setBudget 69 (.aload_n 0) 1 70 := ⟨by decide +kernel, rfl⟩
theorem dX7_setBudget_70 : zD cX7_setBudget 70 (.getfield 56) 3 73 := ⟨by decide +kernel, rfl⟩
theorem dX7_setBudget_73 : zD cX7_setBudget 73 (.invokestatic 176) 3 76 := ⟨by decide +kernel, rfl⟩
theorem dX7_setBudget_76 : zD cX7_setBudget 76 (.ireturn) 1 77 := ⟨by decide +kernel, rfl⟩
theorem dX7_setCost_0 : zD cX7_setCost 0 (.aload_n 0) 1 1 := ⟨by decide +kernel, rfl⟩
theorem dX7_setCost_1 : zD cX7_setCost 1 (.aload_n 0) 1 2 := ⟨by decide +kernel, rfl⟩
theorem dX7_setCost_2 : zD cX7_setCost 2 (.iload_n 1) 1 3 := ⟨by decide +kernel, rfl⟩
theorem dX7_setCost_3 : zD cX7_setCost 3 (.invokevirtual 196) 3 6 := ⟨by decide +kernel, rfl⟩
theorem dX7_setCost_6 : zD cX7_setCost 6 (.ifCond .ne 7) 3 9 := ⟨by decide +kernel, rfl⟩
theorem dX7_setCost_9 : zD cX7_setCost 9 (.iconst 1) 1 10 := ⟨by decide +kernel, rfl⟩
theorem dX7_setCost_10 : zD cX7_setCost 10 (.goto 20) 3 13 := ⟨by decide +kernel, rfl⟩
theorem dX7_setCost_13 : zD cX7_setCost 13 (.iload_n 2) 1 14 := ⟨by decide +kernel, rfl⟩
theorem dX7_setCost_14 : zD cX7_setCost 14 (.i2l) 1 15 := ⟨by decide +kernel, rfl⟩
theorem dX7_setCost_15 : zD cX7_setCost 15 (.lconst 1) 1 16 := ⟨by decide +kernel, rfl⟩
theorem dX7_setCost_16 : zD cX7_setCost 16 (.ldc2_w 267) 3 19 := ⟨by decide +kernel, rfl⟩
theorem dX7_setCost_19 : zD cX7_setCost 19 (.invokestatic 97) 3 22 := ⟨by decide +kernel, rfl⟩
theorem dX7_setCost_22 : zD cX7_setCost 22 (.ifCond .ne 7) 3 25 := ⟨by decide +kernel, rfl⟩
theorem dX7_setCost_25 : zD cX7_setCost 25 (.iconst 2) 1 26 := ⟨by decide +kernel, rfl⟩
theorem dX7_setCost_26 : zD cX7_setCost 26 (.goto 4) 3 29 := ⟨by decide +kernel, rfl⟩
theorem dX7_setCost_29 : zD cX7_setCost 29 (.iconst 0) 1 30 := ⟨by decide +kernel, rfl⟩
theorem dX7_setCost_30 : zD cX7_setCost 30 (.invokevirtual 112) 3 33 := ⟨by decide +kernel, rfl⟩
theorem dX7_setCost_33 : zD cX7_setCost 33 (.ifCond .eq 5) 3 36 := ⟨by decide +kernel, rfl⟩
theorem dX7_setCost_36 : zD cX7_setCost 36 (.iconst 0) 1 37 := ⟨by decide +kernel, rfl⟩
theorem dX7_setCost_37 : zD cX7_setCost 37 (.ireturn) 1 38 := ⟨by decide +kernel, rfl⟩
theorem dX7_setCost_38 : zD cX7_setCost 38 (.aload_n 0) 1 39 := ⟨by decide +kernel, rfl⟩
theorem dX7_setCost_39 : zD cX7_setCost 39 (.invokevirtual 94) 3 42 := ⟨by decide +kernel, rfl⟩
theorem dX7_setCost_42 : zD cX7_setCost 42 (.aload_n 0) 1 43 := ⟨by decide +kernel, rfl⟩
theorem dX7_setCost_43 : zD cX7_setCost 43 (.getfield 56) 3 46 := ⟨by decide +kernel, rfl⟩
theorem dX7_setCost_46 : zD cX7_setCost 46 (.iconst 4) 1 47 := ⟨by decide +kernel, rfl⟩
theorem dX7_setCost_47 : zD cX7_setCost 47 (.iload_n 1) 1 48 := ⟨by decide +kernel, rfl⟩
theorem dX7_setCost_48 : zD cX7_setCost 48 (.iadd) 1 49 := ⟨by decide +kernel, rfl⟩
theorem dX7_setCost_49 : zD cX7_setCost 49 (.iaload) 1 50 := ⟨by decide +kernel, rfl⟩
theorem dX7_setCost_50 : zD cX7_setCost 50 (.istore_n 3) 1 51 := ⟨by decide +kernel, rfl⟩
theorem dX7_setCost_51 : zD cX7_setCost 51 (.aload_n 0) 1 52 := ⟨by decide +kernel, rfl⟩
theorem dX7_setCost_52 : zD cX7_setCost 52 (.getfield 56) 3 55 := ⟨by decide +kernel, rfl⟩
theorem dX7_setCost_55 : zD cX7_setCost 55 (.iconst 4) 1 56 := ⟨by decide +kernel, rfl⟩
theorem dX7_setCost_56 : zD cX7_setCost 56 (.iload_n 1) 1 57 := ⟨by decide +kernel, rfl⟩
theorem dX7_setCost_57 : zD cX7_setCost 57 (.iadd) 1 58 := ⟨by decide +kernel, rfl⟩
theorem dX7_setCost_58 : zD cX7_setCost 58 (.iload_n 2) 1 59 := ⟨by decide +kernel, rfl⟩
theorem dX7_setCost_59 : zD cX7_setCost 59 (.iastore) 1 60 := ⟨by decide +kernel, rfl⟩
theorem dX7_setCost_60 : zD cX7_setCost 60 (.iload_n 3) 1 61 := ⟨by decide +kernel, rfl⟩
theorem dX7_setCost_61 : zD cX7_setCost 61 (.ireturn) 1 62 := ⟨by decide +kernel, rfl⟩
theorem dX7_undo_0 : zD cX7_undo 0 (.aload_n 0) 1 1 := ⟨by decide +kernel, rfl⟩
theorem dX7_undo_1 : zD cX7_undo 1 (.aload_n 0) 1 2 := ⟨by decide +kernel, rfl⟩
theorem dX7_undo_2 : zD cX7_undo 2 (.getfield 87) 3 5 := ⟨by decide +kernel, rfl⟩
theorem dX7_undo_5 : zD cX7_undo 5 (.ifCond .ne 7) 3 8 := ⟨by decide +kernel, rfl⟩
theorem dX7_undo_8 : zD cX7_undo 8 (.iconst 1) 1 9 := ⟨by decide +kernel, rfl⟩
theorem dX7_undo_9 : zD cX7_undo 9 (.goto 4) 3 12 := ⟨by decide +kernel, rfl⟩
theorem dX7_undo_12 : zD cX7_undo 12 (.iconst 0) 1 13 := ⟨by decide +kernel, rfl⟩
theorem dX7_undo_13 : zD cX7_undo 13 (.invokevirtual 112) 3 16 := ⟨by decide +kernel, rfl⟩
theorem dX7_undo_16 : zD cX7_undo 16 (.ifCond .eq 5) 3 19 := ⟨by decide +kernel, rfl⟩
theorem dX7_undo_19 : zD cX7_undo 19 (.iconst 0) 1 20 := ⟨by decide +kernel, rfl⟩
theorem dX7_undo_20 : zD cX7_undo 20 (.ireturn) 1 21 := ⟨by decide +kernel, rfl⟩
theorem dX7_undo_21 : zD cX7_undo 21 (.aload_n 0) 1 22 := ⟨by decide +kernel, rfl⟩
theorem dX7_undo_22 : zD cX7_undo 22 (.dup) 1 23 := ⟨by decide +kernel, rfl⟩
theorem dX7_undo_23 : zD cX7_undo 23 (.getfield 87) 3 26 := ⟨by decide +kernel, rfl⟩
theorem dX7_undo_26 : zD cX7_undo 26 (.iconst 1) 1 27 := ⟨by decide +kernel, rfl⟩
theorem dX7_undo_27 : zD cX7_undo 27 (.isub) 1 28 := ⟨by decide +kernel, rfl⟩
theorem dX7_undo_28 : zD cX7_undo 28 (.putfield 87) 3 31 := ⟨by decide +kernel, rfl⟩
theorem dX7_undo_31 : zD cX7_undo 31 (.aload_n 0) 1 32 := ⟨by decide +kernel, rfl⟩
theorem dX7_undo_32 : zD cX7_undo 32 (.getfield 65) 3 35 := ⟨by decide +kernel, rfl⟩
theorem dX7_undo_35 : zD cX7_undo 35 (.sipush 360) 3 38 := ⟨by decide +kernel, rfl⟩
theorem dX7_undo_38 : zD cX7_undo 38 (.aload_n 0) 1 39 := ⟨by decide +kernel, rfl⟩
theorem dX7_undo_39 : zD cX7_undo 39 (.getfield 87) 3 42 := ⟨by decide +kernel, rfl⟩
theorem dX7_undo_42 : zD cX7_undo 42 (.imul) 1 43 := ⟨by decide +kernel, rfl⟩
theorem dX7_undo_43 : zD cX7_undo 43 (.aload_n 0) 1 44 := ⟨by decide +kernel, rfl⟩
theorem dX7_undo_44 : zD cX7_undo 44 (.getfield 56) 3 47 := ⟨by decide +kernel, rfl⟩
theorem dX7_undo_47 : zD cX7_undo 47 (.iconst 0) 1 48 := ⟨by decide +kernel, rfl⟩
theorem dX7_undo_48 : zD cX7_undo 48 (.sipush 360) 3 51 := ⟨by decide +kernel, rfl⟩
theorem dX7_undo_51 : zD cX7_undo 51 (.invokestatic 90) 3 54 := ⟨by decide +kernel, rfl⟩
theorem dX7_undo_54 : zD cX7_undo 54 (.aload_n 0) 1 55 := ⟨by decide +kernel, rfl⟩
theorem dX7_undo_55 : zD cX7_undo 55 (.getfield 87) 3 58 := ⟨by decide +kernel, rfl⟩
theorem dX7_undo_58 : zD cX7_undo 58 (.ireturn) 1 59 := ⟨by decide +kernel, rfl⟩
theorem dX7_path_0 : zD cX7_path 0 (.aload_n 0) 1 1 := ⟨by decide +kernel, rfl⟩
theorem dX7_path_1 : zD cX7_path 1 (.aload_n 0) 1 2 := ⟨by decide +kernel, rfl⟩
theorem dX7_path_2 : zD cX7_path 2 (.iload_n 1) 1 3 := ⟨by decide +kernel, rfl⟩
theorem dX7_path_3 : zD cX7_path 3 (.invokevirtual 214) 3 6 := ⟨by decide +kernel, rfl⟩
theorem dX7_path_6 : zD cX7_path 6 (.ifCond .eq 11) 3 9 := ⟨by decide +kernel, rfl⟩
theorem dX7_path_9 : zD cX7_path 9 (.aload_n 0) 1 10 := ⟨by decide +kernel, rfl⟩
theorem dX7_path_10 : zD cX7_path 10 (.iload_n 2) 1 11 := ⟨by decide +kernel, rfl⟩
theorem dX7_path_11 : zD cX7_path 11 (.invokevirtual 214) 3 14 := ⟨by decide +kernel, rfl⟩
theorem dX7_path_14 : zD cX7_path 14 (.ifCond .ne 7) 3 17 := ⟨by decide +kernel, rfl⟩
theorem dX7_path_17 : zD cX7_path 17 (.iconst 1) 1 18 := ⟨by decide +kernel, rfl⟩
theorem dX7_path_18 : zD cX7_path 18 (.goto 20) 3 21 := ⟨by decide +kernel, rfl⟩
theorem dX7_path_21 : zD cX7_path 21 (.iload_n 3) 1 22 := ⟨by decide +kernel, rfl⟩
theorem dX7_path_22 : zD cX7_path 22 (.i2l) 1 23 := ⟨by decide +kernel, rfl⟩
theorem dX7_path_23 : zD cX7_path 23 (.lconst 0) 1 24 := ⟨by decide +kernel, rfl⟩
theorem dX7_path_24 : zD cX7_path 24 (.ldc2_w 281) 3 27 := ⟨by decide +kernel, rfl⟩
theorem dX7_path_27 : zD cX7_path 27 (.invokestatic 97) 3 30 := ⟨by decide +kernel, rfl⟩
theorem dX7_path_30 : zD cX7_path 30 (.ifCond .ne 7) 3 33 := ⟨by decide +kernel, rfl⟩
theorem dX7_path_33 : zD cX7_path 33 (.iconst 2) 1 34 := ⟨by decide +kernel, rfl⟩
theorem dX7_path_34 : zD cX7_path 34 (.goto 4) 3 37 := ⟨by decide +kernel, rfl⟩
theorem dX7_path_37 : zD cX7_path 37 (.iconst 0) 1 38 := ⟨by decide +kernel, rfl⟩
theorem dX7_path_38 : zD cX7_path 38 (.invokevirtual 112) 3 41 := ⟨by decide +kernel, rfl⟩
theorem dX7_path_41 : zD cX7_path 41 (.ifCond .eq 5) 3 44 := ⟨by decide +kernel, rfl⟩
theorem dX7_path_44 : zD cX7_path 44 (.iconst 0) 1 45 := ⟨by decide +kernel, rfl⟩
theorem dX7_path_45 : zD cX7_path 45 (.ireturn) 1 46 := ⟨by decide +kernel, rfl⟩
theorem dX7_path_46 : zD cX7_path 46 (.aload_n 0) 1 47 := ⟨by decide +kernel, rfl⟩
theorem dX7_path_47 : zD cX7_path 47 (.aload_n 0) 1 48 := ⟨by decide +kernel, rfl⟩
theorem dX7_path_48 : zD cX7_path 48 (.getfield 56) 3 51 := ⟨by decide +kernel, rfl⟩
theorem dX7_path_51 : zD cX7_path 51 (.bipush (-9)) 2 53 := ⟨by decide +kernel, rfl⟩
theorem dX7_path_53 : zD cX7_path 53 (.invokevirtual 283) 3 56 := ⟨by decide +kernel, rfl⟩
theorem dX7_path_56 : zD cX7_path 56 (.aload_n 0) 1 57 := ⟨by decide +kernel, rfl⟩
theorem dX7_path_57 : zD cX7_path 57 (.iload_n 1) 1 58 := ⟨by decide +kernel, rfl⟩
theorem dX7_path_58 : zD cX7_path 58 (.iload_n 2) 1 59 := ⟨by decide +kernel, rfl⟩
theorem dX7_path_59 : zD cX7_path 59 (.invokevirtual 270) 3 62 := ⟨by decide +kernel, rfl⟩
theorem dX7_path_62 : zD cX7_path 62 (.ldc_w 269) 3 65 := ⟨by decide +kernel, rfl⟩
theorem dX7_path_65 : zD cX7_path 65 (.if_icmp .lt 6) 3 68 := ⟨by decide +kernel, rfl⟩
theorem dX7_path_68 : zD cX7_path 68 (.bipush (-9)) 2 70 := ⟨by decide +kernel, rfl⟩
theorem dX7_path_70 : zD cX7_path 70 (.ireturn) 1 71 := ⟨by decide +kernel, rfl⟩
theorem dX7_path_71 : zD cX7_path 71 (.iload_n 3) 1 72 := ⟨by decide +kernel, rfl⟩
theorem dX7_path_72 : zD cX7_path 72 (.ifCond .ne 15) 3 75 := ⟨by decide +kernel, rfl⟩
theorem dX7_path_75 : zD cX7_path 75 (.aload_n 0) 1 76 := ⟨by decide +kernel, rfl⟩
theorem dX7_path_76 : zD cX7_path 76 (.iload_n 1) 1 77 := ⟨by decide +kernel, rfl⟩
theorem dX7_path_77 : zD cX7_path 77 (.iload_n 2) 1 78 := ⟨by decide +kernel, rfl⟩
theorem dX7_path_78 : zD cX7_path 78 (.invokevirtual 270) 3 81 := ⟨by decide +kernel, rfl⟩
theorem dX7_path_81 : zD cX7_path 81 (.bipush 16) 2 83 := ⟨by decide +kernel, rfl⟩
theorem dX7_path_83 : zD cX7_path 83 (.idiv) 1 84 := ⟨by decide +kernel, rfl⟩
theorem dX7_path_84 : zD cX7_path 84 (.goto 26) 3 87 := ⟨by decide +kernel, rfl⟩
theorem dX7_path_87 : zD cX7_path 87 (.iload_n 3) 1 88 := ⟨by decide +kernel, rfl⟩
theorem dX7_path_88 : zD cX7_path 88 (.iconst 1) 1 89 := ⟨by decide +kernel, rfl⟩
theorem dX7_path_89 : zD cX7_path 89 (.if_icmp .ne 15) 3 92 := ⟨by decide +kernel, rfl⟩
theorem dX7_path_92 : zD cX7_path 92 (.aload_n 0) 1 93 := ⟨by decide +kernel, rfl⟩
theorem dX7_path_93 : zD cX7_path 93 (.iload_n 1) 1 94 := ⟨by decide +kernel, rfl⟩
theorem dX7_path_94 : zD cX7_path 94 (.iload_n 2) 1 95 := ⟨by decide +kernel, rfl⟩
theorem dX7_path_95 : zD cX7_path 95 (.invokevirtual 270) 3 98 := ⟨by decide +kernel, rfl⟩
theorem dX7_path_98 : zD cX7_path 98 (.bipush 16) 2 100 := ⟨by decide +kernel, rfl⟩
theorem dX7_path_100 : zD cX7_path 100 (.irem) 1 101 := ⟨by decide +kernel, rfl⟩
theorem dX7_path_101 : zD cX7_path 101 (.goto 9) 3 104 := ⟨by decide +kernel, rfl⟩
theorem dX7_path_104 : zD cX7_path 104 (.aload_n 0) 1 105 := ⟨by decide +kernel, rfl⟩
theorem dX7_path_105 : zD cX7_path 105 (.iload_n 1) 1 106 := ⟨by decide +kernel, rfl⟩
theorem dX7_path_106 : zD cX7_path 106 (.iload_n 2) 1 107 := ⟨by decide +kernel, rfl⟩
theorem dX7_path_107 : zD cX7_path 107 (.invokevirtual 286) 3 110 := ⟨by decide +kernel, rfl⟩
theorem dX7_path_110 : zD cX7_path 110 (.ireturn) 1 111 := ⟨by decide +kernel, rfl⟩
theorem dX7_step_0 : zD cX7_step 0 (.aload_n 0) 1 1 := ⟨by decide +kernel, rfl⟩
theorem dX7_step_1 : zD cX7_step 1 (.aload_n 0) 1 2 := ⟨by decide +kernel, rfl⟩
theorem dX7_step_2 : zD cX7_step 2 (.iload_n 1) 1 3 := ⟨by decide +kernel, rfl⟩
theorem dX7_step_3 : zD cX7_step 3 (.invokevirtual 214) 3 6 := ⟨by decide +kernel, rfl⟩
theorem dX7_step_6 : zD cX7_step 6 (.ifCond .eq 11) 3 9 := ⟨by decide +kernel, rfl⟩
theorem dX7_step_9 : zD cX7_step 9 (.aload_n 0) 1 10 := ⟨by decide +kernel, rfl⟩
theorem dX7_step_10 : zD cX7_step 10 (.iload_n 2) 1 11 := ⟨by decide +kernel, rfl⟩
theorem dX7_step_11 : zD cX7_step 11 (.invokevirtual 214) 3 14 := ⟨by decide +kernel, rfl⟩
theorem dX7_step_14 : zD cX7_step 14 (.ifCond .ne 7) 3 17 := ⟨by decide +kernel, rfl⟩
theorem dX7_step_17 : zD cX7_step 17 (.iconst 1) 1 18 := ⟨by decide +kernel, rfl⟩
theorem dX7_step_18 : zD cX7_step 18 (.goto 20) 3 21 := ⟨by decide +kernel, rfl⟩
theorem dX7_step_21 : zD cX7_step 21 (.iload_n 3) 1 22 := ⟨by decide +kernel, rfl⟩
theorem dX7_step_22 : zD cX7_step 22 (.i2l) 1 23 := ⟨by decide +kernel, rfl⟩
theorem dX7_step_23 : zD cX7_step 23 (.lconst 0) 1 24 := ⟨by decide +kernel, rfl⟩
theorem dX7_step_24 : zD cX7_step 24 (.ldc2_w 194) 3 27 := ⟨by decide +kernel, rfl⟩
theorem dX7_step_27 : zD cX7_step 27 (.invokestatic 97) 3 30 := ⟨by decide +kernel, rfl⟩
theorem dX7_step_30 : zD cX7_step 30 (.ifCond .ne 7) 3 33 := ⟨by decide +kernel, rfl⟩
theorem dX7_step_33 : zD cX7_step 33 (.iconst 2) 1 34 := ⟨by decide +kernel, rfl⟩
theorem dX7_step_34 : zD cX7_step 34 (.goto 4) 3 37 := ⟨by decide +kernel, rfl⟩
theorem dX7_step_37 : zD cX7_step 37 (.iconst 0) 1 38 := ⟨by decide +kernel, rfl⟩
theorem dX7_step_38 : zD cX7_step 38 (.invokevirtual 112) 3 41 := ⟨by decide +kernel, rfl⟩
theorem dX7_step_41 : zD cX7_step 41 (.ifCond .eq 5) 3 44 := ⟨by decide +kernel, rfl⟩
theorem dX7_step_44 : zD cX7_step 44 (.iconst 0) 1 45 := ⟨by decide +kernel, rfl⟩
theorem dX7_step_45 : zD cX7_step 45 (.ireturn) 1 46 := ⟨by decide +kernel, rfl⟩
theorem dX7_step_46 : zD cX7_step 46 (.aload_n 0) 1 47 := ⟨by decide +kernel, rfl⟩
theorem dX7_step_47 : zD cX7_step 47 (.aload_n 0) 1 48 := ⟨by decide +kernel, rfl⟩
theorem dX7_step_48 : zD cX7_step 48 (.getfield 56) 3 51 := ⟨by decide +kernel, rfl⟩
theorem dX7_step_51 : zD cX7_step 51 (.bipush (-9)) 2 53 := ⟨by decide +kernel, rfl⟩
theorem dX7_step_53 : zD cX7_step 53 (.invokevirtual 283) 3 56 := ⟨by decide +kernel, rfl⟩
theorem dX7_step_56 : zD cX7_step 56 (.aload_n 0) 1 57 := ⟨by decide +kernel, rfl⟩
theorem dX7_step_57 : zD cX7_step 57 (.iload_n 1) 1 58 := ⟨by decide +kernel, rfl⟩
theorem dX7_step_58 : zD cX7_step 58 (.iload_n 2) 1 59 := ⟨by decide +kernel, rfl⟩
theorem dX7_step_59 : zD cX7_step 59 (.invokevirtual 270) 3 62 := ⟨by decide +kernel, rfl⟩
theorem dX7_step_62 : zD cX7_step 62 (.ldc_w 269) 3 65 := ⟨by decide +kernel, rfl⟩
theorem dX7_step_65 : zD cX7_step 65 (.if_icmp .ge 16) 3 68 := ⟨by decide +kernel, rfl⟩
theorem dX7_step_68 : zD cX7_step 68 (.iload_n 3) 1 69 := ⟨by decide +kernel, rfl⟩
theorem dX7_step_69 : zD cX7_step 69 (.aload_n 0) 1 70 := ⟨by decide +kernel, rfl⟩
theorem dX7_step_70 : zD cX7_step 70 (.iload_n 1) 1 71 := ⟨by decide +kernel, rfl⟩
theorem dX7_step_71 : zD cX7_step 71 (.iload_n 2) 1 72 := ⟨by decide +kernel, rfl⟩
theorem dX7_step_72 : zD cX7_step 72 (.invokevirtual 270) 3 75 := ⟨by decide +kernel, rfl⟩
theorem dX7_step_75 : zD cX7_step 75 (.bipush 16) 2 77 := ⟨by decide +kernel, rfl⟩
theorem dX7_step_77 : zD cX7_step 77 (.irem) 1 78 := ⟨by decide +kernel, rfl⟩
theorem dX7_step_78 : zD cX7_step 78 (.if_icmp .le 6) 3 81 := ⟨by decide +kernel, rfl⟩
theorem dX7_step_81 : zD cX7_step 81 (.bipush (-9)) 2 83 := ⟨by decide +kernel, rfl⟩
theorem dX7_step_83 : zD cX7_step 83 (.ireturn) 1 84 := ⟨by decide +kernel, rfl⟩
theorem dX7_step_84 : zD cX7_step 84 (.iload_n 1) 1 85 := ⟨by decide +kernel, rfl⟩
theorem dX7_step_85 : zD cX7_step 85 (.istore 4) 2 87 := ⟨by decide +kernel, rfl⟩
theorem dX7_step_87 : zD cX7_step 87 (.iconst 0) 1 88 := ⟨by decide +kernel, rfl⟩
theorem dX7_step_88 : zD cX7_step 88 (.istore 5) 2 90 := ⟨by decide +kernel, rfl⟩
theorem dX7_step_90 : zD cX7_step 90 (.iload 5) 2 92 := ⟨by decide +kernel, rfl⟩
theorem dX7_step_92 : zD cX7_step 92 (.iload_n 3) 1 93 := ⟨by decide +kernel, rfl⟩
theorem dX7_step_93 : zD cX7_step 93 (.if_icmp .ge 18) 3 96 := ⟨by decide +kernel, rfl⟩
theorem dX7_step_96 : zD cX7_step 96 (.aload_n 0) 1 97 := ⟨by decide +kernel, rfl⟩
theorem dX7_step_97 : zD cX7_step 97 (.iload 4) 2 99 := ⟨by decide +kernel, rfl⟩
theorem dX7_step_99 : zD cX7_step 99 (.iload_n 2) 1 100 := ⟨by decide +kernel, rfl⟩
theorem dX7_step_100 : zD cX7_step 100 (.invokevirtual 274) 3 103 := ⟨by decide +kernel, rfl⟩
theorem dX7_step_103 : zD cX7_step 103 (.istore 4) 2 105 := ⟨by decide +kernel, rfl⟩
theorem dX7_step_105 : zD cX7_step 105 (.iinc 5 1) 3 108 := ⟨by decide +kernel, rfl⟩
theorem dX7_step_108 : zD cX7_step 108 (.goto (-18)) 3 111 := ⟨by decide +kernel, rfl⟩
theorem dX7_step_111 : zD cX7_step 111 (.iload 4) 2 113 := ⟨by decide +kernel, rfl⟩
theorem dX7_step_113 : zD cX7_step 113 (.ireturn) 1 114 := ⟨by decide +kernel, rfl⟩
theorem dX7_sizeAfter_0 : zD cX7_sizeAfter 0 (.aload_n 0) 1 1 := ⟨by decide +kernel, rfl⟩
theorem dX7_sizeAfter_1 : zD cX7_sizeAfter 1 (.aload_n 0) 1 2 := ⟨by decide +kernel, rfl⟩
theorem dX7_sizeAfter_2 : zD cX7_sizeAfter 2 (.iload_n 1) 1 3 := ⟨by decide +kernel, rfl⟩
theorem dX7_sizeAfter_3 : zD cX7_sizeAfter 3 (.invokevirtual 214) 3 6 := ⟨by decide +kernel, rfl⟩
theorem dX7_sizeAfter_6 : zD cX7_sizeAfter 6 (.ifCond .eq 11) 3 9 := ⟨by decide +kernel, rfl⟩
theorem dX7_sizeAfter_9 : zD cX7_sizeAfter 9 (.aload_n 0) 1 10 := ⟨by decide +kernel, rfl⟩
theorem dX7_sizeAfter_10 : zD cX7_sizeAfter 10 (.iload_n 2) 1 11 := ⟨by decide +kernel, rfl⟩
theorem dX7_sizeAfter_11 : zD cX7_sizeAfter 11 (.invokevirtual 214) 3 14 := ⟨by decide +kernel, rfl⟩
theorem dX7_sizeAfter_14 : zD cX7_sizeAfter 14 (.ifCond .ne 7) 3 17 := ⟨by decide +kernel, rfl⟩
theorem dX7_sizeAfter_17 : zD cX7_sizeAfter 17 (.iconst 1) 1 18 := ⟨by decide +kernel, rfl⟩
theorem dX7_sizeAfter_18 : zD cX7_sizeAfter 18 (.goto 20) 3 21 := ⟨by decide +kernel, rfl⟩
theorem dX7_sizeAfter_21 : zD cX7_sizeAfter 21 (.iload_n 3) 1 22 := ⟨by decide +kernel, rfl⟩
theorem dX7_sizeAfter_22 : zD cX7_sizeAfter 22 (.i2l) 1 23 := ⟨by decide +kernel, rfl⟩
theorem dX7_sizeAfter_23 : zD cX7_sizeAfter 23 (.lconst 1) 1 24 := ⟨by decide +kernel, rfl⟩
theorem dX7_sizeAfter_24 : zD cX7_sizeAfter 24 (.ldc2_w 265) 3 27 := ⟨by decide +kernel, rfl⟩
theorem dX7_sizeAfter_27 : zD cX7_sizeAfter 27 (.invokestatic 97) 3 30 := ⟨by decide +kernel, rfl⟩
theorem dX7_sizeAfter_30 : zD cX7_sizeAfter 30 (.ifCond .ne 7) 3 33 := ⟨by decide +kernel, rfl⟩
theorem dX7_sizeAfter_33 : zD cX7_sizeAfter 33 (.iconst 2) 1 34 := ⟨by decide +kernel, rfl⟩
theorem dX7_sizeAfter_34 : zD cX7_sizeAfter 34 (.goto 4) 3 37 := ⟨by decide +kernel, rfl⟩
theorem dX7_sizeAfter_37 : zD cX7_sizeAfter 37 (.iconst 0) 1 38 := ⟨by decide +kernel, rfl⟩
theorem dX7_sizeAfter_38 : zD cX7_sizeAfter 38 (.invokevirtual 112) 3 41 := ⟨by decide +kernel, rfl⟩
theorem dX7_sizeAfter_41 : zD cX7_sizeAfter 41 (.ifCond .eq 5) 3 44 := ⟨by decide +kernel, rfl⟩
theorem dX7_sizeAfter_44 : zD cX7_sizeAfter 44 (.iconst 0) 1 45 := ⟨by decide +kernel, rfl⟩
theorem dX7_sizeAfter_45 : zD cX7_sizeAfter 45 (.ireturn) 1 46 := ⟨by decide +kernel, rfl⟩
theorem dX7_sizeAfter_46 : zD cX7_sizeAfter 46 (.aload_n 0) 1 47 := ⟨by decide +kernel, rfl⟩
theorem dX7_sizeAfter_47 : zD cX7_sizeAfter 47 (.aload_n 0) 1 48 := ⟨by decide +kernel, rfl⟩
theorem dX7_sizeAfter_48 : zD cX7_sizeAfter 48 (.getfield 56) 3 51 := ⟨by decide +kernel, rfl⟩
theorem dX7_sizeAfter_51 : zD cX7_sizeAfter 51 (.bipush (-9)) 2 53 := ⟨by decide +kernel, rfl⟩
theorem dX7_sizeAfter_53 : zD cX7_sizeAfter 53 (.invokevirtual 283) 3 56 := ⟨by decide +kernel, rfl⟩
theorem dX7_sizeAfter_56 : zD cX7_sizeAfter 56 (.aload_n 0) 1 57 := ⟨by decide +kernel, rfl⟩
theorem dX7_sizeAfter_57 : zD cX7_sizeAfter 57 (.iload_n 1) 1 58 := ⟨by decide +kernel, rfl⟩
theorem dX7_sizeAfter_58 : zD cX7_sizeAfter 58 (.iload_n 2) 1 59 := ⟨by decide +kernel, rfl⟩
theorem dX7_sizeAfter_59 : zD cX7_sizeAfter 59 (.invokevirtual 270) 3 62 := ⟨by decide +kernel, rfl⟩
theorem dX7_sizeAfter_62 : zD cX7_sizeAfter 62 (.ldc_w 269) 3 65 := ⟨by decide +kernel, rfl⟩
theorem dX7_sizeAfter_65 : zD cX7_sizeAfter 65 (.if_icmp .lt 8) 3 68 := ⟨by decide +kernel, rfl⟩
theorem dX7_sizeAfter_68 : zD cX7_sizeAfter 68 (.bipush (-9)) 2 70 := ⟨by decide +kernel, rfl⟩
theorem dX7_sizeAfter_70 : zD cX7_sizeAfter 70 (.goto 10) 3 73 := ⟨by decide +kernel, rfl⟩
theorem dX7_sizeAfter_73 : zD cX7_sizeAfter 73 (.aload_n 0) 1 74 := ⟨by decide +kernel, rfl⟩
theorem dX7_sizeAfter_74 : zD cX7_sizeAfter 74 (.iload_n 1) 1 75 := ⟨by decide +kernel, rfl⟩
theorem dX7_sizeAfter_75 : zD cX7_sizeAfter 75 (.iload_n 2) 1 76 := ⟨by decide +kernel, rfl⟩
theorem dX7_sizeAfter_76 : zD cX7_sizeAfter 76 (.iload_n 3) 1 77 := ⟨by decide +kernel, rfl⟩
theorem dX7_sizeAfter_77 : zD cX7_sizeAfter 77 (.invokevirtual 289) 3 80 := ⟨by decide +kernel, rfl⟩
theorem dX7_sizeAfter_80 : zD cX7_sizeAfter 80 (.ireturn) 1 81 := ⟨by decide +kernel, rfl⟩
theorem dX7_reachable_0 : zD cX7_reachable 0 (.aload_n 0) 1 1 := ⟨by decide +kernel, rfl⟩
theorem dX7_reachable_1 : zD cX7_reachable 1 (.aload_n 0) 1 2 := ⟨by decide +kernel, rfl⟩
theorem dX7_reachable_2 : zD cX7_reachable 2 (.iload_n 1) 1 3 := ⟨by decide +kernel, rfl⟩
theorem dX7_reachable_3 : zD cX7_reachable 3 (.invokevirtual 214) 3 6 := ⟨by decide +kernel, rfl⟩
theorem dX7_reachable_6 : zD cX7_reachable 6 (.ifCond .eq 7) 3 9 := ⟨by decide +kernel, rfl⟩
theorem dX7_reachable_9 : zD cX7_reachable 9 (.iconst 0) 1 10 := ⟨by decide +kernel, rfl⟩
theorem dX7_reachable_10 : zD cX7_reachable 10 (.goto 4) 3 13 := ⟨by decide +kernel, rfl⟩
theorem dX7_reachable_13 : zD cX7_reachable 13 (.iconst 1) 1 14 := ⟨by decide +kernel, rfl⟩
theorem dX7_reachable_14 : zD cX7_reachable 14 (.invokevirtual 112) 3 17 := ⟨by decide +kernel, rfl⟩
theorem dX7_reachable_17 : zD cX7_reachable 17 (.ifCond .eq 5) 3 20 := ⟨by decide +kernel, rfl⟩
theorem dX7_reachable_20 : zD cX7_reachable 20 (.iconst 0) 1 21 := ⟨by decide +kernel, rfl⟩
theorem dX7_reachable_21 : zD cX7_reachable 21 (.ireturn) 1 22 := ⟨by decide +kernel, rfl⟩
theorem dX7_reachable_22 : zD cX7_reachable 22 (.aload_n 0) 1 23 := ⟨by decide +kernel, rfl⟩
theorem dX7_reachable_23 : zD cX7_reachable 23 (.aload_n 0) 1 24 := ⟨by decide +kernel, rfl⟩
theorem dX7_reachable_24 : zD cX7_reachable 24 (.getfield 56) 3 27 := ⟨by decide +kernel, rfl⟩
theorem dX7_reachable_27 : zD cX7_reachable 27 (.bipush (-9)) 2 29 := ⟨by decide +kernel, rfl⟩
theorem dX7_reachable_29 : zD cX7_reachable 29 (.invokevirtual 283) 3 32 := ⟨by decide +kernel, rfl⟩
theorem dX7_reachable_32 : zD cX7_reachable 32 (.iconst 0) 1 33 := ⟨by decide +kernel, rfl⟩
theorem dX7_reachable_33 : zD cX7_reachable 33 (.istore_n 2) 1 34 := ⟨by decide +kernel, rfl⟩
theorem dX7_reachable_34 : zD cX7_reachable 34 (.iconst 0) 1 35 := ⟨by decide +kernel, rfl⟩
theorem dX7_reachable_35 : zD cX7_reachable 35 (.istore_n 3) 1 36 := ⟨by decide +kernel, rfl⟩
theorem dX7_reachable_36 : zD cX7_reachable 36 (.iload_n 3) 1 37 := ⟨by decide +kernel, rfl⟩
theorem dX7_reachable_37 : zD cX7_reachable 37 (.aload_n 0) 1 38 := ⟨by decide +kernel, rfl⟩
theorem dX7_reachable_38 : zD cX7_reachable 38 (.getfield 13) 3 41 := ⟨by decide +kernel, rfl⟩
theorem dX7_reachable_41 : zD cX7_reachable 41 (.if_icmp .ge 31) 3 44 := ⟨by decide +kernel, rfl⟩
theorem dX7_reachable_44 : zD cX7_reachable 44 (.iload_n 2) 1 45 := ⟨by decide +kernel, rfl⟩
theorem dX7_reachable_45 : zD cX7_reachable 45 (.aload_n 0) 1 46 := ⟨by decide +kernel, rfl⟩
theorem dX7_reachable_46 : zD cX7_reachable 46 (.iload_n 1) 1 47 := ⟨by decide +kernel, rfl⟩
theorem dX7_reachable_47 : zD cX7_reachable 47 (.iload_n 3) 1 48 := ⟨by decide +kernel, rfl⟩
theorem dX7_reachable_48 : zD cX7_reachable 48 (.invokevirtual 270) 3 51 := ⟨by decide +kernel, rfl⟩
theorem dX7_reachable_51 : zD cX7_reachable 51 (.ldc_w 269) 3 54 := ⟨by decide +kernel, rfl⟩
theorem dX7_reachable_54 : zD cX7_reachable 54 (.if_icmp .ge 9) 3 57 := ⟨by decide +kernel, rfl⟩
theorem dX7_reachable_57 : zD cX7_reachable 57 (.iconst 1) 1 58 := ⟨by decide +kernel, rfl⟩
theorem dX7_reachable_58 : zD cX7_reachable 58 (.iload_n 3) 1 59 := ⟨by decide +kernel, rfl⟩
theorem dX7_reachable_59 : zD cX7_reachable 59 (.ishl) 1 60 := ⟨by decide +kernel, rfl⟩
theorem dX7_reachable_60 : zD cX7_reachable 60 (.goto 4) 3 63 := ⟨by decide +kernel, rfl⟩
theorem dX7_reachable_63 : zD cX7_reachable 63 (.iconst 0) 1 64 := ⟨by decide +kernel, rfl⟩
theorem dX7_reachable_64 : zD cX7_reachable 64 (.ior) 1 65 := ⟨by decide +kernel, rfl⟩
theorem dX7_reachable_65 : zD cX7_reachable 65 (.istore_n 2) 1 66 := ⟨by decide +kernel, rfl⟩
theorem dX7_reachable_66 : zD cX7_reachable 66 (.iinc 3 1) 3 69 := ⟨by decide +kernel, rfl⟩
theorem dX7_reachable_69 : zD cX7_reachable 69 (.goto (-33)) 3 72 := ⟨by decide +kernel, rfl⟩
theorem dX7_reachable_72 : zD cX7_reachable 72 (.iload_n 2) 1 73 := ⟨by decide +kernel, rfl⟩
theorem dX7_reachable_73 : zD cX7_reachable 73 (.ireturn) 1 74 := ⟨by decide +kernel, rfl⟩
theorem dX7_without_0 : zD cX7_without 0 (.aload_n 0) 1 1 := ⟨by decide +kernel, rfl⟩
theorem dX7_without_1 : zD cX7_without 1 (.aload_n 0) 1 2 := ⟨by decide +kernel, rfl⟩
theorem dX7_without_2 : zD cX7_without 2 (.iload_n 1) 1 3 := ⟨by decide +kernel, rfl⟩
theorem dX7_without_3 : zD cX7_without 3 (.invokevirtual 196) 3 6 := ⟨by decide +kernel, rfl⟩
theorem dX7_without_6 : zD cX7_without 6 (.ifCond .eq 23) 3 9 := ⟨by decide +kernel, rfl⟩
theorem dX7_without_9 : zD cX7_without 9 (.aload_n 0) 1 10 := ⟨by decide +kernel, rfl⟩
theorem dX7_without_10 : zD cX7_without 10 (.iload_n 2) 1 11 := ⟨by decide +kernel, rfl⟩
theorem dX7_without_11 : zD cX7_without 11 (.invokevirtual 214) 3 14 := ⟨by decide +kernel, rfl⟩
theorem dX7_without_14 : zD cX7_without 14 (.ifCond .eq 15) 3 17 := ⟨by decide +kernel, rfl⟩
theorem dX7_without_17 : zD cX7_without 17 (.aload_n 0) 1 18 := ⟨by decide +kernel, rfl⟩
theorem dX7_without_18 : zD cX7_without 18 (.iload_n 3) 1 19 := ⟨by decide +kernel, rfl⟩
theorem dX7_without_19 : zD cX7_without 19 (.invokevirtual 214) 3 22 := ⟨by decide +kernel, rfl⟩
theorem dX7_without_22 : zD cX7_without 22 (.ifCond .eq 7) 3 25 := ⟨by decide +kernel, rfl⟩
theorem dX7_without_25 : zD cX7_without 25 (.iconst 0) 1 26 := ⟨by decide +kernel, rfl⟩
theorem dX7_without_26 : zD cX7_without 26 (.goto 4) 3 29 := ⟨by decide +kernel, rfl⟩
theorem dX7_without_29 : zD cX7_without 29 (.iconst 1) 1 30 := ⟨by decide +kernel, rfl⟩
theorem dX7_without_30 : zD cX7_without 30 (.invokevirtual 112) 3 33 := ⟨by decide +kernel, rfl⟩
theorem dX7_without_33 : zD cX7_without 33 (.ifCond .eq 5) 3 36 := ⟨by decide +kernel, rfl⟩
theorem dX7_without_36 : zD cX7_without 36 (.iconst 0) 1 37 := ⟨by decide +kernel, rfl⟩
theorem dX7_without_37 : zD cX7_without 37 (.ireturn) 1 38 := ⟨by decide +kernel, rfl⟩
theorem dX7_without_38 : zD cX7_without 38 (.aload_n 0) 1 39 := ⟨by decide +kernel, rfl⟩
theorem dX7_without_39 : zD cX7_without 39 (.aload_n 0) 1 40 := ⟨by decide +kernel, rfl⟩
theorem dX7_without_40 : zD cX7_without 40 (.getfield 56) 3 43 := ⟨by decide +kernel, rfl⟩
theorem dX7_without_43 : zD cX7_without 43 (.iload_n 1) 1 44 := ⟨by decide +kernel, rfl⟩
theorem dX7_without_44 : zD cX7_without 44 (.invokevirtual 283) 3 47 := ⟨by decide +kernel, rfl⟩
theorem dX7_without_47 : zD cX7_without 47 (.aload_n 0) 1 48 := ⟨by decide +kernel, rfl⟩
theorem dX7_without_48 : zD cX7_without 48 (.iload_n 2) 1 49 := ⟨by decide +kernel, rfl⟩
theorem dX7_without_49 : zD cX7_without 49 (.iload_n 3) 1 50 := ⟨by decide +kernel, rfl⟩
theorem dX7_without_50 : zD cX7_without 50 (.invokevirtual 270) 3 53 := ⟨by decide +kernel, rfl⟩
theorem dX7_without_53 : zD cX7_without 53 (.ldc_w 269) 3 56 := ⟨by decide +kernel, rfl⟩
theorem dX7_without_56 : zD cX7_without 56 (.if_icmp .lt 8) 3 59 := ⟨by decide +kernel, rfl⟩
theorem dX7_without_59 : zD cX7_without 59 (.bipush (-9)) 2 61 := ⟨by decide +kernel, rfl⟩
theorem dX7_without_61 : zD cX7_without 61 (.goto 12) 3 64 := ⟨by decide +kernel, rfl⟩
theorem dX7_without_64 : zD cX7_without 64 (.aload_n 0) 1 65 := ⟨by decide +kernel, rfl⟩
theorem dX7_without_65 : zD cX7_without 65 (.iload_n 2) 1 66 := ⟨by decide +kernel, rfl⟩
theorem dX7_without_66 : zD cX7_without 66 (.iload_n 3) 1 67 := ⟨by decide +kernel, rfl⟩
theorem dX7_without_67 : zD cX7_without 67 (.invokevirtual 270) 3 70 := ⟨by decide +kernel, rfl⟩
theorem dX7_without_70 : zD cX7_without 70 (.bipush 16) 2 72 := ⟨by decide +kernel, rfl⟩
theorem dX7_without_72 : zD cX7_without 72 (.idiv) 1 73 := ⟨by decide +kernel, rfl⟩
theorem dX7_without_73 : zD cX7_without 73 (.ireturn) 1 74 := ⟨by decide +kernel, rfl⟩
theorem dX7_worthOf_0 : zD cX7_worthOf 0 (.aload_n 0) 1 1 := ⟨by decide +kernel, rfl⟩
theorem dX7_worthOf_1 : zD cX7_worthOf 1 (.aload_n 0) 1 2 := ⟨by decide +kernel, rfl⟩
theorem dX7_worthOf_2 : zD cX7_worthOf 2 (.getfield 56) 3 5 := ⟨by decide +kernel, rfl⟩
theorem dX7_worthOf_5 : zD cX7_worthOf 5 (.iload_n 1) 1 6 := ⟨by decide +kernel, rfl⟩
theorem dX7_worthOf_6 : zD cX7_worthOf 6 (.invokevirtual 283) 3 9 := ⟨by decide +kernel, rfl⟩
theorem dX7_worthOf_9 : zD cX7_worthOf 9 (.aload_n 0) 1 10 := ⟨by decide +kernel, rfl⟩
theorem dX7_worthOf_10 : zD cX7_worthOf 10 (.aload_n 0) 1 11 := ⟨by decide +kernel, rfl⟩
theorem dX7_worthOf_11 : zD cX7_worthOf 11 (.getfield 17) 3 14 := ⟨by decide +kernel, rfl⟩
theorem dX7_worthOf_14 : zD cX7_worthOf 14 (.iload_n 1) 1 15 := ⟨by decide +kernel, rfl⟩
theorem dX7_worthOf_15 : zD cX7_worthOf 15 (.iaload) 1 16 := ⟨by decide +kernel, rfl⟩
theorem dX7_worthOf_16 : zD cX7_worthOf 16 (.aload_n 0) 1 17 := ⟨by decide +kernel, rfl⟩
theorem dX7_worthOf_17 : zD cX7_worthOf 17 (.getfield 20) 3 20 := ⟨by decide +kernel, rfl⟩
theorem dX7_worthOf_20 : zD cX7_worthOf 20 (.iload_n 1) 1 21 := ⟨by decide +kernel, rfl⟩
theorem dX7_worthOf_21 : zD cX7_worthOf 21 (.iaload) 1 22 := ⟨by decide +kernel, rfl⟩
theorem dX7_worthOf_22 : zD cX7_worthOf 22 (.invokevirtual 270) 3 25 := ⟨by decide +kernel, rfl⟩
theorem dX7_worthOf_25 : zD cX7_worthOf 25 (.istore_n 2) 1 26 := ⟨by decide +kernel, rfl⟩
theorem dX7_worthOf_26 : zD cX7_worthOf 26 (.iload_n 2) 1 27 := ⟨by decide +kernel, rfl⟩
theorem dX7_worthOf_27 : zD cX7_worthOf 27 (.ldc_w 269) 3 30 := ⟨by decide +kernel, rfl⟩
theorem dX7_worthOf_30 : zD cX7_worthOf 30 (.if_icmp .ge 12) 3 33 := ⟨by decide +kernel, rfl⟩
theorem dX7_worthOf_33 : zD cX7_worthOf 33 (.iload_n 2) 1 34 := ⟨by decide +kernel, rfl⟩
theorem dX7_worthOf_34 : zD cX7_worthOf 34 (.bipush 16) 2 36 := ⟨by decide +kernel, rfl⟩
theorem dX7_worthOf_36 : zD cX7_worthOf 36 (.idiv) 1 37 := ⟨by decide +kernel, rfl⟩
theorem dX7_worthOf_37 : zD cX7_worthOf 37 (.bipush 99) 2 39 := ⟨by decide +kernel, rfl⟩
theorem dX7_worthOf_39 : zD cX7_worthOf 39 (.if_icmp .le 8) 3 42 := ⟨by decide +kernel, rfl⟩
theorem dX7_worthOf_42 : zD cX7_worthOf 42 (.bipush 99) 2 44 := ⟨by decide +kernel, rfl⟩
theorem dX7_worthOf_44 : zD cX7_worthOf 44 (.goto 7) 3 47 := ⟨by decide +kernel, rfl⟩
theorem dX7_worthOf_47 : zD cX7_worthOf 47 (.iload_n 2) 1 48 := ⟨by decide +kernel, rfl⟩
theorem dX7_worthOf_48 : zD cX7_worthOf 48 (.bipush 16) 2 50 := ⟨by decide +kernel, rfl⟩
theorem dX7_worthOf_50 : zD cX7_worthOf 50 (.idiv) 1 51 := ⟨by decide +kernel, rfl⟩
theorem dX7_worthOf_51 : zD cX7_worthOf 51 (.ireturn) 1 52 := ⟨by decide +kernel, rfl⟩
theorem dX7_worth_0 : zD cX7_worth 0 (.aload_n 0) 1 1 := ⟨by decide +kernel, rfl⟩
theorem dX7_worth_1 : zD cX7_worth 1 (.aload_n 0) 1 2 := ⟨by decide +kernel, rfl⟩
theorem dX7_worth_2 : zD cX7_worth 2 (.iload_n 1) 1 3 := ⟨by decide +kernel, rfl⟩
theorem dX7_worth_3 : zD cX7_worth 3 (.invokevirtual 196) 3 6 := ⟨by decide +kernel, rfl⟩
theorem dX7_worth_6 : zD cX7_worth 6 (.ifCond .eq 7) 3 9 := ⟨by decide +kernel, rfl⟩
theorem dX7_worth_9 : zD cX7_worth 9 (.iconst 0) 1 10 := ⟨by decide +kernel, rfl⟩
theorem dX7_worth_10 : zD cX7_worth 10 (.goto 4) 3 13 := ⟨by decide +kernel, rfl⟩
theorem dX7_worth_13 : zD cX7_worth 13 (.iconst 1) 1 14 := ⟨by decide +kernel, rfl⟩
theorem dX7_worth_14 : zD cX7_worth 14 (.invokevirtual 112) 3 17 := ⟨by decide +kernel, rfl⟩
theorem dX7_worth_17 : zD cX7_worth 17 (.ifCond .eq 5) 3 20 := ⟨by decide +kernel, rfl⟩
theorem dX7_worth_20 : zD cX7_worth 20 (.iconst 0) 1 21 := ⟨by decide +kernel, rfl⟩
theorem dX7_worth_21 : zD cX7_worth 21 (.ireturn) 1 22 := ⟨by decide +kernel, rfl⟩
theorem dX7_worth_22 : zD cX7_worth 22 (.aload_n 0) 1 23 := ⟨by decide +kernel, rfl⟩
theorem dX7_worth_23 : zD cX7_worth 23 (.iload_n 1) 1 24 := ⟨by decide +kernel, rfl⟩
theorem dX7_worth_24 : zD cX7_worth 24 (.invokevirtual 293) 3 27 := ⟨by decide +kernel, rfl⟩
theorem dX7_worth_27 : zD cX7_worth 27 (.ireturn) 1 28 := ⟨by decide +kernel, rfl⟩
theorem dX7_idle_0 : zD cX7_idle 0 (.aload_n 0) 1 1 := ⟨by decide +kernel, rfl⟩
theorem dX7_idle_1 : zD cX7_idle 1 (.iconst 0) 1 2 := ⟨by decide +kernel, rfl⟩
theorem dX7_idle_2 : zD cX7_idle 2 (.putfield 84) 3 5 := ⟨by decide +kernel, rfl⟩
theorem dX7_idle_5 : zD cX7_idle 5 (.iconst 0) 1 6 := ⟨by decide +kernel, rfl⟩
theorem dX7_idle_6 : zD cX7_idle 6 (.istore_n 1) 1 7 := ⟨by decide +kernel, rfl⟩
theorem dX7_idle_7 : zD cX7_idle 7 (.iconst 0) 1 8 := ⟨by decide +kernel, rfl⟩
theorem dX7_idle_8 : zD cX7_idle 8 (.istore_n 2) 1 9 := ⟨by decide +kernel, rfl⟩
theorem dX7_idle_9 : zD cX7_idle 9 (.iload_n 2) 1 10 := ⟨by decide +kernel, rfl⟩
theorem dX7_idle_10 : zD cX7_idle 10 (.aload_n 0) 1 11 := ⟨by decide +kernel, rfl⟩
theorem dX7_idle_11 : zD cX7_idle 11 (.getfield 101) 3 14 := ⟨by decide +kernel, rfl⟩
theorem dX7_idle_14 : zD cX7_idle 14 (.if_icmp .ge 35) 3 17 := ⟨by decide +kernel, rfl⟩
theorem dX7_idle_17 : zD cX7_idle 17 (.iload_n 1) 1 18 := ⟨by decide +kernel, rfl⟩
theorem dX7_idle_18 : zD cX7_idle 18 (.aload_n 0) 1 19 := ⟨by decide +kernel, rfl⟩
theorem dX7_idle_19 : zD cX7_idle 19 (.getfield 56) 3 22 := ⟨by decide +kernel, rfl⟩
theorem dX7_idle_22 : zD cX7_idle 22 (.iconst 4) 1 23 := ⟨by decide +kernel, rfl⟩
theorem dX7_idle_23 : zD cX7_idle 23 (.iload_n 2) 1 24 := ⟨by decide +kernel, rfl⟩
theorem dX7_idle_24 : zD cX7_idle 24 (.iadd) 1 25 := ⟨by decide +kernel, rfl⟩
theorem dX7_idle_25 : zD cX7_idle 25 (.iaload) 1 26 := ⟨by decide +kernel, rfl⟩
theorem dX7_idle_26 : zD cX7_idle 26 (.aload_n 0) 1 27 := ⟨by decide +kernel, rfl⟩
theorem dX7_idle_27 : zD cX7_idle 27 (.iload_n 2) 1 28 := ⟨by decide +kernel, rfl⟩
theorem dX7_idle_28 : zD cX7_idle 28 (.invokevirtual 293) 3 31 := ⟨by decide +kernel, rfl⟩
theorem dX7_idle_31 : zD cX7_idle 31 (.if_icmp .le 9) 3 34 := ⟨by decide +kernel, rfl⟩
theorem dX7_idle_34 : zD cX7_idle 34 (.iconst 1) 1 35 := ⟨by decide +kernel, rfl⟩
theorem dX7_idle_35 : zD cX7_idle 35 (.iload_n 2) 1 36 := ⟨by decide +kernel, rfl⟩
theorem dX7_idle_36 : zD cX7_idle 36 (.ishl) 1 37 := ⟨by decide +kernel, rfl⟩
theorem dX7_idle_37 : zD cX7_idle 37 (.goto 4) 3 40 := ⟨by decide +kernel, rfl⟩
theorem dX7_idle_40 : zD cX7_idle 40 (.iconst 0) 1 41 := ⟨by decide +kernel, rfl⟩
theorem dX7_idle_41 : zD cX7_idle 41 (.ior) 1 42 := ⟨by decide +kernel, rfl⟩
theorem dX7_idle_42 : zD cX7_idle 42 (.istore_n 1) 1 43 := ⟨by decide +kernel, rfl⟩
theorem dX7_idle_43 : zD cX7_idle 43 (.iinc 2 1) 3 46 := ⟨by decide +kernel, rfl⟩
theorem dX7_idle_46 : zD cX7_idle 46 (.goto (-37)) 3 49 := ⟨by decide +kernel, rfl⟩
theorem dX7_idle_49 : zD cX7_idle 49 (.iload_n 1) 1 50 := ⟨by decide +kernel, rfl⟩
theorem dX7_idle_50 : zD cX7_idle 50 (.ireturn) 1 51 := ⟨by decide +kernel, rfl⟩
theorem dX7_passesBy_0 : zD cX7_passesBy 0 (.iload_n 1) 1 1 := ⟨by decide +kernel, rfl⟩
theorem dX7_passesBy_1 : zD cX7_passesBy 1 (.istore 4) 2 3 := ⟨by decide +kernel, rfl⟩
theorem dX7_passesBy_3 : zD cX7_passesBy 3 (.iconst 0) 1 4 := ⟨by decide +kernel, rfl⟩
theorem dX7_passesBy_4 : zD cX7_passesBy 4 (.istore 5) 2 6 := ⟨by decide +kernel, rfl⟩
theorem dX7_passesBy_6 : zD cX7_passesBy 6 (.iload 4) 2 8 := ⟨by decide +kernel, rfl⟩
theorem dX7_passesBy_8 : zD cX7_passesBy 8 (.iload_n 2) 1 9 := ⟨by decide +kernel, rfl⟩
theorem dX7_passesBy_9 : zD cX7_passesBy 9 (.if_icmp .eq 33) 3 12 := ⟨by decide +kernel, rfl⟩
theorem dX7_passesBy_12 : zD cX7_passesBy 12 (.aload_n 0) 1 13 := ⟨by decide +kernel, rfl⟩
theorem dX7_passesBy_13 : zD cX7_passesBy 13 (.iload 4) 2 15 := ⟨by decide +kernel, rfl⟩
theorem dX7_passesBy_15 : zD cX7_passesBy 15 (.iload_n 2) 1 16 := ⟨by decide +kernel, rfl⟩
theorem dX7_passesBy_16 : zD cX7_passesBy 16 (.invokevirtual 274) 3 19 := ⟨by decide +kernel, rfl⟩
theorem dX7_passesBy_19 : zD cX7_passesBy 19 (.istore 4) 2 21 := ⟨by decide +kernel, rfl⟩
theorem dX7_passesBy_21 : zD cX7_passesBy 21 (.iload 5) 2 23 := ⟨by decide +kernel, rfl⟩
theorem dX7_passesBy_23 : zD cX7_passesBy 23 (.ifCond .ne 9) 3 26 := ⟨by decide +kernel, rfl⟩
theorem dX7_passesBy_26 : zD cX7_passesBy 26 (.iload 4) 2 28 := ⟨by decide +kernel, rfl⟩
theorem dX7_passesBy_28 : zD cX7_passesBy 28 (.iload_n 3) 1 29 := ⟨by decide +kernel, rfl⟩
theorem dX7_passesBy_29 : zD cX7_passesBy 29 (.if_icmp .ne 7) 3 32 := ⟨by decide +kernel, rfl⟩
theorem dX7_passesBy_32 : zD cX7_passesBy 32 (.iconst 1) 1 33 := ⟨by decide +kernel, rfl⟩
theorem dX7_passesBy_33 : zD cX7_passesBy 33 (.goto 4) 3 36 := ⟨by decide +kernel, rfl⟩
theorem dX7_passesBy_36 : zD cX7_passesBy 36 (.iconst 0) 1 37 := ⟨by decide +kernel, rfl⟩
theorem dX7_passesBy_37 : zD cX7_passesBy 37 (.istore 5) 2 39 := ⟨by decide +kernel, rfl⟩
theorem dX7_passesBy_39 : zD cX7_passesBy 39 (.goto (-33)) 3 42 := ⟨by decide +kernel, rfl⟩
theorem dX7_passesBy_42 : zD cX7_passesBy 42 (.iload 5) 2 44 := ⟨by decide +kernel, rfl⟩
theorem dX7_passesBy_44 : zD cX7_passesBy 44 (.ireturn) 1 45 := ⟨by decide +kernel, rfl⟩
theorem dX7_between_0 : zD cX7_between 0 (.aload_n 0) 1 1 := ⟨by decide +kernel, rfl⟩
theorem dX7_between_1 : zD cX7_between 1 (.aload_n 0) 1 2 := ⟨by decide +kernel, rfl⟩
theorem dX7_between_2 : zD cX7_between 2 (.iload_n 1) 1 3 := ⟨by decide +kernel, rfl⟩
theorem dX7_between_3 : zD cX7_between 3 (.invokevirtual 214) 3 6 := ⟨by decide +kernel, rfl⟩
theorem dX7_between_6 : zD cX7_between 6 (.ifCond .eq 7) 3 9 := ⟨by decide +kernel, rfl⟩
theorem dX7_between_9 : zD cX7_between 9 (.iconst 0) 1 10 := ⟨by decide +kernel, rfl⟩
theorem dX7_between_10 : zD cX7_between 10 (.goto 4) 3 13 := ⟨by decide +kernel, rfl⟩
theorem dX7_between_13 : zD cX7_between 13 (.iconst 1) 1 14 := ⟨by decide +kernel, rfl⟩
theorem dX7_between_14 : zD cX7_between 14 (.invokevirtual 112) 3 17 := ⟨by decide +kernel, rfl⟩
theorem dX7_between_17 : zD cX7_between 17 (.ifCond .eq 5) 3 20 := ⟨by decide +kernel, rfl⟩
theorem dX7_between_20 : zD cX7_between 20 (.iconst 0) 1 21 := ⟨by decide +kernel, rfl⟩
theorem dX7_between_21 : zD cX7_between 21 (.ireturn) 1 22 := ⟨by decide +kernel, rfl⟩
theorem dX7_between_22 : zD cX7_between 22 (.aload_n 0) 1 23 := ⟨by decide +kernel, rfl⟩
theorem dX7_between_23 : zD cX7_between 23 (.aload_n 0) 1 24 := ⟨by decide +kernel, rfl⟩
theorem dX7_between_24 : zD cX7_between 24 (.getfield 56) 3 27 := ⟨by decide +kernel, rfl⟩
theorem dX7_between_27 : zD cX7_between 27 (.bipush (-9)) 2 29 := ⟨by decide +kernel, rfl⟩
theorem dX7_between_29 : zD cX7_between 29 (.invokevirtual 283) 3 32 := ⟨by decide +kernel, rfl⟩
theorem dX7_between_32 : zD cX7_between 32 (.iconst 0) 1 33 := ⟨by decide +kernel, rfl⟩
theorem dX7_between_33 : zD cX7_between 33 (.istore_n 2) 1 34 := ⟨by decide +kernel, rfl⟩
theorem dX7_between_34 : zD cX7_between 34 (.iconst 0) 1 35 := ⟨by decide +kernel, rfl⟩
theorem dX7_between_35 : zD cX7_between 35 (.istore_n 3) 1 36 := ⟨by decide +kernel, rfl⟩
theorem dX7_between_36 : zD cX7_between 36 (.iload_n 3) 1 37 := ⟨by decide +kernel, rfl⟩
theorem dX7_between_37 : zD cX7_between 37 (.aload_n 0) 1 38 := ⟨by decide +kernel, rfl⟩
theorem dX7_between_38 : zD cX7_between 38 (.getfield 13) 3 41 := ⟨by decide +kernel, rfl⟩
theorem dX7_between_41 : zD cX7_between 41 (.if_icmp .ge 93) 3 44 := ⟨by decide +kernel, rfl⟩
theorem dX7_between_44 : zD cX7_between 44 (.iconst 0) 1 45 := ⟨by decide +kernel, rfl⟩
theorem dX7_between_45 : zD cX7_between 45 (.istore 4) 2 47 := ⟨by decide +kernel, rfl⟩
theorem dX7_between_47 : zD cX7_between 47 (.iload 4) 2 49 := ⟨by decide +kernel, rfl⟩
theorem dX7_between_49 : zD cX7_between 49 (.aload_n 0) 1 50 := ⟨by decide +kernel, rfl⟩
theorem dX7_between_50 : zD cX7_between 50 (.getfield 13) 3 53 := ⟨by decide +kernel, rfl⟩
theorem dX7_between_53 : zD cX7_between 53 (.if_icmp .ge 75) 3 56 := ⟨by decide +kernel, rfl⟩
theorem dX7_between_56 : zD cX7_between 56 (.iload_n 3) 1 57 := ⟨by decide +kernel, rfl⟩
theorem dX7_between_57 : zD cX7_between 57 (.iload 4) 2 59 := ⟨by decide +kernel, rfl⟩
theorem dX7_between_59 : zD cX7_between 59 (.if_icmp .eq 36) 3 62 := ⟨by decide +kernel, rfl⟩
theorem dX7_between_62 : zD cX7_between 62 (.iload_n 3) 1 63 := ⟨by decide +kernel, rfl⟩
theorem dX7_between_63 : zD cX7_between 63 (.iload_n 1) 1 64 := ⟨by decide +kernel, rfl⟩
theorem dX7_between_64 : zD cX7_between 64 (.if_icmp .eq 31) 3 67 := ⟨by decide +kernel, rfl⟩
theorem dX7_between_67 : zD cX7_between 67 (.iload 4) 2 69 := ⟨by decide +kernel, rfl⟩
theorem dX7_between_69 : zD cX7_between 69 (.iload_n 1) 1 70 := ⟨by decide +kernel, rfl⟩
theorem dX7_between_70 : zD cX7_between 70 (.if_icmp .eq 25) 3 73 := ⟨by decide +kernel, rfl⟩
theorem dX7_between_73 : zD cX7_between 73 (.aload_n 0) 1 74 := ⟨by decide +kernel, rfl⟩
theorem dX7_between_74 : zD cX7_between 74 (.getfield 75) 3 77 := ⟨by decide +kernel, rfl⟩
theorem dX7_between_77 : zD cX7_between 77 (.bipush 8) 2 79 := ⟨by decide +kernel, rfl⟩
theorem dX7_between_79 : zD cX7_between 79 (.iload_n 3) 1 80 := ⟨by decide +kernel, rfl⟩
theorem dX7_between_80 : zD cX7_between 80 (.imul) 1 81 := ⟨by decide +kernel, rfl⟩
theorem dX7_between_81 : zD cX7_between 81 (.iload 4) 2 83 := ⟨by decide +kernel, rfl⟩
theorem dX7_between_83 : zD cX7_between 83 (.iadd) 1 84 := ⟨by decide +kernel, rfl⟩
theorem dX7_between_84 : zD cX7_between 84 (.iaload) 1 85 := ⟨by decide +kernel, rfl⟩
theorem dX7_between_85 : zD cX7_between 85 (.ldc_w 269) 3 88 := ⟨by decide +kernel, rfl⟩
theorem dX7_between_88 : zD cX7_between 88 (.if_icmp .ge 7) 3 91 := ⟨by decide +kernel, rfl⟩
theorem dX7_between_91 : zD cX7_between 91 (.iconst 1) 1 92 := ⟨by decide +kernel, rfl⟩
theorem dX7_between_92 : zD cX7_between 92 (.goto 4) 3 95 := ⟨by decide +kernel, rfl⟩
theorem dX7_between_95 : zD cX7_between 95 (.iconst 0) 1 96 := ⟨by decide +kernel, rfl⟩
theorem dX7_between_96 : zD cX7_between 96 (.istore 5) 2 98 := ⟨by decide +kernel, rfl⟩
theorem dX7_between_98 : zD cX7_between 98 (.iload_n 2) 1 99 := ⟨by decide +kernel, rfl⟩
theorem dX7_between_99 : zD cX7_between 99 (.iload 5) 2 101 := ⟨by decide +kernel, rfl⟩
theorem dX7_between_101 : zD cX7_between 101 (.ifCond .eq 18) 3 104 := ⟨by decide +kernel, rfl⟩
theorem dX7_between_104 : zD cX7_between 104 (.aload_n 0) 1 105 := ⟨by decide +kernel, rfl⟩
theorem dX7_between_105 : zD cX7_between 105 (.iload_n 3) 1 106 := ⟨by decide +kernel, rfl⟩
theorem dX7_between_106 : zD cX7_between 106 (.iload 4) 2 108 := ⟨by decide +kernel, rfl⟩
theorem dX7_between_108 : zD cX7_between 108 (.iload_n 1) 1 109 := ⟨by decide +kernel, rfl⟩
theorem dX7_between_109 : zD cX7_between 109 (.invokevirtual 296) 3 112 := ⟨by decide +kernel, rfl⟩
theorem dX7_between_112 : zD cX7_between 112 (.ifCond .eq 7) 3 115 := ⟨by decide +kernel, rfl⟩
theorem dX7_between_115 : zD cX7_between 115 (.iconst 1) 1 116 := ⟨by decide +kernel, rfl⟩
theorem dX7_between_116 : zD cX7_between 116 (.goto 4) 3 119 := ⟨by decide +kernel, rfl⟩
theorem dX7_between_119 : zD cX7_between 119 (.iconst 0) 1 120 := ⟨by decide +kernel, rfl⟩
theorem dX7_between_120 : zD cX7_between 120 (.iadd) 1 121 := ⟨by decide +kernel, rfl⟩
theorem dX7_between_121 : zD cX7_between 121 (.istore_n 2) 1 122 := ⟨by decide +kernel, rfl⟩
theorem dX7_between_122 : zD cX7_between 122 (.iinc 4 1) 3 125 := ⟨by decide +kernel, rfl⟩
theorem dX7_between_125 : zD cX7_between 125 (.goto (-78)) 3 128 := ⟨by decide +kernel, rfl⟩
theorem dX7_between_128 : zD cX7_between 128 (.iinc 3 1) 3 131 := ⟨by decide +kernel, rfl⟩
theorem dX7_between_131 : zD cX7_between 131 (.goto (-95)) 3 134 := ⟨by decide +kernel, rfl⟩
theorem dX7_between_134 : zD cX7_between 134 (.iload_n 2) 1 135 := ⟨by decide +kernel, rfl⟩
theorem dX7_between_135 : zD cX7_between 135 (.ireturn) 1 136 := ⟨by decide +kernel, rfl⟩
theorem dX7_way_0 : zD cX7_way 0 (.aload_n 0) 1 1 := ⟨by decide +kernel, rfl⟩
theorem dX7_way_1 : zD cX7_way 1 (.aload_n 0) 1 2 := ⟨by decide +kernel, rfl⟩
theorem dX7_way_2 : zD cX7_way 2 (.getfield 56) 3 5 := ⟨by decide +kernel, rfl⟩
theorem dX7_way_5 : zD cX7_way 5 (.iload_n 1) 1 6 := ⟨by decide +kernel, rfl⟩
theorem dX7_way_6 : zD cX7_way 6 (.invokestatic 204) 3 9 := ⟨by decide +kernel, rfl⟩
theorem dX7_way_9 : zD cX7_way 9 (.ifCond .eq 11) 3 12 := ⟨by decide +kernel, rfl⟩
theorem dX7_way_12 : zD cX7_way 12 (.aload_n 0) 1 13 := ⟨by decide +kernel, rfl⟩
theorem dX7_way_13 : zD cX7_way 13 (.iload_n 2) 1 14 := ⟨by decide +kernel, rfl⟩
theorem dX7_way_14 : zD cX7_way 14 (.invokevirtual 201) 3 17 := ⟨by decide +kernel, rfl⟩
theorem dX7_way_17 : zD cX7_way 17 (.ifCond .ne 7) 3 20 := ⟨by decide +kernel, rfl⟩
theorem dX7_way_20 : zD cX7_way 20 (.iconst 1) 1 21 := ⟨by decide +kernel, rfl⟩
theorem dX7_way_21 : zD cX7_way 21 (.goto 20) 3 24 := ⟨by decide +kernel, rfl⟩
theorem dX7_way_24 : zD cX7_way 24 (.iload_n 3) 1 25 := ⟨by decide +kernel, rfl⟩
theorem dX7_way_25 : zD cX7_way 25 (.i2l) 1 26 := ⟨by decide +kernel, rfl⟩
theorem dX7_way_26 : zD cX7_way 26 (.lconst 0) 1 27 := ⟨by decide +kernel, rfl⟩
theorem dX7_way_27 : zD cX7_way 27 (.ldc2_w 199) 3 30 := ⟨by decide +kernel, rfl⟩
theorem dX7_way_30 : zD cX7_way 30 (.invokestatic 97) 3 33 := ⟨by decide +kernel, rfl⟩
theorem dX7_way_33 : zD cX7_way 33 (.ifCond .ne 7) 3 36 := ⟨by decide +kernel, rfl⟩
theorem dX7_way_36 : zD cX7_way 36 (.iconst 2) 1 37 := ⟨by decide +kernel, rfl⟩
theorem dX7_way_37 : zD cX7_way 37 (.goto 4) 3 40 := ⟨by decide +kernel, rfl⟩
theorem dX7_way_40 : zD cX7_way 40 (.iconst 0) 1 41 := ⟨by decide +kernel, rfl⟩
theorem dX7_way_41 : zD cX7_way 41 (.invokevirtual 112) 3 44 := ⟨by decide +kernel, rfl⟩
theorem dX7_way_44 : zD cX7_way 44 (.ifCond .eq 5) 3 47 := ⟨by decide +kernel, rfl⟩
theorem dX7_way_47 : zD cX7_way 47 (.iconst 0) 1 48 := ⟨by decide +kernel, rfl⟩
theorem dX7_way_48 : zD cX7_way 48 (.ireturn) 1 49 := ⟨by decide +kernel, rfl⟩
theorem dX7_way_49 : zD cX7_way 49 (.aload_n 0) 1 50 := ⟨by decide +kernel, rfl⟩
theorem dX7_way_50 : zD cX7_way 50 (.aload_n 0) 1 51 := ⟨by decide +kernel, rfl⟩
theorem dX7_way_51 : zD cX7_way 51 (.getfield 56) 3 54 := ⟨by decide +kernel, rfl⟩
theorem dX7_way_54 : zD cX7_way 54 (.iload_n 1) 1 55 := ⟨by decide +kernel, rfl⟩
theorem dX7_way_55 : zD cX7_way 55 (.iload_n 2) 1 56 := ⟨by decide +kernel, rfl⟩
theorem dX7_way_56 : zD cX7_way 56 (.invokevirtual 231) 3 59 := ⟨by decide +kernel, rfl⟩
theorem dX7_way_59 : zD cX7_way 59 (.ifCond .ne 6) 3 62 := ⟨by decide +kernel, rfl⟩
theorem dX7_way_62 : zD cX7_way 62 (.bipush (-9)) 2 64 := ⟨by decide +kernel, rfl⟩
theorem dX7_way_64 : zD cX7_way 64 (.ireturn) 1 65 := ⟨by decide +kernel, rfl⟩
theorem dX7_way_65 : zD cX7_way 65 (.iload_n 3) 1 66 := ⟨by decide +kernel, rfl⟩
theorem dX7_way_66 : zD cX7_way 66 (.ifCond .ne 10) 3 69 := ⟨by decide +kernel, rfl⟩
theorem dX7_way_69 : zD cX7_way 69 (.aload_n 0) 1 70 := ⟨by decide +kernel, rfl⟩
theorem dX7_way_70 : zD cX7_way 70 (.getfield 235) 3 73 := ⟨by decide +kernel, rfl⟩
theorem dX7_way_73 : zD cX7_way 73 (.goto 43) 3 76 := ⟨by decide +kernel, rfl⟩
theorem dX7_way_76 : zD cX7_way 76 (.iload_n 3) 1 77 := ⟨by decide +kernel, rfl⟩
theorem dX7_way_77 : zD cX7_way 77 (.iconst 1) 1 78 := ⟨by decide +kernel, rfl⟩
theorem dX7_way_78 : zD cX7_way 78 (.if_icmp .ne 10) 3 81 := ⟨by decide +kernel, rfl⟩
theorem dX7_way_81 : zD cX7_way 81 (.aload_n 0) 1 82 := ⟨by decide +kernel, rfl⟩
theorem dX7_way_82 : zD cX7_way 82 (.getfield 300) 3 85 := ⟨by decide +kernel, rfl⟩
theorem dX7_way_85 : zD cX7_way 85 (.goto 31) 3 88 := ⟨by decide +kernel, rfl⟩
theorem dX7_way_88 : zD cX7_way 88 (.iload_n 3) 1 89 := ⟨by decide +kernel, rfl⟩
theorem dX7_way_89 : zD cX7_way 89 (.iconst 2) 1 90 := ⟨by decide +kernel, rfl⟩
theorem dX7_way_90 : zD cX7_way 90 (.if_icmp .ne 10) 3 93 := ⟨by decide +kernel, rfl⟩
theorem dX7_way_93 : zD cX7_way 93 (.aload_n 0) 1 94 := ⟨by decide +kernel, rfl⟩
theorem dX7_way_94 : zD cX7_way 94 (.getfield 238) 3 97 := ⟨by decide +kernel, rfl⟩
theorem dX7_way_97 : zD cX7_way 97 (.goto 19) 3 100 := ⟨by decide +kernel, rfl⟩
theorem dX7_way_100 : zD cX7_way 100 (.iload_n 3) 1 101 := ⟨by decide +kernel, rfl⟩
theorem dX7_way_101 : zD cX7_way 101 (.iconst 3) 1 102 := ⟨by decide +kernel, rfl⟩
theorem dX7_way_102 : zD cX7_way 102 (.if_icmp .ne 10) 3 105 := ⟨by decide +kernel, rfl⟩
theorem dX7_way_105 : zD cX7_way 105 (.aload_n 0) 1 106 := ⟨by decide +kernel, rfl⟩
theorem dX7_way_106 : zD cX7_way 106 (.getfield 241) 3 109 := ⟨by decide +kernel, rfl⟩
theorem dX7_way_109 : zD cX7_way 109 (.goto 7) 3 112 := ⟨by decide +kernel, rfl⟩
theorem dX7_way_112 : zD cX7_way 112 (.aload_n 0) 1 113 := ⟨by decide +kernel, rfl⟩
theorem dX7_way_113 : zD cX7_way 113 (.getfield 244) 3 116 := ⟨by decide +kernel, rfl⟩
theorem dX7_way_116 : zD cX7_way 116 (.ireturn) 1 117 := ⟨by decide +kernel, rfl⟩
theorem dX7_bestFor_0 : zD cX7_bestFor 0 (.aload_n 0) 1 1 := ⟨by decide +kernel, rfl⟩
theorem dX7_bestFor_1 : zD cX7_bestFor 1 (.aload_n 0) 1 2 := ⟨by decide +kernel, rfl⟩
theorem dX7_bestFor_2 : zD cX7_bestFor 2 (.iload_n 1) 1 3 := ⟨by decide +kernel, rfl⟩
theorem dX7_bestFor_3 : zD cX7_bestFor 3 (.invokevirtual 201) 3 6 := ⟨by decide +kernel, rfl⟩
theorem dX7_bestFor_6 : zD cX7_bestFor 6 (.ifCond .eq 7) 3 9 := ⟨by decide +kernel, rfl⟩
theorem dX7_bestFor_9 : zD cX7_bestFor 9 (.iconst 0) 1 10 := ⟨by decide +kernel, rfl⟩
theorem dX7_bestFor_10 : zD cX7_bestFor 10 (.goto 4) 3 13 := ⟨by decide +kernel, rfl⟩
theorem dX7_bestFor_13 : zD cX7_bestFor 13 (.iconst 1) 1 14 := ⟨by decide +kernel, rfl⟩
theorem dX7_bestFor_14 : zD cX7_bestFor 14 (.invokevirtual 112) 3 17 := ⟨by decide +kernel, rfl⟩
theorem dX7_bestFor_17 : zD cX7_bestFor 17 (.ifCond .eq 5) 3 20 := ⟨by decide +kernel, rfl⟩
theorem dX7_bestFor_20 : zD cX7_bestFor 20 (.iconst 0) 1 21 := ⟨by decide +kernel, rfl⟩
theorem dX7_bestFor_21 : zD cX7_bestFor 21 (.ireturn) 1 22 := ⟨by decide +kernel, rfl⟩
theorem dX7_bestFor_22 : zD cX7_bestFor 22 (.bipush (-9)) 2 24 := ⟨by decide +kernel, rfl⟩
theorem dX7_bestFor_24 : zD cX7_bestFor 24 (.istore_n 2) 1 25 := ⟨by decide +kernel, rfl⟩
theorem dX7_bestFor_25 : zD cX7_bestFor 25 (.iconst 0) 1 26 := ⟨by decide +kernel, rfl⟩
theorem dX7_bestFor_26 : zD cX7_bestFor 26 (.istore_n 3) 1 27 := ⟨by decide +kernel, rfl⟩
theorem dX7_bestFor_27 : zD cX7_bestFor 27 (.iconst 0) 1 28 := ⟨by decide +kernel, rfl⟩
theorem dX7_bestFor_28 : zD cX7_bestFor 28 (.istore 4) 2 30 := ⟨by decide +kernel, rfl⟩
theorem dX7_bestFor_30 : zD cX7_bestFor 30 (.iconst 0) 1 31 := ⟨by decide +kernel, rfl⟩
theorem dX7_bestFor_31 : zD cX7_bestFor 31 (.istore 5) 2 33 := ⟨by decide +kernel, rfl⟩
theorem dX7_bestFor_33 : zD cX7_bestFor 33 (.iload 5) 2 35 := ⟨by decide +kernel, rfl⟩
theorem dX7_bestFor_35 : zD cX7_bestFor 35 (.aload_n 0) 1 36 := ⟨by decide +kernel, rfl⟩
theorem dX7_bestFor_36 : zD cX7_bestFor 36 (.getfield 56) 3 39 := ⟨by decide +kernel, rfl⟩
theorem dX7_bestFor_39 : zD cX7_bestFor 39 (.iconst 0) 1 40 := ⟨by decide +kernel, rfl⟩
theorem dX7_bestFor_40 : zD cX7_bestFor 40 (.iaload) 1 41 := ⟨by decide +kernel, rfl⟩
theorem dX7_bestFor_41 : zD cX7_bestFor 41 (.if_icmp .ge 66) 3 44 := ⟨by decide +kernel, rfl⟩
theorem dX7_bestFor_44 : zD cX7_bestFor 44 (.aload_n 0) 1 45 := ⟨by decide +kernel, rfl⟩
theorem dX7_bestFor_45 : zD cX7_bestFor 45 (.aload_n 0) 1 46 := ⟨by decide +kernel, rfl⟩
theorem dX7_bestFor_46 : zD cX7_bestFor 46 (.getfield 56) 3 49 := ⟨by decide +kernel, rfl⟩
theorem dX7_bestFor_49 : zD cX7_bestFor 49 (.iload 5) 2 51 := ⟨by decide +kernel, rfl⟩
theorem dX7_bestFor_51 : zD cX7_bestFor 51 (.iload_n 1) 1 52 := ⟨by decide +kernel, rfl⟩
theorem dX7_bestFor_52 : zD cX7_bestFor 52 (.invokevirtual 231) 3 55 := ⟨by decide +kernel, rfl⟩
theorem dX7_bestFor_55 : zD cX7_bestFor 55 (.ifCond .eq 46) 3 58 := ⟨by decide +kernel, rfl⟩
theorem dX7_bestFor_58 : zD cX7_bestFor 58 (.iload_n 2) 1 59 := ⟨by decide +kernel, rfl⟩
theorem dX7_bestFor_59 : zD cX7_bestFor 59 (.ifCond .lt 28) 3 62 := ⟨by decide +kernel, rfl⟩
theorem dX7_bestFor_62 : zD cX7_bestFor 62 (.aload_n 0) 1 63 := ⟨by decide +kernel, rfl⟩
theorem dX7_bestFor_63 : zD cX7_bestFor 63 (.getfield 235) 3 66 := ⟨by decide +kernel, rfl⟩
theorem dX7_bestFor_66 : zD cX7_bestFor 66 (.iload_n 3) 1 67 := ⟨by decide +kernel, rfl⟩
theorem dX7_bestFor_67 : zD cX7_bestFor 67 (.if_icmp .lt 20) 3 70 := ⟨by decide +kernel, rfl⟩
theorem dX7_bestFor_70 : zD cX7_bestFor 70 (.aload_n 0) 1 71 := ⟨by decide +kernel, rfl⟩
theorem dX7_bestFor_71 : zD cX7_bestFor 71 (.getfield 235) 3 74 := ⟨by decide +kernel, rfl⟩
theorem dX7_bestFor_74 : zD cX7_bestFor 74 (.iload_n 3) 1 75 := ⟨by decide +kernel, rfl⟩
theorem dX7_bestFor_75 : zD cX7_bestFor 75 (.if_icmp .ne 26) 3 78 := ⟨by decide +kernel, rfl⟩
theorem dX7_bestFor_78 : zD cX7_bestFor 78 (.aload_n 0) 1 79 := ⟨by decide +kernel, rfl⟩
theorem dX7_bestFor_79 : zD cX7_bestFor 79 (.getfield 244) 3 82 := ⟨by decide +kernel, rfl⟩
theorem dX7_bestFor_82 : zD cX7_bestFor 82 (.iload 4) 2 84 := ⟨by decide +kernel, rfl⟩
theorem dX7_bestFor_84 : zD cX7_bestFor 84 (.if_icmp .ge 17) 3 87 := ⟨by decide +kernel, rfl⟩
theorem dX7_bestFor_87 : zD cX7_bestFor 87 (.iload 5) 2 89 := ⟨by decide +kernel, rfl⟩
theorem dX7_bestFor_89 : zD cX7_bestFor 89 (.istore_n 2) 1 90 := ⟨by decide +kernel, rfl⟩
theorem dX7_bestFor_90 : zD cX7_bestFor 90 (.aload_n 0) 1 91 := ⟨by decide +kernel, rfl⟩
theorem dX7_bestFor_91 : zD cX7_bestFor 91 (.getfield 235) 3 94 := ⟨by decide +kernel, rfl⟩
theorem dX7_bestFor_94 : zD cX7_bestFor 94 (.istore_n 3) 1 95 := ⟨by decide +kernel, rfl⟩
theorem dX7_bestFor_95 : zD cX7_bestFor 95 (.aload_n 0) 1 96 := ⟨by decide +kernel, rfl⟩
theorem dX7_bestFor_96 : zD cX7_bestFor 96 (.getfield 244) 3 99 := ⟨by decide +kernel, rfl⟩
theorem dX7_bestFor_99 : zD cX7_bestFor 99 (.istore 4) 2 101 := ⟨by decide +kernel, rfl⟩
theorem dX7_bestFor_101 : zD cX7_bestFor 101 (.iinc 5 1) 3 104 := ⟨by decide +kernel, rfl⟩
theorem dX7_bestFor_104 : zD cX7_bestFor 104 (.goto (-71)) 3 107 := ⟨by decide +kernel, rfl⟩
theorem dX7_bestFor_107 : zD cX7_bestFor 107 (.iload_n 2) 1 108 := ⟨by decide +kernel, rfl⟩
theorem dX7_bestFor_108 : zD cX7_bestFor 108 (.ireturn) 1 109 := ⟨by decide +kernel, rfl⟩
theorem dX7_victimsOf_0 : zD cX7_victimsOf 0 (.aload_n 0) 1 1 := ⟨by decide +kernel, rfl⟩
theorem dX7_victimsOf_1 : zD cX7_victimsOf 1 (.invokevirtual 247) 3 4 := ⟨by decide +kernel, rfl⟩
theorem dX7_victimsOf_4 : zD cX7_victimsOf 4 (.aload_n 0) 1 5 := ⟨by decide +kernel, rfl⟩
theorem dX7_victimsOf_5 : zD cX7_victimsOf 5 (.getfield 56) 3 8 := ⟨by decide +kernel, rfl⟩
theorem dX7_victimsOf_8 : zD cX7_victimsOf 8 (.iconst 0) 1 9 := ⟨by decide +kernel, rfl⟩
theorem dX7_victimsOf_9 : zD cX7_victimsOf 9 (.iaload) 1 10 := ⟨by decide +kernel, rfl⟩
theorem dX7_victimsOf_10 : zD cX7_victimsOf 10 (.istore_n 2) 1 11 := ⟨by decide +kernel, rfl⟩
theorem dX7_victimsOf_11 : zD cX7_victimsOf 11 (.aload_n 0) 1 12 := ⟨by decide +kernel, rfl⟩
theorem dX7_victimsOf_12 : zD cX7_victimsOf 12 (.aload_n 0) 1 13 := ⟨by decide +kernel, rfl⟩
theorem dX7_victimsOf_13 : zD cX7_victimsOf 13 (.getfield 59) 3 16 := ⟨by decide +kernel, rfl⟩
theorem dX7_victimsOf_16 : zD cX7_victimsOf 16 (.iconst 0) 1 17 := ⟨by decide +kernel, rfl⟩
theorem dX7_victimsOf_17 : zD cX7_victimsOf 17 (.iload_n 1) 1 18 := ⟨by decide +kernel, rfl⟩
theorem dX7_victimsOf_18 : zD cX7_victimsOf 18 (.invokevirtual 250) 3 21 := ⟨by decide +kernel, rfl⟩
theorem dX7_victimsOf_21 : zD cX7_victimsOf 21 (.ifCond .le 6) 3 24 := ⟨by decide +kernel, rfl⟩
theorem dX7_victimsOf_24 : zD cX7_victimsOf 24 (.bipush (-9)) 2 26 := ⟨by decide +kernel, rfl⟩
theorem dX7_victimsOf_26 : zD cX7_victimsOf 26 (.ireturn) 1 27 := ⟨by decide +kernel, rfl⟩
theorem dX7_victimsOf_27 : zD cX7_victimsOf 27 (.iconst 1) 1 28 := ⟨by decide +kernel, rfl⟩
theorem dX7_victimsOf_28 : zD cX7_victimsOf 28 (.iload_n 2) 1 29 := ⟨by decide +kernel, rfl⟩
theorem dX7_victimsOf_29 : zD cX7_victimsOf 29 (.ishl) 1 30 := ⟨by decide +kernel, rfl⟩
theorem dX7_victimsOf_30 : zD cX7_victimsOf 30 (.iconst 1) 1 31 := ⟨by decide +kernel, rfl⟩
theorem dX7_victimsOf_31 : zD cX7_victimsOf 31 (.isub) 1 32 := ⟨by decide +kernel, rfl⟩
theorem dX7_victimsOf_32 : zD cX7_victimsOf 32 (.istore_n 3) 1 33 := ⟨by decide +kernel, rfl⟩
theorem dX7_victimsOf_33 : zD cX7_victimsOf 33 (.iconst 1) 1 34 := ⟨by decide +kernel, rfl⟩
theorem dX7_victimsOf_34 : zD cX7_victimsOf 34 (.istore 4) 2 36 := ⟨by decide +kernel, rfl⟩
theorem dX7_victimsOf_36 : zD cX7_victimsOf 36 (.iload 4) 2 38 := ⟨by decide +kernel, rfl⟩
theorem dX7_victimsOf_38 : zD cX7_victimsOf 38 (.aload_n 0) 1 39 := ⟨by decide +kernel, rfl⟩
theorem dX7_victimsOf_39 : zD cX7_victimsOf 39 (.getfield 59) 3 42 := ⟨by decide +kernel, rfl⟩
theorem dX7_victimsOf_42 : zD cX7_victimsOf 42 (.iconst 0) 1 43 := ⟨by decide +kernel, rfl⟩
theorem dX7_victimsOf_43 : zD cX7_victimsOf 43 (.iaload) 1 44 := ⟨by decide +kernel, rfl⟩
theorem dX7_victimsOf_44 : zD cX7_victimsOf 44 (.if_icmp .ge 29) 3 47 := ⟨by decide +kernel, rfl⟩
theorem dX7_victimsOf_47 : zD cX7_victimsOf 47 (.iload_n 3) 1 48 := ⟨by decide +kernel, rfl⟩
theorem dX7_victimsOf_48 : zD cX7_victimsOf 48 (.iconst 1) 1 49 := ⟨by decide +kernel, rfl⟩
theorem dX7_victimsOf_49 : zD cX7_victimsOf 49 (.aload_n 0) 1 50 := ⟨by decide +kernel, rfl⟩
theorem dX7_victimsOf_50 : zD cX7_victimsOf 50 (.getfield 59) 3 53 := ⟨by decide +kernel, rfl⟩
theorem dX7_victimsOf_53 : zD cX7_victimsOf 53 (.iload 4) 2 55 := ⟨by decide +kernel, rfl⟩
theorem dX7_victimsOf_55 : zD cX7_victimsOf 55 (.invokestatic 163) 3 58 := ⟨by decide +kernel, rfl⟩
theorem dX7_victimsOf_58 : zD cX7_victimsOf 58 (.bipush 27) 2 60 := ⟨by decide +kernel, rfl⟩
theorem dX7_victimsOf_60 : zD cX7_victimsOf 60 (.iadd) 1 61 := ⟨by decide +kernel, rfl⟩
theorem dX7_victimsOf_61 : zD cX7_victimsOf 61 (.iaload) 1 62 := ⟨by decide +kernel, rfl⟩
theorem dX7_victimsOf_62 : zD cX7_victimsOf 62 (.ishl) 1 63 := ⟨by decide +kernel, rfl⟩
theorem dX7_victimsOf_63 : zD cX7_victimsOf 63 (.iconst (-1)) 1 64 := ⟨by decide +kernel, rfl⟩
theorem dX7_victimsOf_64 : zD cX7_victimsOf 64 (.ixor) 1 65 := ⟨by decide +kernel, rfl⟩
theorem dX7_victimsOf_65 : zD cX7_victimsOf 65 (.iand) 1 66 := ⟨by decide +kernel, rfl⟩
theorem dX7_victimsOf_66 : zD cX7_victimsOf 66 (.istore_n 3) 1 67 := ⟨by decide +kernel, rfl⟩
theorem dX7_victimsOf_67 : zD cX7_victimsOf 67 (.iinc 4 1) 3 70 := ⟨by decide +kernel, rfl⟩
theorem dX7_victimsOf_70 : zD cX7_victimsOf 70 (.goto (-34)) 3 73 := ⟨by decide +kernel, rfl⟩
theorem dX7_victimsOf_73 : zD cX7_victimsOf 73 (.iload_n 3) 1 74 := ⟨by decide +kernel, rfl⟩
theorem dX7_victimsOf_74 : zD cX7_victimsOf 74 (.ireturn) 1 75 := ⟨by decide +kernel, rfl⟩
theorem dX7_victims_0 : zD cX7_victims 0 (.aload_n 0) 1 1 := ⟨by decide +kernel, rfl⟩
theorem dX7_victims_1 : zD cX7_victims 1 (.iload_n 1) 1 2 := ⟨by decide +kernel, rfl⟩
theorem dX7_victims_2 : zD cX7_victims 2 (.i2l) 1 3 := ⟨by decide +kernel, rfl⟩
theorem dX7_victims_3 : zD cX7_victims 3 (.lconst 1) 1 4 := ⟨by decide +kernel, rfl⟩
theorem dX7_victims_4 : zD cX7_victims 4 (.ldc2_w 217) 3 7 := ⟨by decide +kernel, rfl⟩
theorem dX7_victims_7 : zD cX7_victims 7 (.invokestatic 97) 3 10 := ⟨by decide +kernel, rfl⟩
theorem dX7_victims_10 : zD cX7_victims 10 (.ifCond .eq 7) 3 13 := ⟨by decide +kernel, rfl⟩
theorem dX7_victims_13 : zD cX7_victims 13 (.iconst 0) 1 14 := ⟨by decide +kernel, rfl⟩
theorem dX7_victims_14 : zD cX7_victims 14 (.goto 4) 3 17 := ⟨by decide +kernel, rfl⟩
theorem dX7_victims_17 : zD cX7_victims 17 (.iconst 1) 1 18 := ⟨by decide +kernel, rfl⟩
theorem dX7_victims_18 : zD cX7_victims 18 (.invokevirtual 112) 3 21 := ⟨by decide +kernel, rfl⟩
theorem dX7_victims_21 : zD cX7_victims 21 (.ifCond .eq 5) 3 24 := ⟨by decide +kernel, rfl⟩
theorem dX7_victims_24 : zD cX7_victims 24 (.iconst 0) 1 25 := ⟨by decide +kernel, rfl⟩
theorem dX7_victims_25 : zD cX7_victims 25 (.ireturn) 1 26 := ⟨by decide +kernel, rfl⟩
theorem dX7_victims_26 : zD cX7_victims 26 (.aload_n 0) 1 27 := ⟨by decide +kernel, rfl⟩
theorem dX7_victims_27 : zD cX7_victims 27 (.iload_n 1) 1 28 := ⟨by decide +kernel, rfl⟩
theorem dX7_victims_28 : zD cX7_victims 28 (.invokevirtual 303) 3 31 := ⟨by decide +kernel, rfl⟩
theorem dX7_victims_31 : zD cX7_victims 31 (.ireturn) 1 32 := ⟨by decide +kernel, rfl⟩
theorem dX7_room_0 : zD cX7_room 0 (.aload_n 0) 1 1 := ⟨by decide +kernel, rfl⟩
theorem dX7_room_1 : zD cX7_room 1 (.iconst 0) 1 2 := ⟨by decide +kernel, rfl⟩
theorem dX7_room_2 : zD cX7_room 2 (.putfield 84) 3 5 := ⟨by decide +kernel, rfl⟩
theorem dX7_room_5 : zD cX7_room 5 (.iconst 0) 1 6 := ⟨by decide +kernel, rfl⟩
theorem dX7_room_6 : zD cX7_room 6 (.istore_n 1) 1 7 := ⟨by decide +kernel, rfl⟩
theorem dX7_room_7 : zD cX7_room 7 (.iconst 0) 1 8 := ⟨by decide +kernel, rfl⟩
theorem dX7_room_8 : zD cX7_room 8 (.istore_n 2) 1 9 := ⟨by decide +kernel, rfl⟩
theorem dX7_room_9 : zD cX7_room 9 (.iload_n 2) 1 10 := ⟨by decide +kernel, rfl⟩
theorem dX7_room_10 : zD cX7_room 10 (.aload_n 0) 1 11 := ⟨by decide +kernel, rfl⟩
theorem dX7_room_11 : zD cX7_room 11 (.getfield 56) 3 14 := ⟨by decide +kernel, rfl⟩
theorem dX7_room_14 : zD cX7_room 14 (.iconst 0) 1 15 := ⟨by decide +kernel, rfl⟩
theorem dX7_room_15 : zD cX7_room 15 (.iaload) 1 16 := ⟨by decide +kernel, rfl⟩
theorem dX7_room_16 : zD cX7_room 16 (.if_icmp .ge 61) 3 19 := ⟨by decide +kernel, rfl⟩
theorem dX7_room_19 : zD cX7_room 19 (.iconst 0) 1 20 := ⟨by decide +kernel, rfl⟩
theorem dX7_room_20 : zD cX7_room 20 (.istore_n 3) 1 21 := ⟨by decide +kernel, rfl⟩
theorem dX7_room_21 : zD cX7_room 21 (.iload_n 3) 1 22 := ⟨by decide +kernel, rfl⟩
theorem dX7_room_22 : zD cX7_room 22 (.bipush 8) 2 24 := ⟨by decide +kernel, rfl⟩
theorem dX7_room_24 : zD cX7_room 24 (.if_icmp .ge 47) 3 27 := ⟨by decide +kernel, rfl⟩
theorem dX7_room_27 : zD cX7_room 27 (.iload_n 1) 1 28 := ⟨by decide +kernel, rfl⟩
theorem dX7_room_28 : zD cX7_room 28 (.aload_n 0) 1 29 := ⟨by decide +kernel, rfl⟩
theorem dX7_room_29 : zD cX7_room 29 (.getfield 56) 3 32 := ⟨by decide +kernel, rfl⟩
theorem dX7_room_32 : zD cX7_room 32 (.iload_n 2) 1 33 := ⟨by decide +kernel, rfl⟩
theorem dX7_room_33 : zD cX7_room 33 (.invokestatic 163) 3 36 := ⟨by decide +kernel, rfl⟩
theorem dX7_room_36 : zD cX7_room 36 (.bipush 16) 2 38 := ⟨by decide +kernel, rfl⟩
theorem dX7_room_38 : zD cX7_room 38 (.iadd) 1 39 := ⟨by decide +kernel, rfl⟩
theorem dX7_room_39 : zD cX7_room 39 (.iload_n 3) 1 40 := ⟨by decide +kernel, rfl⟩
theorem dX7_room_40 : zD cX7_room 40 (.iadd) 1 41 := ⟨by decide +kernel, rfl⟩
theorem dX7_room_41 : zD cX7_room 41 (.iaload) 1 42 := ⟨by decide +kernel, rfl⟩
theorem dX7_room_42 : zD cX7_room 42 (.iconst 2) 1 43 := ⟨by decide +kernel, rfl⟩
theorem dX7_room_43 : zD cX7_room 43 (.if_icmp .ne 19) 3 46 := ⟨by decide +kernel, rfl⟩
theorem dX7_room_46 : zD cX7_room 46 (.aload_n 0) 1 47 := ⟨by decide +kernel, rfl⟩
theorem dX7_room_47 : zD cX7_room 47 (.getfield 56) 3 50 := ⟨by decide +kernel, rfl⟩
theorem dX7_room_50 : zD cX7_room 50 (.iload_n 2) 1 51 := ⟨by decide +kernel, rfl⟩
theorem dX7_room_51 : zD cX7_room 51 (.invokestatic 163) 3 54 := ⟨by decide +kernel, rfl⟩
theorem dX7_room_54 : zD cX7_room 54 (.iconst 0) 1 55 := ⟨by decide +kernel, rfl⟩
theorem dX7_room_55 : zD cX7_room 55 (.iadd) 1 56 := ⟨by decide +kernel, rfl⟩
theorem dX7_room_56 : zD cX7_room 56 (.iload_n 3) 1 57 := ⟨by decide +kernel, rfl⟩
theorem dX7_room_57 : zD cX7_room 57 (.iadd) 1 58 := ⟨by decide +kernel, rfl⟩
theorem dX7_room_58 : zD cX7_room 58 (.iaload) 1 59 := ⟨by decide +kernel, rfl⟩
theorem dX7_room_59 : zD cX7_room 59 (.goto 4) 3 62 := ⟨by decide +kernel, rfl⟩
theorem dX7_room_62 : zD cX7_room 62 (.iconst 0) 1 63 := ⟨by decide +kernel, rfl⟩
theorem dX7_room_63 : zD cX7_room 63 (.iadd) 1 64 := ⟨by decide +kernel, rfl⟩
theorem dX7_room_64 : zD cX7_room 64 (.istore_n 1) 1 65 := ⟨by decide +kernel, rfl⟩
theorem dX7_room_65 : zD cX7_room 65 (.iinc 3 1) 3 68 := ⟨by decide +kernel, rfl⟩
theorem dX7_room_68 : zD cX7_room 68 (.goto (-47)) 3 71 := ⟨by decide +kernel, rfl⟩
theorem dX7_room_71 : zD cX7_room 71 (.iinc 2 1) 3 74 := ⟨by decide +kernel, rfl⟩
theorem dX7_room_74 : zD cX7_room 74 (.goto (-65)) 3 77 := ⟨by decide +kernel, rfl⟩
theorem dX7_room_77 : zD cX7_room 77 (.aload_n 0) 1 78 := ⟨by decide +kernel, rfl⟩
theorem dX7_room_78 : zD cX7_room 78 (.getfield 56) 3 81 := ⟨by decide +kernel, rfl⟩
theorem dX7_room_81 : zD cX7_room 81 (.iconst 3) 1 82 := ⟨by decide +kernel, rfl⟩
theorem dX7_room_82 : zD cX7_room 82 (.iaload) 1 83 := ⟨by decide +kernel, rfl⟩
theorem dX7_room_83 : zD cX7_room 83 (.aload_n 0) 1 84 := ⟨by decide +kernel, rfl⟩
theorem dX7_room_84 : zD cX7_room 84 (.getfield 56) 3 87 := ⟨by decide +kernel, rfl⟩
theorem dX7_room_87 : zD cX7_room 87 (.invokestatic 176) 3 90 := ⟨by decide +kernel, rfl⟩
theorem dX7_room_90 : zD cX7_room 90 (.isub) 1 91 := ⟨by decide +kernel, rfl⟩
theorem dX7_room_91 : zD cX7_room 91 (.iload_n 1) 1 92 := ⟨by decide +kernel, rfl⟩
theorem dX7_room_92 : zD cX7_room 92 (.iadd) 1 93 := ⟨by decide +kernel, rfl⟩
theorem dX7_room_93 : zD cX7_room 93 (.istore_n 2) 1 94 := ⟨by decide +kernel, rfl⟩
theorem dX7_room_94 : zD cX7_room 94 (.aload_n 0) 1 95 := ⟨by decide +kernel, rfl⟩
theorem dX7_room_95 : zD cX7_room 95 (.getfield 56) 3 98 := ⟨by decide +kernel, rfl⟩
theorem dX7_room_98 : zD cX7_room 98 (.iconst 0) 1 99 := ⟨by decide +kernel, rfl⟩
theorem dX7_room_99 : zD cX7_room 99 (.iaload) 1 100 := ⟨by decide +kernel, rfl⟩
theorem dX7_room_100 : zD cX7_room 100 (.bipush 12) 2 102 := ⟨by decide +kernel, rfl⟩
theorem dX7_room_102 : zD cX7_room 102 (.if_icmp .eq 7) 3 105 := ⟨by decide +kernel, rfl⟩
theorem dX7_room_105 : zD cX7_room 105 (.iload_n 2) 1 106 := ⟨by decide +kernel, rfl⟩
theorem dX7_room_106 : zD cX7_room 106 (.ifCond .ge 7) 3 109 := ⟨by decide +kernel, rfl⟩
theorem dX7_room_109 : zD cX7_room 109 (.iconst 0) 1 110 := ⟨by decide +kernel, rfl⟩
theorem dX7_room_110 : zD cX7_room 110 (.goto 17) 3 113 := ⟨by decide +kernel, rfl⟩
theorem dX7_room_113 : zD cX7_room 113 (.iload_n 2) 1 114 := ⟨by decide +kernel, rfl⟩
theorem dX7_room_114 : zD cX7_room 114 (.sipush 9999) 3 117 := ⟨by decide +kernel, rfl⟩
theorem dX7_room_117 : zD cX7_room 117 (.if_icmp .le 9) 3 120 := ⟨by decide +kernel, rfl⟩
theorem dX7_room_120 : zD cX7_room 120 (.sipush 9999) 3 123 := ⟨by decide +kernel, rfl⟩
theorem dX7_room_123 : zD cX7_room 123 (.goto 4) 3 126 := ⟨by decide +kernel, rfl⟩
theorem dX7_room_126 : zD cX7_room 126 (.iload_n 2) 1 127 := ⟨by decide +kernel, rfl⟩
theorem dX7_room_127 : zD cX7_room 127 (.ireturn) 1 128 := ⟨by decide +kernel, rfl⟩
theorem dX7_ranked_0 : zD cX7_ranked 0 (.aload_n 0) 1 1 := ⟨by decide +kernel, rfl⟩
theorem dX7_ranked_1 : zD cX7_ranked 1 (.aload_n 0) 1 2 := ⟨by decide +kernel, rfl⟩
theorem dX7_ranked_2 : zD cX7_ranked 2 (.getfield 56) 3 5 := ⟨by decide +kernel, rfl⟩
theorem dX7_ranked_5 : zD cX7_ranked 5 (.iload_n 1) 1 6 := ⟨by decide +kernel, rfl⟩
theorem dX7_ranked_6 : zD cX7_ranked 6 (.invokestatic 204) 3 9 := ⟨by decide +kernel, rfl⟩
theorem dX7_ranked_9 : zD cX7_ranked 9 (.ifCond .eq 7) 3 12 := ⟨by decide +kernel, rfl⟩
theorem dX7_ranked_12 : zD cX7_ranked 12 (.iconst 0) 1 13 := ⟨by decide +kernel, rfl⟩
theorem dX7_ranked_13 : zD cX7_ranked 13 (.goto 4) 3 16 := ⟨by decide +kernel, rfl⟩
theorem dX7_ranked_16 : zD cX7_ranked 16 (.iconst 1) 1 17 := ⟨by decide +kernel, rfl⟩
theorem dX7_ranked_17 : zD cX7_ranked 17 (.invokevirtual 112) 3 20 := ⟨by decide +kernel, rfl⟩
theorem dX7_ranked_20 : zD cX7_ranked 20 (.ifCond .eq 5) 3 23 := ⟨by decide +kernel, rfl⟩
theorem dX7_ranked_23 : zD cX7_ranked 23 (.iconst 0) 1 24 := ⟨by decide +kernel, rfl⟩
theorem dX7_ranked_24 : zD cX7_ranked 24 (.ireturn) 1 25 := ⟨by decide +kernel, rfl⟩
theorem dX7_ranked_25 : zD cX7_ranked 25 (.iconst 0) 1 26 := ⟨by decide +kernel, rfl⟩
theorem dX7_ranked_26 : zD cX7_ranked 26 (.istore_n 2) 1 27 := ⟨by decide +kernel, rfl⟩
theorem dX7_ranked_27 : zD cX7_ranked 27 (.iconst 0) 1 28 := ⟨by decide +kernel, rfl⟩
theorem dX7_ranked_28 : zD cX7_ranked 28 (.istore_n 3) 1 29 := ⟨by decide +kernel, rfl⟩
theorem dX7_ranked_29 : zD cX7_ranked 29 (.iload_n 3) 1 30 := ⟨by decide +kernel, rfl⟩
theorem dX7_ranked_30 : zD cX7_ranked 30 (.aload_n 0) 1 31 := ⟨by decide +kernel, rfl⟩
theorem dX7_ranked_31 : zD cX7_ranked 31 (.getfield 56) 3 34 := ⟨by decide +kernel, rfl⟩
theorem dX7_ranked_34 : zD cX7_ranked 34 (.iconst 0) 1 35 := ⟨by decide +kernel, rfl⟩
theorem dX7_ranked_35 : zD cX7_ranked 35 (.iaload) 1 36 := ⟨by decide +kernel, rfl⟩
theorem dX7_ranked_36 : zD cX7_ranked 36 (.if_icmp .ge 100) 3 39 := ⟨by decide +kernel, rfl⟩
theorem dX7_ranked_39 : zD cX7_ranked 39 (.iconst 0) 1 40 := ⟨by decide +kernel, rfl⟩
theorem dX7_ranked_40 : zD cX7_ranked 40 (.istore 4) 2 42 := ⟨by decide +kernel, rfl⟩
theorem dX7_ranked_42 : zD cX7_ranked 42 (.iconst 0) 1 43 := ⟨by decide +kernel, rfl⟩
theorem dX7_ranked_43 : zD cX7_ranked 43 (.istore 5) 2 45 := ⟨by decide +kernel, rfl⟩
theorem dX7_ranked_45 : zD cX7_ranked 45 (.iload 5) 2 47 := ⟨by decide +kernel, rfl⟩
theorem dX7_ranked_47 : zD cX7_ranked 47 (.aload_n 0) 1 48 := ⟨by decide +kernel, rfl⟩
theorem dX7_ranked_48 : zD cX7_ranked 48 (.getfield 56) 3 51 := ⟨by decide +kernel, rfl⟩
theorem dX7_ranked_51 : zD cX7_ranked 51 (.iconst 0) 1 52 := ⟨by decide +kernel, rfl⟩
theorem dX7_ranked_52 : zD cX7_ranked 52 (.iaload) 1 53 := ⟨by decide +kernel, rfl⟩
theorem dX7_ranked_53 : zD cX7_ranked 53 (.if_icmp .ge 65) 3 56 := ⟨by decide +kernel, rfl⟩
theorem dX7_ranked_56 : zD cX7_ranked 56 (.iload 4) 2 58 := ⟨by decide +kernel, rfl⟩
theorem dX7_ranked_58 : zD cX7_ranked 58 (.aload_n 0) 1 59 := ⟨by decide +kernel, rfl⟩
theorem dX7_ranked_59 : zD cX7_ranked 59 (.getfield 56) 3 62 := ⟨by decide +kernel, rfl⟩
theorem dX7_ranked_62 : zD cX7_ranked 62 (.iload 5) 2 64 := ⟨by decide +kernel, rfl⟩
theorem dX7_ranked_64 : zD cX7_ranked 64 (.invokestatic 173) 3 67 := ⟨by decide +kernel, rfl⟩
theorem dX7_ranked_67 : zD cX7_ranked 67 (.aload_n 0) 1 68 := ⟨by decide +kernel, rfl⟩
theorem dX7_ranked_68 : zD cX7_ranked 68 (.getfield 56) 3 71 := ⟨by decide +kernel, rfl⟩
theorem dX7_ranked_71 : zD cX7_ranked 71 (.iload_n 3) 1 72 := ⟨by decide +kernel, rfl⟩
theorem dX7_ranked_72 : zD cX7_ranked 72 (.invokestatic 173) 3 75 := ⟨by decide +kernel, rfl⟩
theorem dX7_ranked_75 : zD cX7_ranked 75 (.if_icmp .gt 29) 3 78 := ⟨by decide +kernel, rfl⟩
theorem dX7_ranked_78 : zD cX7_ranked 78 (.aload_n 0) 1 79 := ⟨by decide +kernel, rfl⟩
theorem dX7_ranked_79 : zD cX7_ranked 79 (.getfield 56) 3 82 := ⟨by decide +kernel, rfl⟩
theorem dX7_ranked_82 : zD cX7_ranked 82 (.iload 5) 2 84 := ⟨by decide +kernel, rfl⟩
theorem dX7_ranked_84 : zD cX7_ranked 84 (.invokestatic 173) 3 87 := ⟨by decide +kernel, rfl⟩
theorem dX7_ranked_87 : zD cX7_ranked 87 (.aload_n 0) 1 88 := ⟨by decide +kernel, rfl⟩
theorem dX7_ranked_88 : zD cX7_ranked 88 (.getfield 56) 3 91 := ⟨by decide +kernel, rfl⟩
theorem dX7_ranked_91 : zD cX7_ranked 91 (.iload_n 3) 1 92 := ⟨by decide +kernel, rfl⟩
theorem dX7_ranked_92 : zD cX7_ranked 92 (.invokestatic 173) 3 95 := ⟨by decide +kernel, rfl⟩
theorem dX7_ranked_95 : zD cX7_ranked 95 (.if_icmp .ne 13) 3 98 := ⟨by decide +kernel, rfl⟩
theorem dX7_ranked_98 : zD cX7_ranked 98 (.iload 5) 2 100 := ⟨by decide +kernel, rfl⟩
theorem dX7_ranked_100 : zD cX7_ranked 100 (.iload_n 3) 1 101 := ⟨by decide +kernel, rfl⟩
theorem dX7_ranked_101 : zD cX7_ranked 101 (.if_icmp .le 7) 3 104 := ⟨by decide +kernel, rfl⟩
theorem dX7_ranked_104 : zD cX7_ranked 104 (.iconst 1) 1 105 := ⟨by decide +kernel, rfl⟩
theorem dX7_ranked_105 : zD cX7_ranked 105 (.goto 4) 3 108 := ⟨by decide +kernel, rfl⟩
theorem dX7_ranked_108 : zD cX7_ranked 108 (.iconst 0) 1 109 := ⟨by decide +kernel, rfl⟩
theorem dX7_ranked_109 : zD cX7_ranked 109 (.iadd) 1 110 := ⟨by decide +kernel, rfl⟩
theorem dX7_ranked_110 : zD cX7_ranked 110 (.istore 4) 2 112 := ⟨by decide +kernel, rfl⟩
theorem dX7_ranked_112 : zD cX7_ranked 112 (.iinc 5 1) 3 115 := ⟨by decide +kernel, rfl⟩
theorem dX7_ranked_115 : zD cX7_ranked 115 (.goto (-70)) 3 118 := ⟨by decide +kernel, rfl⟩
theorem dX7_ranked_118 : zD cX7_ranked 118 (.iload 4) 2 120 := ⟨by decide +kernel, rfl⟩
theorem dX7_ranked_120 : zD cX7_ranked 120 (.iload_n 1) 1 121 := ⟨by decide +kernel, rfl⟩
theorem dX7_ranked_121 : zD cX7_ranked 121 (.if_icmp .ne 7) 3 124 := ⟨by decide +kernel, rfl⟩
theorem dX7_ranked_124 : zD cX7_ranked 124 (.iload_n 3) 1 125 := ⟨by decide +kernel, rfl⟩
theorem dX7_ranked_125 : zD cX7_ranked 125 (.goto 4) 3 128 := ⟨by decide +kernel, rfl⟩
theorem dX7_ranked_128 : zD cX7_ranked 128 (.iload_n 2) 1 129 := ⟨by decide +kernel, rfl⟩
theorem dX7_ranked_129 : zD cX7_ranked 129 (.istore_n 2) 1 130 := ⟨by decide +kernel, rfl⟩
theorem dX7_ranked_130 : zD cX7_ranked 130 (.iinc 3 1) 3 133 := ⟨by decide +kernel, rfl⟩
theorem dX7_ranked_133 : zD cX7_ranked 133 (.goto (-104)) 3 136 := ⟨by decide +kernel, rfl⟩
theorem dX7_ranked_136 : zD cX7_ranked 136 (.iload_n 2) 1 137 := ⟨by decide +kernel, rfl⟩
theorem dX7_ranked_137 : zD cX7_ranked 137 (.ireturn) 1 138 := ⟨by decide +kernel, rfl⟩
theorem dX7_tries_0 : zD cX7_tries 0 (.aload_n 0) 1 1 := ⟨by decide +kernel, rfl⟩
theorem dX7_tries_1 : zD cX7_tries 1 (.getfield 59) 3 4 := ⟨by decide +kernel, rfl⟩
theorem dX7_tries_4 : zD cX7_tries 4 (.iconst 0) 1 5 := ⟨by decide +kernel, rfl⟩
theorem dX7_tries_5 : zD cX7_tries 5 (.aload_n 0) 1 6 := ⟨by decide +kernel, rfl⟩
theorem dX7_tries_6 : zD cX7_tries 6 (.getfield 81) 3 9 := ⟨by decide +kernel, rfl⟩
theorem dX7_tries_9 : zD cX7_tries 9 (.iconst 0) 1 10 := ⟨by decide +kernel, rfl⟩
theorem dX7_tries_10 : zD cX7_tries 10 (.sipush 360) 3 13 := ⟨by decide +kernel, rfl⟩
theorem dX7_tries_13 : zD cX7_tries 13 (.invokestatic 90) 3 16 := ⟨by decide +kernel, rfl⟩
theorem dX7_tries_16 : zD cX7_tries 16 (.iload_n 1) 1 17 := ⟨by decide +kernel, rfl⟩
theorem dX7_tries_17 : zD cX7_tries 17 (.iconst 1) 1 18 := ⟨by decide +kernel, rfl⟩
theorem dX7_tries_18 : zD cX7_tries 18 (.if_icmp .ne 16) 3 21 := ⟨by decide +kernel, rfl⟩
theorem dX7_tries_21 : zD cX7_tries 21 (.aload_n 0) 1 22 := ⟨by decide +kernel, rfl⟩
theorem dX7_tries_22 : zD cX7_tries 22 (.aload_n 0) 1 23 := ⟨by decide +kernel, rfl⟩
theorem dX7_tries_23 : zD cX7_tries 23 (.getfield 59) 3 26 := ⟨by decide +kernel, rfl⟩
theorem dX7_tries_26 : zD cX7_tries 26 (.iload_n 2) 1 27 := ⟨by decide +kernel, rfl⟩
theorem dX7_tries_27 : zD cX7_tries 27 (.iload_n 3) 1 28 := ⟨by decide +kernel, rfl⟩
theorem dX7_tries_28 : zD cX7_tries 28 (.invokevirtual 250) 3 31 := ⟨by decide +kernel, rfl⟩
theorem dX7_tries_31 : zD cX7_tries 31 (.goto 31) 3 34 := ⟨by decide +kernel, rfl⟩
theorem dX7_tries_34 : zD cX7_tries 34 (.iload_n 1) 1 35 := ⟨by decide +kernel, rfl⟩
theorem dX7_tries_35 : zD cX7_tries 35 (.iconst 2) 1 36 := ⟨by decide +kernel, rfl⟩
theorem dX7_tries_36 : zD cX7_tries 36 (.if_icmp .ne 16) 3 39 := ⟨by decide +kernel, rfl⟩
theorem dX7_tries_39 : zD cX7_tries 39 (.aload_n 0) 1 40 := ⟨by decide +kernel, rfl⟩
theorem dX7_tries_40 : zD cX7_tries 40 (.aload_n 0) 1 41 := ⟨by decide +kernel, rfl⟩
theorem dX7_tries_41 : zD cX7_tries 41 (.getfield 59) 3 44 := ⟨by decide +kernel, rfl⟩
theorem dX7_tries_44 : zD cX7_tries 44 (.iload_n 2) 1 45 := ⟨by decide +kernel, rfl⟩
theorem dX7_tries_45 : zD cX7_tries 45 (.iload_n 3) 1 46 := ⟨by decide +kernel, rfl⟩
theorem dX7_tries_46 : zD cX7_tries 46 (.invokevirtual 256) 3 49 := ⟨by decide +kernel, rfl⟩
theorem dX7_tries_49 : zD cX7_tries 49 (.goto 13) 3 52 := ⟨by decide +kernel, rfl⟩
theorem dX7_tries_52 : zD cX7_tries 52 (.aload_n 0) 1 53 := ⟨by decide +kernel, rfl⟩
theorem dX7_tries_53 : zD cX7_tries 53 (.aload_n 0) 1 54 := ⟨by decide +kernel, rfl⟩
theorem dX7_tries_54 : zD cX7_tries 54 (.getfield 59) 3 57 := ⟨by decide +kernel, rfl⟩
theorem dX7_tries_57 : zD cX7_tries 57 (.iload_n 2) 1 58 := ⟨by decide +kernel, rfl⟩
theorem dX7_tries_58 : zD cX7_tries 58 (.iload_n 3) 1 59 := ⟨by decide +kernel, rfl⟩
theorem dX7_tries_59 : zD cX7_tries 59 (.invokevirtual 259) 3 62 := ⟨by decide +kernel, rfl⟩
theorem dX7_tries_62 : zD cX7_tries 62 (.istore 4) 2 64 := ⟨by decide +kernel, rfl⟩
theorem dX7_tries_64 : zD cX7_tries 64 (.iload 4) 2 66 := ⟨by decide +kernel, rfl⟩
theorem dX7_tries_66 : zD cX7_tries 66 (.ifCond .le 19) 3 69 := ⟨by decide +kernel, rfl⟩
theorem dX7_tries_69 : zD cX7_tries 69 (.aload_n 0) 1 70 := ⟨by decide +kernel, rfl⟩
theorem dX7_tries_70 : zD cX7_tries 70 (.getfield 81) 3 73 := ⟨by decide +kernel, rfl⟩
theorem dX7_tries_73 : zD cX7_tries 73 (.iconst 0) 1 74 := ⟨by decide +kernel, rfl⟩
theorem dX7_tries_74 : zD cX7_tries 74 (.aload_n 0) 1 75 := ⟨by decide +kernel, rfl⟩
theorem dX7_tries_75 : zD cX7_tries 75 (.getfield 59) 3 78 := ⟨by decide +kernel, rfl⟩
theorem dX7_tries_78 : zD cX7_tries 78 (.iconst 0) 1 79 := ⟨by decide +kernel, rfl⟩
theorem dX7_tries_79 : zD cX7_tries 79 (.sipush 360) 3 82 := ⟨by decide +kernel, rfl⟩
theorem dX7_tries_82 : zD cX7_tries 82 (.invokestatic 90) 3 85 := ⟨by decide +kernel, rfl⟩
theorem dX7_tries_85 : zD cX7_tries 85 (.iload 4) 2 87 := ⟨by decide +kernel, rfl⟩
theorem dX7_tries_87 : zD cX7_tries 87 (.ifCond .ne 7) 3 90 := ⟨by decide +kernel, rfl⟩
theorem dX7_tries_90 : zD cX7_tries 90 (.iconst 1) 1 91 := ⟨by decide +kernel, rfl⟩
theorem dX7_tries_91 : zD cX7_tries 91 (.goto 4) 3 94 := ⟨by decide +kernel, rfl⟩
theorem dX7_tries_94 : zD cX7_tries 94 (.iconst 0) 1 95 := ⟨by decide +kernel, rfl⟩
theorem dX7_tries_95 : zD cX7_tries 95 (.ireturn) 1 96 := ⟨by decide +kernel, rfl⟩
theorem dX7_command_0 : zD cX7_command 0 (.iload_n 1) 1 1 := ⟨by decide +kernel, rfl⟩
theorem dX7_command_1 : zD cX7_command 1 (.sipush 10000) 3 4 := ⟨by decide +kernel, rfl⟩
theorem dX7_command_4 : zD cX7_command 4 (.idiv) 1 5 := ⟨by decide +kernel, rfl⟩
theorem dX7_command_5 : zD cX7_command 5 (.bipush 10) 2 7 := ⟨by decide +kernel, rfl⟩
theorem dX7_command_7 : zD cX7_command 7 (.irem) 1 8 := ⟨by decide +kernel, rfl⟩
theorem dX7_command_8 : zD cX7_command 8 (.istore_n 2) 1 9 := ⟨by decide +kernel, rfl⟩
theorem dX7_command_9 : zD cX7_command 9 (.iload_n 1) 1 10 := ⟨by decide +kernel, rfl⟩
theorem dX7_command_10 : zD cX7_command 10 (.sipush 1000) 3 13 := ⟨by decide +kernel, rfl⟩
theorem dX7_command_13 : zD cX7_command 13 (.idiv) 1 14 := ⟨by decide +kernel, rfl⟩
theorem dX7_command_14 : zD cX7_command 14 (.bipush 100) 2 16 := ⟨by decide +kernel, rfl⟩
theorem dX7_command_16 : zD cX7_command 16 (.irem) 1 17 := ⟨by decide +kernel, rfl⟩
theorem dX7_command_17 : zD cX7_command 17 (.istore_n 3) 1 18 := ⟨by decide +kernel, rfl⟩
theorem dX7_command_18 : zD cX7_command 18 (.iload_n 1) 1 19 := ⟨by decide +kernel, rfl⟩
theorem dX7_command_19 : zD cX7_command 19 (.sipush 1000) 3 22 := ⟨by decide +kernel, rfl⟩
theorem dX7_command_22 : zD cX7_command 22 (.irem) 1 23 := ⟨by decide +kernel, rfl⟩
theorem dX7_command_23 : zD cX7_command 23 (.istore 4) 2 25 := ⟨by decide +kernel, rfl⟩
theorem dX7_command_25 : zD cX7_command 25 (.iload_n 1) 1 26 := ⟨by decide +kernel, rfl⟩
theorem dX7_command_26 : zD cX7_command 26 (.ldc_w 306) 3 29 := ⟨by decide +kernel, rfl⟩
theorem dX7_command_29 : zD cX7_command 29 (.idiv) 1 30 := ⟨by decide +kernel, rfl⟩
theorem dX7_command_30 : zD cX7_command 30 (.tableswitch 280 1 8 #[46, 58, 70, 98, 144, 172, 193, 222]) 46 76 := ⟨by decide +kernel, rfl⟩
theorem dX7_command_76 : zD cX7_command 76 (.aload_n 0) 1 77 := ⟨by decide +kernel, rfl⟩
theorem dX7_command_77 : zD cX7_command 77 (.iconst 1) 1 78 := ⟨by decide +kernel, rfl⟩
theorem dX7_command_78 : zD cX7_command 78 (.iload_n 2) 1 79 := ⟨by decide +kernel, rfl⟩
theorem dX7_command_79 : zD cX7_command 79 (.iload_n 1) 1 80 := ⟨by decide +kernel, rfl⟩
theorem dX7_command_80 : zD cX7_command 80 (.sipush 10000) 3 83 := ⟨by decide +kernel, rfl⟩
theorem dX7_command_83 : zD cX7_command 83 (.irem) 1 84 := ⟨by decide +kernel, rfl⟩
theorem dX7_command_84 : zD cX7_command 84 (.invokevirtual 307) 3 87 := ⟨by decide +kernel, rfl⟩
theorem dX7_command_87 : zD cX7_command 87 (.ireturn) 1 88 := ⟨by decide +kernel, rfl⟩
theorem dX7_command_88 : zD cX7_command 88 (.aload_n 0) 1 89 := ⟨by decide +kernel, rfl⟩
theorem dX7_command_89 : zD cX7_command 89 (.iconst 2) 1 90 := ⟨by decide +kernel, rfl⟩
theorem dX7_command_90 : zD cX7_command 90 (.iload_n 2) 1 91 := ⟨by decide +kernel, rfl⟩
theorem dX7_command_91 : zD cX7_command 91 (.iload_n 1) 1 92 := ⟨by decide +kernel, rfl⟩
theorem dX7_command_92 : zD cX7_command 92 (.sipush 10000) 3 95 := ⟨by decide +kernel, rfl⟩
theorem dX7_command_95 : zD cX7_command 95 (.irem) 1 96 := ⟨by decide +kernel, rfl⟩
theorem dX7_command_96 : zD cX7_command 96 (.invokevirtual 307) 3 99 := ⟨by decide +kernel, rfl⟩
theorem dX7_command_99 : zD cX7_command 99 (.ireturn) 1 100 := ⟨by decide +kernel, rfl⟩
theorem dX7_command_100 : zD cX7_command 100 (.iload 4) 2 102 := ⟨by decide +kernel, rfl⟩
theorem dX7_command_102 : zD cX7_command 102 (.bipush 100) 2 104 := ⟨by decide +kernel, rfl⟩
theorem dX7_command_104 : zD cX7_command 104 (.irem) 1 105 := ⟨by decide +kernel, rfl⟩
theorem dX7_command_105 : zD cX7_command 105 (.ifCond .ne 21) 3 108 := ⟨by decide +kernel, rfl⟩
theorem dX7_command_108 : zD cX7_command 108 (.aload_n 0) 1 109 := ⟨by decide +kernel, rfl⟩
theorem dX7_command_109 : zD cX7_command 109 (.iconst 3) 1 110 := ⟨by decide +kernel, rfl⟩
theorem dX7_command_110 : zD cX7_command 110 (.iload_n 3) 1 111 := ⟨by decide +kernel, rfl⟩
theorem dX7_command_111 : zD cX7_command 111 (.iload 4) 2 113 := ⟨by decide +kernel, rfl⟩
theorem dX7_command_113 : zD cX7_command 113 (.bipush 100) 2 115 := ⟨by decide +kernel, rfl⟩
theorem dX7_command_115 : zD cX7_command 115 (.idiv) 1 116 := ⟨by decide +kernel, rfl⟩
theorem dX7_command_116 : zD cX7_command 116 (.invokevirtual 307) 3 119 := ⟨by decide +kernel, rfl⟩
theorem dX7_command_119 : zD cX7_command 119 (.ifCond .eq 7) 3 122 := ⟨by decide +kernel, rfl⟩
theorem dX7_command_122 : zD cX7_command 122 (.iconst 1) 1 123 := ⟨by decide +kernel, rfl⟩
theorem dX7_command_123 : zD cX7_command 123 (.goto 4) 3 126 := ⟨by decide +kernel, rfl⟩
theorem dX7_command_126 : zD cX7_command 126 (.iconst 0) 1 127 := ⟨by decide +kernel, rfl⟩
theorem dX7_command_127 : zD cX7_command 127 (.ireturn) 1 128 := ⟨by decide +kernel, rfl⟩
theorem dX7_command_128 : zD cX7_command 128 (.iload 4) 2 130 := ⟨by decide +kernel, rfl⟩
theorem dX7_command_130 : zD cX7_command 130 (.ifCond .ne 14) 3 133 := ⟨by decide +kernel, rfl⟩
theorem dX7_command_133 : zD cX7_command 133 (.aload_n 0) 1 134 := ⟨by decide +kernel, rfl⟩
theorem dX7_command_134 : zD cX7_command 134 (.getfield 59) 3 137 := ⟨by decide +kernel, rfl⟩
theorem dX7_command_137 : zD cX7_command 137 (.iload_n 3) 1 138 := ⟨by decide +kernel, rfl⟩
theorem dX7_command_138 : zD cX7_command 138 (.invokestatic 204) 3 141 := ⟨by decide +kernel, rfl⟩
theorem dX7_command_141 : zD cX7_command 141 (.ifCond .ne 5) 3 144 := ⟨by decide +kernel, rfl⟩
theorem dX7_command_144 : zD cX7_command 144 (.iconst 0) 1 145 := ⟨by decide +kernel, rfl⟩
theorem dX7_command_145 : zD cX7_command 145 (.ireturn) 1 146 := ⟨by decide +kernel, rfl⟩
theorem dX7_command_146 : zD cX7_command 146 (.aload_n 0) 1 147 := ⟨by decide +kernel, rfl⟩
theorem dX7_command_147 : zD cX7_command 147 (.getfield 59) 3 150 := ⟨by decide +kernel, rfl⟩
theorem dX7_command_150 : zD cX7_command 150 (.iload_n 3) 1 151 := ⟨by decide +kernel, rfl⟩
theorem dX7_command_151 : zD cX7_command 151 (.invokestatic 163) 3 154 := ⟨by decide +kernel, rfl⟩
theorem dX7_command_154 : zD cX7_command 154 (.bipush 24) 2 156 := ⟨by decide +kernel, rfl⟩
theorem dX7_command_156 : zD cX7_command 156 (.iadd) 1 157 := ⟨by decide +kernel, rfl⟩
theorem dX7_command_157 : zD cX7_command 157 (.iconst 1) 1 158 := ⟨by decide +kernel, rfl⟩
theorem dX7_command_158 : zD cX7_command 158 (.aload_n 0) 1 159 := ⟨by decide +kernel, rfl⟩
theorem dX7_command_159 : zD cX7_command 159 (.getfield 59) 3 162 := ⟨by decide +kernel, rfl⟩
theorem dX7_command_162 : zD cX7_command 162 (.iload_n 3) 1 163 := ⟨by decide +kernel, rfl⟩
theorem dX7_command_163 : zD cX7_command 163 (.invokestatic 163) 3 166 := ⟨by decide +kernel, rfl⟩
theorem dX7_command_166 : zD cX7_command 166 (.bipush 24) 2 168 := ⟨by decide +kernel, rfl⟩
theorem dX7_command_168 : zD cX7_command 168 (.iadd) 1 169 := ⟨by decide +kernel, rfl⟩
theorem dX7_command_169 : zD cX7_command 169 (.iaload) 1 170 := ⟨by decide +kernel, rfl⟩
theorem dX7_command_170 : zD cX7_command 170 (.isub) 1 171 := ⟨by decide +kernel, rfl⟩
theorem dX7_command_171 : zD cX7_command 171 (.iastore) 1 172 := ⟨by decide +kernel, rfl⟩
theorem dX7_command_172 : zD cX7_command 172 (.iconst 1) 1 173 := ⟨by decide +kernel, rfl⟩
theorem dX7_command_173 : zD cX7_command 173 (.ireturn) 1 174 := ⟨by decide +kernel, rfl⟩
theorem dX7_command_174 : zD cX7_command 174 (.iload 4) 2 176 := ⟨by decide +kernel, rfl⟩
theorem dX7_command_176 : zD cX7_command 176 (.ifCond .ne 14) 3 179 := ⟨by decide +kernel, rfl⟩
theorem dX7_command_179 : zD cX7_command 179 (.aload_n 0) 1 180 := ⟨by decide +kernel, rfl⟩
theorem dX7_command_180 : zD cX7_command 180 (.getfield 59) 3 183 := ⟨by decide +kernel, rfl⟩
theorem dX7_command_183 : zD cX7_command 183 (.iload_n 3) 1 184 := ⟨by decide +kernel, rfl⟩
theorem dX7_command_184 : zD cX7_command 184 (.invokestatic 204) 3 187 := ⟨by decide +kernel, rfl⟩
theorem dX7_command_187 : zD cX7_command 187 (.ifCond .ne 5) 3 190 := ⟨by decide +kernel, rfl⟩
theorem dX7_command_190 : zD cX7_command 190 (.iconst 0) 1 191 := ⟨by decide +kernel, rfl⟩
theorem dX7_command_191 : zD cX7_command 191 (.ireturn) 1 192 := ⟨by decide +kernel, rfl⟩
theorem dX7_command_192 : zD cX7_command 192 (.aload_n 0) 1 193 := ⟨by decide +kernel, rfl⟩
theorem dX7_command_193 : zD cX7_command 193 (.getfield 59) 3 196 := ⟨by decide +kernel, rfl⟩
theorem dX7_command_196 : zD cX7_command 196 (.iload_n 3) 1 197 := ⟨by decide +kernel, rfl⟩
theorem dX7_command_197 : zD cX7_command 197 (.invokestatic 190) 3 200 := ⟨by decide +kernel, rfl⟩
theorem dX7_command_200 : zD cX7_command 200 (.iconst 1) 1 201 := ⟨by decide +kernel, rfl⟩
theorem dX7_command_201 : zD cX7_command 201 (.ireturn) 1 202 := ⟨by decide +kernel, rfl⟩
theorem dX7_command_202 : zD cX7_command 202 (.aload_n 0) 1 203 := ⟨by decide +kernel, rfl⟩
theorem dX7_command_203 : zD cX7_command 203 (.getfield 59) 3 206 := ⟨by decide +kernel, rfl⟩
theorem dX7_command_206 : zD cX7_command 206 (.invokestatic 176) 3 209 := ⟨by decide +kernel, rfl⟩
theorem dX7_command_209 : zD cX7_command 209 (.iload_n 1) 1 210 := ⟨by decide +kernel, rfl⟩
theorem dX7_command_210 : zD cX7_command 210 (.ldc_w 306) 3 213 := ⟨by decide +kernel, rfl⟩
theorem dX7_command_213 : zD cX7_command 213 (.irem) 1 214 := ⟨by decide +kernel, rfl⟩
theorem dX7_command_214 : zD cX7_command 214 (.if_icmp .gt 7) 3 217 := ⟨by decide +kernel, rfl⟩
theorem dX7_command_217 : zD cX7_command 217 (.iconst 1) 1 218 := ⟨by decide +kernel, rfl⟩
theorem dX7_command_218 : zD cX7_command 218 (.goto 4) 3 221 := ⟨by decide +kernel, rfl⟩
theorem dX7_command_221 : zD cX7_command 221 (.iconst 0) 1 222 := ⟨by decide +kernel, rfl⟩
theorem dX7_command_222 : zD cX7_command 222 (.ireturn) 1 223 := ⟨by decide +kernel, rfl⟩
theorem dX7_command_223 : zD cX7_command 223 (.iload_n 1) 1 224 := ⟨by decide +kernel, rfl⟩
theorem dX7_command_224 : zD cX7_command 224 (.ldc_w 306) 3 227 := ⟨by decide +kernel, rfl⟩
theorem dX7_command_227 : zD cX7_command 227 (.irem) 1 228 := ⟨by decide +kernel, rfl⟩
theorem dX7_command_228 : zD cX7_command 228 (.bipush 100) 2 230 := ⟨by decide +kernel, rfl⟩
theorem dX7_command_230 : zD cX7_command 230 (.if_icmp .ge 20) 3 233 := ⟨by decide +kernel, rfl⟩
theorem dX7_command_233 : zD cX7_command 233 (.aload_n 0) 1 234 := ⟨by decide +kernel, rfl⟩
theorem dX7_command_234 : zD cX7_command 234 (.getfield 59) 3 237 := ⟨by decide +kernel, rfl⟩
theorem dX7_command_237 : zD cX7_command 237 (.iconst 0) 1 238 := ⟨by decide +kernel, rfl⟩
theorem dX7_command_238 : zD cX7_command 238 (.iaload) 1 239 := ⟨by decide +kernel, rfl⟩
theorem dX7_command_239 : zD cX7_command 239 (.iload_n 1) 1 240 := ⟨by decide +kernel, rfl⟩
theorem dX7_command_240 : zD cX7_command 240 (.bipush 100) 2 242 := ⟨by decide +kernel, rfl⟩
theorem dX7_command_242 : zD cX7_command 242 (.irem) 1 243 := ⟨by decide +kernel, rfl⟩
theorem dX7_command_243 : zD cX7_command 243 (.if_icmp .ne 7) 3 246 := ⟨by decide +kernel, rfl⟩
theorem dX7_command_246 : zD cX7_command 246 (.iconst 1) 1 247 := ⟨by decide +kernel, rfl⟩
theorem dX7_command_247 : zD cX7_command 247 (.goto 4) 3 250 := ⟨by decide +kernel, rfl⟩
theorem dX7_command_250 : zD cX7_command 250 (.iconst 0) 1 251 := ⟨by decide +kernel, rfl⟩
theorem dX7_command_251 : zD cX7_command 251 (.ireturn) 1 252 := ⟨by decide +kernel, rfl⟩
theorem dX7_command_252 : zD cX7_command 252 (.iload 4) 2 254 := ⟨by decide +kernel, rfl⟩
theorem dX7_command_254 : zD cX7_command 254 (.bipush 100) 2 256 := ⟨by decide +kernel, rfl⟩
theorem dX7_command_256 : zD cX7_command 256 (.irem) 1 257 := ⟨by decide +kernel, rfl⟩
theorem dX7_command_257 : zD cX7_command 257 (.ifCond .ne 51) 3 260 := ⟨by decide +kernel, rfl⟩
theorem dX7_command_260 : zD cX7_command 260 (.aload_n 0) 1 261 := ⟨by decide +kernel, rfl⟩
theorem dX7_command_261 : zD cX7_command 261 (.getfield 59) 3 264 := ⟨by decide +kernel, rfl⟩
theorem dX7_command_264 : zD cX7_command 264 (.iload_n 3) 1 265 := ⟨by decide +kernel, rfl⟩
theorem dX7_command_265 : zD cX7_command 265 (.invokestatic 204) 3 268 := ⟨by decide +kernel, rfl⟩
theorem dX7_command_268 : zD cX7_command 268 (.ifCond .eq 40) 3 271 := ⟨by decide +kernel, rfl⟩
theorem dX7_command_271 : zD cX7_command 271 (.aload_n 0) 1 272 := ⟨by decide +kernel, rfl⟩
theorem dX7_command_272 : zD cX7_command 272 (.iload 4) 2 274 := ⟨by decide +kernel, rfl⟩
theorem dX7_command_274 : zD cX7_command 274 (.bipush 100) 2 276 := ⟨by decide +kernel, rfl⟩
theorem dX7_command_276 : zD cX7_command 276 (.idiv) 1 277 := ⟨by decide +kernel, rfl⟩
theorem dX7_command_277 : zD cX7_command 277 (.invokevirtual 214) 3 280 := ⟨by decide +kernel, rfl⟩
theorem dX7_command_280 : zD cX7_command 280 (.ifCond .eq 28) 3 283 := ⟨by decide +kernel, rfl⟩
theorem dX7_command_283 : zD cX7_command 283 (.aload_n 0) 1 284 := ⟨by decide +kernel, rfl⟩
theorem dX7_command_284 : zD cX7_command 284 (.getfield 59) 3 287 := ⟨by decide +kernel, rfl⟩
theorem dX7_command_287 : zD cX7_command 287 (.iload_n 3) 1 288 := ⟨by decide +kernel, rfl⟩
theorem dX7_command_288 : zD cX7_command 288 (.invokestatic 163) 3 291 := ⟨by decide +kernel, rfl⟩
theorem dX7_command_291 : zD cX7_command 291 (.bipush 16) 2 293 := ⟨by decide +kernel, rfl⟩
theorem dX7_command_293 : zD cX7_command 293 (.iadd) 1 294 := ⟨by decide +kernel, rfl⟩
theorem dX7_command_294 : zD cX7_command 294 (.iload 4) 2 296 := ⟨by decide +kernel, rfl⟩
theorem dX7_command_296 : zD cX7_command 296 (.bipush 100) 2 298 := ⟨by decide +kernel, rfl⟩
theorem dX7_command_298 : zD cX7_command 298 (.idiv) 1 299 := ⟨by decide +kernel, rfl⟩
theorem dX7_command_299 : zD cX7_command 299 (.iadd) 1 300 := ⟨by decide +kernel, rfl⟩
theorem dX7_command_300 : zD cX7_command 300 (.iaload) 1 301 := ⟨by decide +kernel, rfl⟩
theorem dX7_command_301 : zD cX7_command 301 (.ifCond .le 7) 3 304 := ⟨by decide +kernel, rfl⟩
theorem dX7_command_304 : zD cX7_command 304 (.iconst 1) 1 305 := ⟨by decide +kernel, rfl⟩
theorem dX7_command_305 : zD cX7_command 305 (.goto 4) 3 308 := ⟨by decide +kernel, rfl⟩
theorem dX7_command_308 : zD cX7_command 308 (.iconst 0) 1 309 := ⟨by decide +kernel, rfl⟩
theorem dX7_command_309 : zD cX7_command 309 (.ireturn) 1 310 := ⟨by decide +kernel, rfl⟩
theorem dX7_command_310 : zD cX7_command 310 (.iconst 0) 1 311 := ⟨by decide +kernel, rfl⟩
theorem dX7_command_311 : zD cX7_command 311 (.ireturn) 1 312 := ⟨by decide +kernel, rfl⟩
def fX7_remove (h : zH) (a0 : Nat) (a1 : Int32) : Option (Int32 × zH) :=
    if zkd h a0 = 8 then
    (zgP h 7 a0 24).bind fun w1 =>
    zb2 (fX7_isEntry h (w1) (a1)) fun w2 h3 =>
    if (w2 : Int32) = 0 then
    zb2 (fX7_refused h3 (a0) (1)) fun w5 h6 =>
    if (w5 : Int32) = 0 then
    (fX7_note h6 (a0)).bind fun h8 =>
    (zgP h8 7 a0 24).bind fun w9 =>
    zb2 (fX7_sizeOf h8 (w9) (a1)) fun w10 h11 =>
    (zgP h11 7 a0 24).bind fun w12 =>
    (fX7_drop h11 (w12) (a1)).bind fun h13 =>
    some (w10, h13)
    else
    some (0, h6)
    else
    zb2 (fX7_refused h3 (a0) (0)) fun w14 h15 =>
    if (w14 : Int32) = 0 then
    (fX7_note h15 (a0)).bind fun h17 =>
    (zgP h17 7 a0 24).bind fun w18 =>
    zb2 (fX7_sizeOf h17 (w18) (a1)) fun w19 h20 =>
    (zgP h20 7 a0 24).bind fun w21 =>
    (fX7_drop h20 (w21) (a1)).bind fun h22 =>
    some (w19, h22)
    else
    some (0, h15)
    else none
theorem kfX7_remove {h : zH} {a0 : Nat} {a1 : Int32} {r : Int32 × zH} (hf : fX7_remove h a0 a1 = some r) : zkd h a0 = 8 := by
  unfold fX7_remove at hf
  exact (zck hf).1
def fX7_setBudget (h : zH) (a0 : Nat) (a1 : Int32) : Option (Int32 × zH) :=
    if zkd h a0 = 8 then
    zb2 (fX7_in h ((a1 : Int32).toInt64) (1) (99999)) fun w1 h2 =>
    if (w1 : Int32) = 0 then
    zb2 (fX7_refused h2 (a0) (1)) fun w4 h5 =>
    if (w4 : Int32) = 0 then
    (fX7_tryNow h5 (a0)).bind fun h7 =>
    (zgP h7 7 a0 25).bind fun w8 =>
    (zbI h7 w8 (3) (a1)).bind fun h9 =>
    (zgP h9 7 a0 25).bind fun w10 =>
    zb2 (fX7_makeRoom h9 (w10) (0) ((-9)) (1)) fun w11 h12 =>
    if (w11 : Int32) = 0 then
    zb2 (fX7_refused h12 (a0) (2)) fun w14 h15 =>
    if (w14 : Int32) = 0 then
    (fX7_accept h15 (a0)).bind fun h17 =>
    (zgP h17 7 a0 24).bind fun w18 =>
    zb2 (fX7_used h17 (w18)) fun w19 h20 =>
    some (w19, h20)
    else
    some (0, h15)
    else
    zb2 (fX7_refused h12 (a0) (0)) fun w21 h22 =>
    if (w21 : Int32) = 0 then
    (fX7_accept h22 (a0)).bind fun h24 =>
    (zgP h24 7 a0 24).bind fun w25 =>
    zb2 (fX7_used h24 (w25)) fun w26 h27 =>
    some (w26, h27)
    else
    some (0, h22)
    else
    some (0, h5)
    else
    zb2 (fX7_refused h2 (a0) (0)) fun w28 h29 =>
    if (w28 : Int32) = 0 then
    (fX7_tryNow h29 (a0)).bind fun h31 =>
    (zgP h31 7 a0 25).bind fun w32 =>
    (zbI h31 w32 (3) (a1)).bind fun h33 =>
    (zgP h33 7 a0 25).bind fun w34 =>
    zb2 (fX7_makeRoom h33 (w34) (0) ((-9)) (1)) fun w35 h36 =>
    if (w35 : Int32) = 0 then
    zb2 (fX7_refused h36 (a0) (2)) fun w38 h39 =>
    if (w38 : Int32) = 0 then
    (fX7_accept h39 (a0)).bind fun h41 =>
    (zgP h41 7 a0 24).bind fun w42 =>
    zb2 (fX7_used h41 (w42)) fun w43 h44 =>
    some (w43, h44)
    else
    some (0, h39)
    else
    zb2 (fX7_refused h36 (a0) (0)) fun w45 h46 =>
    if (w45 : Int32) = 0 then
    (fX7_accept h46 (a0)).bind fun h48 =>
    (zgP h48 7 a0 24).bind fun w49 =>
    zb2 (fX7_used h48 (w49)) fun w50 h51 =>
    some (w50, h51)
    else
    some (0, h46)
    else
    some (0, h29)
    else none
theorem kfX7_setBudget {h : zH} {a0 : Nat} {a1 : Int32} {r : Int32 × zH} (hf : fX7_setBudget h a0 a1 = some r) : zkd h a0 = 8 := by
  unfold fX7_setBudget at hf
  exact (zck hf).1
def fX7_setCost (h : zH) (a0 : Nat) (a1 : Int32) (a2 : Int32) : Option (Int32 × zH) :=
    if zkd h a0 = 8 then
    zb2 (fX7_isConversion h (a0) (a1)) fun w1 h2 =>
    if (w1 : Int32) = 0 then
    zb2 (fX7_refused h2 (a0) (1)) fun w4 h5 =>
    if (w4 : Int32) = 0 then
    (fX7_note h5 (a0)).bind fun h7 =>
    (zgP h7 7 a0 24).bind fun w8 =>
    (zaI h7 w8 (((4 : Int32) + a1))).bind fun w9 =>
    (zgP h7 7 a0 24).bind fun w10 =>
    (zbI h7 w10 (((4 : Int32) + a1)) (a2)).bind fun h11 =>
    some (w9, h11)
    else
    some (0, h5)
    else
    zb2 (fX7_in h2 ((a2 : Int32).toInt64) (1) (99)) fun w12 h13 =>
    if (w12 : Int32) = 0 then
    zb2 (fX7_refused h13 (a0) (2)) fun w15 h16 =>
    if (w15 : Int32) = 0 then
    (fX7_note h16 (a0)).bind fun h18 =>
    (zgP h18 7 a0 24).bind fun w19 =>
    (zaI h18 w19 (((4 : Int32) + a1))).bind fun w20 =>
    (zgP h18 7 a0 24).bind fun w21 =>
    (zbI h18 w21 (((4 : Int32) + a1)) (a2)).bind fun h22 =>
    some (w20, h22)
    else
    some (0, h16)
    else
    zb2 (fX7_refused h13 (a0) (0)) fun w23 h24 =>
    if (w23 : Int32) = 0 then
    (fX7_note h24 (a0)).bind fun h26 =>
    (zgP h26 7 a0 24).bind fun w27 =>
    (zaI h26 w27 (((4 : Int32) + a1))).bind fun w28 =>
    (zgP h26 7 a0 24).bind fun w29 =>
    (zbI h26 w29 (((4 : Int32) + a1)) (a2)).bind fun h30 =>
    some (w28, h30)
    else
    some (0, h24)
    else none
theorem kfX7_setCost {h : zH} {a0 : Nat} {a1 : Int32} {a2 : Int32} {r : Int32 × zH} (hf : fX7_setCost h a0 a1 a2 = some r) : zkd h a0 = 8 := by
  unfold fX7_setCost at hf
  exact (zck hf).1
def fX7_undo (h : zH) (a0 : Nat) : Option (Int32 × zH) :=
    if zkd h a0 = 8 then
    (zgI h 7 a0 28).bind fun w1 =>
    if (w1 : Int32) = 0 then
    zb2 (fX7_refused h (a0) (1)) fun w3 h4 =>
    if (w3 : Int32) = 0 then
    (zgI h4 7 a0 28).bind fun w6 =>
    (zpI h4 7 a0 28 ((w6 : Int32) - 1)).bind fun h7 =>
    (zgP h7 7 a0 27).bind fun w8 =>
    (zgI h7 7 a0 28).bind fun w9 =>
    (zgP h7 7 a0 24).bind fun w10 =>
    (fX7_copyRow h7 (w8) (((360 : Int32) * w9)) (w10) (0) (360)).bind fun h11 =>
    (zgI h11 7 a0 28).bind fun w12 =>
    some (w12, h11)
    else
    some (0, h4)
    else
    zb2 (fX7_refused h (a0) (0)) fun w13 h14 =>
    if (w13 : Int32) = 0 then
    (zgI h14 7 a0 28).bind fun w16 =>
    (zpI h14 7 a0 28 ((w16 : Int32) - 1)).bind fun h17 =>
    (zgP h17 7 a0 27).bind fun w18 =>
    (zgI h17 7 a0 28).bind fun w19 =>
    (zgP h17 7 a0 24).bind fun w20 =>
    (fX7_copyRow h17 (w18) (((360 : Int32) * w19)) (w20) (0) (360)).bind fun h21 =>
    (zgI h21 7 a0 28).bind fun w22 =>
    some (w22, h21)
    else
    some (0, h14)
    else none
theorem kfX7_undo {h : zH} {a0 : Nat} {r : Int32 × zH} (hf : fX7_undo h a0 = some r) : zkd h a0 = 8 := by
  unfold fX7_undo at hf
  exact (zck hf).1
def fX7_path (h : zH) (a0 : Nat) (a1 : Int32) (a2 : Int32) (a3 : Int32) : Option (Int32 × zH) :=
    if zkd h a0 = 8 then
    zb2 (fX7_isFormat h (a0) (a1)) fun w1 h2 =>
    if (w1 : Int32) = 0 then
    zb2 (fX7_refused h2 (a0) (1)) fun w4 h5 =>
    if (w4 : Int32) = 0 then
    (zgP h5 7 a0 24).bind fun w7 =>
    (fX7_layTable h5 (a0) (w7) ((-9))).bind fun h8 =>
    zb2 (fX7_costOf h8 (a0) (a1) (a2)) fun w9 h10 =>
    if (w9 : Int32) < 1000000 then
    if (a3 : Int32) = 0 then
    zb2 (fX7_costOf h10 (a0) (a1) (a2)) fun w13 h14 =>
    some (((w13 : Int32) / 16), h14)
    else
    if (a3 : Int32) = 1 then
    zb2 (fX7_costOf h10 (a0) (a1) (a2)) fun w16 h17 =>
    some (((w16 : Int32) - w16 / 16 * 16), h17)
    else
    zb2 (fX7_lossOn h10 (a0) (a1) (a2)) fun w18 h19 =>
    some (w18, h19)
    else
    some ((-9), h10)
    else
    some (0, h5)
    else
    zb2 (fX7_isFormat h2 (a0) (a2)) fun w20 h21 =>
    if (w20 : Int32) = 0 then
    zb2 (fX7_refused h21 (a0) (1)) fun w23 h24 =>
    if (w23 : Int32) = 0 then
    (zgP h24 7 a0 24).bind fun w26 =>
    (fX7_layTable h24 (a0) (w26) ((-9))).bind fun h27 =>
    zb2 (fX7_costOf h27 (a0) (a1) (a2)) fun w28 h29 =>
    if (w28 : Int32) < 1000000 then
    if (a3 : Int32) = 0 then
    zb2 (fX7_costOf h29 (a0) (a1) (a2)) fun w32 h33 =>
    some (((w32 : Int32) / 16), h33)
    else
    if (a3 : Int32) = 1 then
    zb2 (fX7_costOf h29 (a0) (a1) (a2)) fun w35 h36 =>
    some (((w35 : Int32) - w35 / 16 * 16), h36)
    else
    zb2 (fX7_lossOn h29 (a0) (a1) (a2)) fun w37 h38 =>
    some (w37, h38)
    else
    some ((-9), h29)
    else
    some (0, h24)
    else
    zb2 (fX7_in h21 ((a3 : Int32).toInt64) (0) (2)) fun w39 h40 =>
    if (w39 : Int32) = 0 then
    zb2 (fX7_refused h40 (a0) (2)) fun w42 h43 =>
    if (w42 : Int32) = 0 then
    (zgP h43 7 a0 24).bind fun w45 =>
    (fX7_layTable h43 (a0) (w45) ((-9))).bind fun h46 =>
    zb2 (fX7_costOf h46 (a0) (a1) (a2)) fun w47 h48 =>
    if (w47 : Int32) < 1000000 then
    if (a3 : Int32) = 0 then
    zb2 (fX7_costOf h48 (a0) (a1) (a2)) fun w51 h52 =>
    some (((w51 : Int32) / 16), h52)
    else
    if (a3 : Int32) = 1 then
    zb2 (fX7_costOf h48 (a0) (a1) (a2)) fun w54 h55 =>
    some (((w54 : Int32) - w54 / 16 * 16), h55)
    else
    zb2 (fX7_lossOn h48 (a0) (a1) (a2)) fun w56 h57 =>
    some (w56, h57)
    else
    some ((-9), h48)
    else
    some (0, h43)
    else
    zb2 (fX7_refused h40 (a0) (0)) fun w58 h59 =>
    if (w58 : Int32) = 0 then
    (zgP h59 7 a0 24).bind fun w61 =>
    (fX7_layTable h59 (a0) (w61) ((-9))).bind fun h62 =>
    zb2 (fX7_costOf h62 (a0) (a1) (a2)) fun w63 h64 =>
    if (w63 : Int32) < 1000000 then
    if (a3 : Int32) = 0 then
    zb2 (fX7_costOf h64 (a0) (a1) (a2)) fun w67 h68 =>
    some (((w67 : Int32) / 16), h68)
    else
    if (a3 : Int32) = 1 then
    zb2 (fX7_costOf h64 (a0) (a1) (a2)) fun w70 h71 =>
    some (((w70 : Int32) - w70 / 16 * 16), h71)
    else
    zb2 (fX7_lossOn h64 (a0) (a1) (a2)) fun w72 h73 =>
    some (w72, h73)
    else
    some ((-9), h64)
    else
    some (0, h59)
    else none
theorem kfX7_path {h : zH} {a0 : Nat} {a1 : Int32} {a2 : Int32} {a3 : Int32} {r : Int32 × zH} (hf : fX7_path h a0 a1 a2 a3 = some r) : zkd h a0 = 8 := by
  unfold fX7_path at hf
  exact (zck hf).1
def fX7_step_L90 (k : zH → Int32 → Int32 → Option (Int32 × zH)) (u0 : Nat) (u1 : Int32) (u2 : Int32) (u3 : Int32) : Nat → zH → Int32 → Int32 → Option (Int32 × zH)
  | 0, _, _, _ => none
  | n + 1, h, v4, v5 => if (u3 : Int32) ≤ v5 then
    k h (v4) (v5)
    else
    zb2 (fX7_nextOn h (u0) (v4) (u2)) fun w2 h3 =>
    fX7_step_L90 k u0 u1 u2 u3 n h3 (w2) ((v5 + 1))
def fX7_step (h : zH) (a0 : Nat) (a1 : Int32) (a2 : Int32) (a3 : Int32) : Option (Int32 × zH) :=
    if zkd h a0 = 8 then
    zb2 (fX7_isFormat h (a0) (a1)) fun w1 h2 =>
    if (w1 : Int32) = 0 then
    zb2 (fX7_refused h2 (a0) (1)) fun w4 h5 =>
    if (w4 : Int32) = 0 then
    (zgP h5 7 a0 24).bind fun w7 =>
    (fX7_layTable h5 (a0) (w7) ((-9))).bind fun h8 =>
    zb2 (fX7_costOf h8 (a0) (a1) (a2)) fun w9 h10 =>
    if (1000000 : Int32) ≤ w9 then
    some ((-9), h10)
    else
    zb2 (fX7_costOf h10 (a0) (a1) (a2)) fun w12 h13 =>
    if (a3 : Int32) ≤ ((w12 : Int32) - w12 / 16 * 16) then
    fX7_step_L90 (fun h15 y16 y17 =>
    some (y16, h15)) (a0) (a1) (a2) (a3) zF h13 (a1) (0)
    else
    some ((-9), h13)
    else
    some (0, h5)
    else
    zb2 (fX7_isFormat h2 (a0) (a2)) fun w18 h19 =>
    if (w18 : Int32) = 0 then
    zb2 (fX7_refused h19 (a0) (1)) fun w21 h22 =>
    if (w21 : Int32) = 0 then
    (zgP h22 7 a0 24).bind fun w24 =>
    (fX7_layTable h22 (a0) (w24) ((-9))).bind fun h25 =>
    zb2 (fX7_costOf h25 (a0) (a1) (a2)) fun w26 h27 =>
    if (1000000 : Int32) ≤ w26 then
    some ((-9), h27)
    else
    zb2 (fX7_costOf h27 (a0) (a1) (a2)) fun w29 h30 =>
    if (a3 : Int32) ≤ ((w29 : Int32) - w29 / 16 * 16) then
    fX7_step_L90 (fun h32 y33 y34 =>
    some (y33, h32)) (a0) (a1) (a2) (a3) zF h30 (a1) (0)
    else
    some ((-9), h30)
    else
    some (0, h22)
    else
    zb2 (fX7_in h19 ((a3 : Int32).toInt64) (0) (7)) fun w35 h36 =>
    if (w35 : Int32) = 0 then
    zb2 (fX7_refused h36 (a0) (2)) fun w38 h39 =>
    if (w38 : Int32) = 0 then
    (zgP h39 7 a0 24).bind fun w41 =>
    (fX7_layTable h39 (a0) (w41) ((-9))).bind fun h42 =>
    zb2 (fX7_costOf h42 (a0) (a1) (a2)) fun w43 h44 =>
    if (1000000 : Int32) ≤ w43 then
    some ((-9), h44)
    else
    zb2 (fX7_costOf h44 (a0) (a1) (a2)) fun w46 h47 =>
    if (a3 : Int32) ≤ ((w46 : Int32) - w46 / 16 * 16) then
    fX7_step_L90 (fun h49 y50 y51 =>
    some (y50, h49)) (a0) (a1) (a2) (a3) zF h47 (a1) (0)
    else
    some ((-9), h47)
    else
    some (0, h39)
    else
    zb2 (fX7_refused h36 (a0) (0)) fun w52 h53 =>
    if (w52 : Int32) = 0 then
    (zgP h53 7 a0 24).bind fun w55 =>
    (fX7_layTable h53 (a0) (w55) ((-9))).bind fun h56 =>
    zb2 (fX7_costOf h56 (a0) (a1) (a2)) fun w57 h58 =>
    if (1000000 : Int32) ≤ w57 then
    some ((-9), h58)
    else
    zb2 (fX7_costOf h58 (a0) (a1) (a2)) fun w60 h61 =>
    if (a3 : Int32) ≤ ((w60 : Int32) - w60 / 16 * 16) then
    fX7_step_L90 (fun h63 y64 y65 =>
    some (y64, h63)) (a0) (a1) (a2) (a3) zF h61 (a1) (0)
    else
    some ((-9), h61)
    else
    some (0, h53)
    else none
theorem kfX7_step {h : zH} {a0 : Nat} {a1 : Int32} {a2 : Int32} {a3 : Int32} {r : Int32 × zH} (hf : fX7_step h a0 a1 a2 a3 = some r) : zkd h a0 = 8 := by
  unfold fX7_step at hf
  exact (zck hf).1
def fX7_sizeAfter (h : zH) (a0 : Nat) (a1 : Int32) (a2 : Int32) (a3 : Int32) : Option (Int32 × zH) :=
    if zkd h a0 = 8 then
    zb2 (fX7_isFormat h (a0) (a1)) fun w1 h2 =>
    if (w1 : Int32) = 0 then
    zb2 (fX7_refused h2 (a0) (1)) fun w4 h5 =>
    if (w4 : Int32) = 0 then
    (zgP h5 7 a0 24).bind fun w7 =>
    (fX7_layTable h5 (a0) (w7) ((-9))).bind fun h8 =>
    zb2 (fX7_costOf h8 (a0) (a1) (a2)) fun w9 h10 =>
    if (w9 : Int32) < 1000000 then
    zb2 (fX7_sizeOn h10 (a0) (a1) (a2) (a3)) fun w12 h13 =>
    some (w12, h13)
    else
    some ((-9), h10)
    else
    some (0, h5)
    else
    zb2 (fX7_isFormat h2 (a0) (a2)) fun w14 h15 =>
    if (w14 : Int32) = 0 then
    zb2 (fX7_refused h15 (a0) (1)) fun w17 h18 =>
    if (w17 : Int32) = 0 then
    (zgP h18 7 a0 24).bind fun w20 =>
    (fX7_layTable h18 (a0) (w20) ((-9))).bind fun h21 =>
    zb2 (fX7_costOf h21 (a0) (a1) (a2)) fun w22 h23 =>
    if (w22 : Int32) < 1000000 then
    zb2 (fX7_sizeOn h23 (a0) (a1) (a2) (a3)) fun w25 h26 =>
    some (w25, h26)
    else
    some ((-9), h23)
    else
    some (0, h18)
    else
    zb2 (fX7_in h15 ((a3 : Int32).toInt64) (1) (99999)) fun w27 h28 =>
    if (w27 : Int32) = 0 then
    zb2 (fX7_refused h28 (a0) (2)) fun w30 h31 =>
    if (w30 : Int32) = 0 then
    (zgP h31 7 a0 24).bind fun w33 =>
    (fX7_layTable h31 (a0) (w33) ((-9))).bind fun h34 =>
    zb2 (fX7_costOf h34 (a0) (a1) (a2)) fun w35 h36 =>
    if (w35 : Int32) < 1000000 then
    zb2 (fX7_sizeOn h36 (a0) (a1) (a2) (a3)) fun w38 h39 =>
    some (w38, h39)
    else
    some ((-9), h36)
    else
    some (0, h31)
    else
    zb2 (fX7_refused h28 (a0) (0)) fun w40 h41 =>
    if (w40 : Int32) = 0 then
    (zgP h41 7 a0 24).bind fun w43 =>
    (fX7_layTable h41 (a0) (w43) ((-9))).bind fun h44 =>
    zb2 (fX7_costOf h44 (a0) (a1) (a2)) fun w45 h46 =>
    if (w45 : Int32) < 1000000 then
    zb2 (fX7_sizeOn h46 (a0) (a1) (a2) (a3)) fun w48 h49 =>
    some (w48, h49)
    else
    some ((-9), h46)
    else
    some (0, h41)
    else none
theorem kfX7_sizeAfter {h : zH} {a0 : Nat} {a1 : Int32} {a2 : Int32} {a3 : Int32} {r : Int32 × zH} (hf : fX7_sizeAfter h a0 a1 a2 a3 = some r) : zkd h a0 = 8 := by
  unfold fX7_sizeAfter at hf
  exact (zck hf).1
def fX7_reachable_L36 (k : zH → Int32 → Int32 → Option (Int32 × zH)) (u0 : Nat) (u1 : Int32) : Nat → zH → Int32 → Int32 → Option (Int32 × zH)
  | 0, _, _, _ => none
  | n + 1, h, v2, v3 => (zgI h 7 u0 4).bind fun w1 =>
    if (w1 : Int32) ≤ v3 then
    k h (v2) (v3)
    else
    zb2 (fX7_costOf h (u0) (u1) (v3)) fun w3 h4 =>
    if (1000000 : Int32) ≤ w3 then
    fX7_reachable_L36 k u0 u1 n h4 (((v2 : Int32) ||| 0)) ((v3 + 1))
    else
    fX7_reachable_L36 k u0 u1 n h4 (((v2 : Int32) ||| ((1 : Int32) <<< (v3 &&& 31)))) ((v3 + 1))
def fX7_reachable (h : zH) (a0 : Nat) (a1 : Int32) : Option (Int32 × zH) :=
    if zkd h a0 = 8 then
    zb2 (fX7_isFormat h (a0) (a1)) fun w1 h2 =>
    if (w1 : Int32) = 0 then
    zb2 (fX7_refused h2 (a0) (1)) fun w4 h5 =>
    if (w4 : Int32) = 0 then
    (zgP h5 7 a0 24).bind fun w7 =>
    (fX7_layTable h5 (a0) (w7) ((-9))).bind fun h8 =>
    fX7_reachable_L36 (fun h9 y10 y11 =>
    some (y10, h9)) (a0) (a1) zF h8 (0) (0)
    else
    some (0, h5)
    else
    zb2 (fX7_refused h2 (a0) (0)) fun w12 h13 =>
    if (w12 : Int32) = 0 then
    (zgP h13 7 a0 24).bind fun w15 =>
    (fX7_layTable h13 (a0) (w15) ((-9))).bind fun h16 =>
    fX7_reachable_L36 (fun h17 y18 y19 =>
    some (y18, h17)) (a0) (a1) zF h16 (0) (0)
    else
    some (0, h13)
    else none
theorem kfX7_reachable {h : zH} {a0 : Nat} {a1 : Int32} {r : Int32 × zH} (hf : fX7_reachable h a0 a1 = some r) : zkd h a0 = 8 := by
  unfold fX7_reachable at hf
  exact (zck hf).1
def fX7_without (h : zH) (a0 : Nat) (a1 : Int32) (a2 : Int32) (a3 : Int32) : Option (Int32 × zH) :=
    if zkd h a0 = 8 then
    zb2 (fX7_isConversion h (a0) (a1)) fun w1 h2 =>
    if (w1 : Int32) = 0 then
    zb2 (fX7_refused h2 (a0) (1)) fun w4 h5 =>
    if (w4 : Int32) = 0 then
    (zgP h5 7 a0 24).bind fun w7 =>
    (fX7_layTable h5 (a0) (w7) (a1)).bind fun h8 =>
    zb2 (fX7_costOf h8 (a0) (a2) (a3)) fun w9 h10 =>
    if (w9 : Int32) < 1000000 then
    zb2 (fX7_costOf h10 (a0) (a2) (a3)) fun w12 h13 =>
    some (((w12 : Int32) / 16), h13)
    else
    some ((-9), h10)
    else
    some (0, h5)
    else
    zb2 (fX7_isFormat h2 (a0) (a2)) fun w14 h15 =>
    if (w14 : Int32) = 0 then
    zb2 (fX7_refused h15 (a0) (1)) fun w17 h18 =>
    if (w17 : Int32) = 0 then
    (zgP h18 7 a0 24).bind fun w20 =>
    (fX7_layTable h18 (a0) (w20) (a1)).bind fun h21 =>
    zb2 (fX7_costOf h21 (a0) (a2) (a3)) fun w22 h23 =>
    if (w22 : Int32) < 1000000 then
    zb2 (fX7_costOf h23 (a0) (a2) (a3)) fun w25 h26 =>
    some (((w25 : Int32) / 16), h26)
    else
    some ((-9), h23)
    else
    some (0, h18)
    else
    zb2 (fX7_isFormat h15 (a0) (a3)) fun w27 h28 =>
    if (w27 : Int32) = 0 then
    zb2 (fX7_refused h28 (a0) (1)) fun w30 h31 =>
    if (w30 : Int32) = 0 then
    (zgP h31 7 a0 24).bind fun w33 =>
    (fX7_layTable h31 (a0) (w33) (a1)).bind fun h34 =>
    zb2 (fX7_costOf h34 (a0) (a2) (a3)) fun w35 h36 =>
    if (w35 : Int32) < 1000000 then
    zb2 (fX7_costOf h36 (a0) (a2) (a3)) fun w38 h39 =>
    some (((w38 : Int32) / 16), h39)
    else
    some ((-9), h36)
    else
    some (0, h31)
    else
    zb2 (fX7_refused h28 (a0) (0)) fun w40 h41 =>
    if (w40 : Int32) = 0 then
    (zgP h41 7 a0 24).bind fun w43 =>
    (fX7_layTable h41 (a0) (w43) (a1)).bind fun h44 =>
    zb2 (fX7_costOf h44 (a0) (a2) (a3)) fun w45 h46 =>
    if (w45 : Int32) < 1000000 then
    zb2 (fX7_costOf h46 (a0) (a2) (a3)) fun w48 h49 =>
    some (((w48 : Int32) / 16), h49)
    else
    some ((-9), h46)
    else
    some (0, h41)
    else none
theorem kfX7_without {h : zH} {a0 : Nat} {a1 : Int32} {a2 : Int32} {a3 : Int32} {r : Int32 × zH} (hf : fX7_without h a0 a1 a2 a3 = some r) : zkd h a0 = 8 := by
  unfold fX7_without at hf
  exact (zck hf).1
def fX7_worthOf (h : zH) (a0 : Nat) (a1 : Int32) : Option (Int32 × zH) :=
    if zkd h a0 = 8 then
    (zgP h 7 a0 24).bind fun w1 =>
    (fX7_layTable h (a0) (w1) (a1)).bind fun h2 =>
    (zgP h2 7 a0 7).bind fun w3 =>
    (zaI h2 w3 (a1)).bind fun w4 =>
    (zgP h2 7 a0 8).bind fun w5 =>
    (zaI h2 w5 (a1)).bind fun w6 =>
    zb2 (fX7_costOf h2 (a0) (w4) (w6)) fun w7 h8 =>
    if (1000000 : Int32) ≤ w7 then
    some (99, h8)
    else
    if (((w7 : Int32) / 16) : Int32) ≤ 99 then
    some (((w7 : Int32) / 16), h8)
    else
    some (99, h8)
    else none
theorem kfX7_worthOf {h : zH} {a0 : Nat} {a1 : Int32} {r : Int32 × zH} (hf : fX7_worthOf h a0 a1 = some r) : zkd h a0 = 8 := by
  unfold fX7_worthOf at hf
  exact (zck hf).1
def fX7_worth (h : zH) (a0 : Nat) (a1 : Int32) : Option (Int32 × zH) :=
    if zkd h a0 = 8 then
    zb2 (fX7_isConversion h (a0) (a1)) fun w1 h2 =>
    if (w1 : Int32) = 0 then
    zb2 (fX7_refused h2 (a0) (1)) fun w4 h5 =>
    if (w4 : Int32) = 0 then
    zb2 (fX7_worthOf h5 (a0) (a1)) fun w7 h8 =>
    some (w7, h8)
    else
    some (0, h5)
    else
    zb2 (fX7_refused h2 (a0) (0)) fun w9 h10 =>
    if (w9 : Int32) = 0 then
    zb2 (fX7_worthOf h10 (a0) (a1)) fun w12 h13 =>
    some (w12, h13)
    else
    some (0, h10)
    else none
theorem kfX7_worth {h : zH} {a0 : Nat} {a1 : Int32} {r : Int32 × zH} (hf : fX7_worth h a0 a1 = some r) : zkd h a0 = 8 := by
  unfold fX7_worth at hf
  exact (zck hf).1
def fX7_idle_L9 (k : zH → Int32 → Int32 → Option (Int32 × zH)) (u0 : Nat) : Nat → zH → Int32 → Int32 → Option (Int32 × zH)
  | 0, _, _, _ => none
  | n + 1, h, v1, v2 => (zgI h 7 u0 5).bind fun w1 =>
    if (w1 : Int32) ≤ v2 then
    k h (v1) (v2)
    else
    (zgP h 7 u0 24).bind fun w3 =>
    (zaI h w3 (((4 : Int32) + v2))).bind fun w4 =>
    zb2 (fX7_worthOf h (u0) (v2)) fun w5 h6 =>
    if (w4 : Int32) ≤ w5 then
    fX7_idle_L9 k u0 n h6 (((v1 : Int32) ||| 0)) ((v2 + 1))
    else
    fX7_idle_L9 k u0 n h6 (((v1 : Int32) ||| ((1 : Int32) <<< (v2 &&& 31)))) ((v2 + 1))
def fX7_idle (h : zH) (a0 : Nat) : Option (Int32 × zH) :=
    if zkd h a0 = 8 then
    (zpI h 7 a0 0 0).bind fun h1 =>
    fX7_idle_L9 (fun h2 y3 y4 =>
    some (y3, h2)) (a0) zF h1 (0) (0)
    else none
theorem kfX7_idle {h : zH} {a0 : Nat} {r : Int32 × zH} (hf : fX7_idle h a0 = some r) : zkd h a0 = 8 := by
  unfold fX7_idle at hf
  exact (zck hf).1
def fX7_passesBy_L6 (k : zH → Int32 → Int32 → Option (Int32 × zH)) (u0 : Nat) (u1 : Int32) (u2 : Int32) (u3 : Int32) : Nat → zH → Int32 → Int32 → Option (Int32 × zH)
  | 0, _, _, _ => none
  | n + 1, h, v4, v5 => if (v4 : Int32) = u2 then
    k h (v4) (v5)
    else
    zb2 (fX7_nextOn h (u0) (v4) (u2)) fun w2 h3 =>
    if (v5 : Int32) = 0 then
    if (w2 : Int32) = u3 then
    fX7_passesBy_L6 k u0 u1 u2 u3 n h3 (w2) (1)
    else
    fX7_passesBy_L6 k u0 u1 u2 u3 n h3 (w2) (0)
    else
    fX7_passesBy_L6 k u0 u1 u2 u3 n h3 (w2) (1)
def fX7_passesBy (h : zH) (a0 : Nat) (a1 : Int32) (a2 : Int32) (a3 : Int32) : Option (Int32 × zH) :=
    if zkd h a0 = 8 then
    fX7_passesBy_L6 (fun h1 y2 y3 =>
    if (y3 : Int32) = 0 ∨ y3 = 1 then some (y3, h1) else none) (a0) (a1) (a2) (a3) zF h (a1) (0)
    else none
theorem kfX7_passesBy {h : zH} {a0 : Nat} {a1 : Int32} {a2 : Int32} {a3 : Int32} {r : Int32 × zH} (hf : fX7_passesBy h a0 a1 a2 a3 = some r) : zkd h a0 = 8 := by
  unfold fX7_passesBy at hf
  exact (zck hf).1
def fX7_between_L47 (k : zH → Int32 → Int32 → Option (Int32 × zH)) (u0 : Nat) (u1 : Int32) (u3 : Int32) : Nat → zH → Int32 → Int32 → Option (Int32 × zH)
  | 0, _, _, _ => none
  | n + 1, h, v2, v4 => (zgI h 7 u0 4).bind fun w1 =>
    if (w1 : Int32) ≤ v4 then
    k h (v2) (v4)
    else
    if (u3 : Int32) = v4 then
    fX7_between_L47 k u0 u1 u3 n h (((v2 : Int32) + 0)) ((v4 + 1))
    else
    if (u3 : Int32) = u1 then
    fX7_between_L47 k u0 u1 u3 n h (((v2 : Int32) + 0)) ((v4 + 1))
    else
    if (v4 : Int32) = u1 then
    fX7_between_L47 k u0 u1 u3 n h (((v2 : Int32) + 0)) ((v4 + 1))
    else
    (zgP h 7 u0 31).bind fun w6 =>
    (zaI h w6 (((((8 : Int32) * u3) : Int32) + v4))).bind fun w7 =>
    if (1000000 : Int32) ≤ w7 then
    fX7_between_L47 k u0 u1 u3 n h (((v2 : Int32) + 0)) ((v4 + 1))
    else
    zb2 (fX7_passesBy h (u0) (u3) (v4) (u1)) fun w9 h10 =>
    if (w9 : Int32) = 0 then
    fX7_between_L47 k u0 u1 u3 n h10 (((v2 : Int32) + 0)) ((v4 + 1))
    else
    fX7_between_L47 k u0 u1 u3 n h10 (((v2 : Int32) + 1)) ((v4 + 1))
def fX7_between_L36 (k : zH → Int32 → Int32 → Option (Int32 × zH)) (u0 : Nat) (u1 : Int32) : Nat → zH → Int32 → Int32 → Option (Int32 × zH)
  | 0, _, _, _ => none
  | n + 1, h, v2, v3 => (zgI h 7 u0 4).bind fun w1 =>
    if (w1 : Int32) ≤ v3 then
    k h (v2) (v3)
    else
    fX7_between_L47 (fun h3 y4 y5 =>
    fX7_between_L36 k u0 u1 n h3 (y4) ((v3 + 1))) (u0) (u1) (v3) zF h (v2) (0)
def fX7_between (h : zH) (a0 : Nat) (a1 : Int32) : Option (Int32 × zH) :=
    if zkd h a0 = 8 then
    zb2 (fX7_isFormat h (a0) (a1)) fun w1 h2 =>
    if (w1 : Int32) = 0 then
    zb2 (fX7_refused h2 (a0) (1)) fun w4 h5 =>
    if (w4 : Int32) = 0 then
    (zgP h5 7 a0 24).bind fun w7 =>
    (fX7_layTable h5 (a0) (w7) ((-9))).bind fun h8 =>
    fX7_between_L36 (fun h9 y10 y11 =>
    some (y10, h9)) (a0) (a1) zF h8 (0) (0)
    else
    some (0, h5)
    else
    zb2 (fX7_refused h2 (a0) (0)) fun w12 h13 =>
    if (w12 : Int32) = 0 then
    (zgP h13 7 a0 24).bind fun w15 =>
    (fX7_layTable h13 (a0) (w15) ((-9))).bind fun h16 =>
    fX7_between_L36 (fun h17 y18 y19 =>
    some (y18, h17)) (a0) (a1) zF h16 (0) (0)
    else
    some (0, h13)
    else none
theorem kfX7_between {h : zH} {a0 : Nat} {a1 : Int32} {r : Int32 × zH} (hf : fX7_between h a0 a1 = some r) : zkd h a0 = 8 := by
  unfold fX7_between at hf
  exact (zck hf).1
def fX7_way (h : zH) (a0 : Nat) (a1 : Int32) (a2 : Int32) (a3 : Int32) : Option (Int32 × zH) :=
    if zkd h a0 = 8 then
    (zgP h 7 a0 24).bind fun w1 =>
    zb2 (fX7_isEntry h (w1) (a1)) fun w2 h3 =>
    if (w2 : Int32) = 0 then
    zb2 (fX7_refused h3 (a0) (1)) fun w5 h6 =>
    if (w5 : Int32) = 0 then
    (zgP h6 7 a0 24).bind fun w8 =>
    zb2 (fX7_findWay h6 (a0) (w8) (a1) (a2)) fun w9 h10 =>
    if (w9 : Int32) = 0 then
    some ((-9), h10)
    else
    if (a3 : Int32) = 0 then
    (zgI h10 7 a0 35).bind fun w13 =>
    some (w13, h10)
    else
    if (a3 : Int32) = 1 then
    (zgI h10 7 a0 33).bind fun w15 =>
    some (w15, h10)
    else
    if (a3 : Int32) = 2 then
    (zgI h10 7 a0 34).bind fun w17 =>
    some (w17, h10)
    else
    if (a3 : Int32) = 3 then
    (zgI h10 7 a0 36).bind fun w19 =>
    some (w19, h10)
    else
    (zgI h10 7 a0 37).bind fun w20 =>
    some (w20, h10)
    else
    some (0, h6)
    else
    zb2 (fX7_isPlace h3 (a0) (a2)) fun w21 h22 =>
    if (w21 : Int32) = 0 then
    zb2 (fX7_refused h22 (a0) (1)) fun w24 h25 =>
    if (w24 : Int32) = 0 then
    (zgP h25 7 a0 24).bind fun w27 =>
    zb2 (fX7_findWay h25 (a0) (w27) (a1) (a2)) fun w28 h29 =>
    if (w28 : Int32) = 0 then
    some ((-9), h29)
    else
    if (a3 : Int32) = 0 then
    (zgI h29 7 a0 35).bind fun w32 =>
    some (w32, h29)
    else
    if (a3 : Int32) = 1 then
    (zgI h29 7 a0 33).bind fun w34 =>
    some (w34, h29)
    else
    if (a3 : Int32) = 2 then
    (zgI h29 7 a0 34).bind fun w36 =>
    some (w36, h29)
    else
    if (a3 : Int32) = 3 then
    (zgI h29 7 a0 36).bind fun w38 =>
    some (w38, h29)
    else
    (zgI h29 7 a0 37).bind fun w39 =>
    some (w39, h29)
    else
    some (0, h25)
    else
    zb2 (fX7_in h22 ((a3 : Int32).toInt64) (0) (4)) fun w40 h41 =>
    if (w40 : Int32) = 0 then
    zb2 (fX7_refused h41 (a0) (2)) fun w43 h44 =>
    if (w43 : Int32) = 0 then
    (zgP h44 7 a0 24).bind fun w46 =>
    zb2 (fX7_findWay h44 (a0) (w46) (a1) (a2)) fun w47 h48 =>
    if (w47 : Int32) = 0 then
    some ((-9), h48)
    else
    if (a3 : Int32) = 0 then
    (zgI h48 7 a0 35).bind fun w51 =>
    some (w51, h48)
    else
    if (a3 : Int32) = 1 then
    (zgI h48 7 a0 33).bind fun w53 =>
    some (w53, h48)
    else
    if (a3 : Int32) = 2 then
    (zgI h48 7 a0 34).bind fun w55 =>
    some (w55, h48)
    else
    if (a3 : Int32) = 3 then
    (zgI h48 7 a0 36).bind fun w57 =>
    some (w57, h48)
    else
    (zgI h48 7 a0 37).bind fun w58 =>
    some (w58, h48)
    else
    some (0, h44)
    else
    zb2 (fX7_refused h41 (a0) (0)) fun w59 h60 =>
    if (w59 : Int32) = 0 then
    (zgP h60 7 a0 24).bind fun w62 =>
    zb2 (fX7_findWay h60 (a0) (w62) (a1) (a2)) fun w63 h64 =>
    if (w63 : Int32) = 0 then
    some ((-9), h64)
    else
    if (a3 : Int32) = 0 then
    (zgI h64 7 a0 35).bind fun w67 =>
    some (w67, h64)
    else
    if (a3 : Int32) = 1 then
    (zgI h64 7 a0 33).bind fun w69 =>
    some (w69, h64)
    else
    if (a3 : Int32) = 2 then
    (zgI h64 7 a0 34).bind fun w71 =>
    some (w71, h64)
    else
    if (a3 : Int32) = 3 then
    (zgI h64 7 a0 36).bind fun w73 =>
    some (w73, h64)
    else
    (zgI h64 7 a0 37).bind fun w74 =>
    some (w74, h64)
    else
    some (0, h60)
    else none
theorem kfX7_way {h : zH} {a0 : Nat} {a1 : Int32} {a2 : Int32} {a3 : Int32} {r : Int32 × zH} (hf : fX7_way h a0 a1 a2 a3 = some r) : zkd h a0 = 8 := by
  unfold fX7_way at hf
  exact (zck hf).1
def fX7_bestFor_L33 (k : zH → Int32 → Int32 → Int32 → Int32 → Option (Int32 × zH)) (u0 : Nat) (u1 : Int32) : Nat → zH → Int32 → Int32 → Int32 → Int32 → Option (Int32 × zH)
  | 0, _, _, _, _, _ => none
  | n + 1, h, v2, v3, v4, v5 => (zgP h 7 u0 24).bind fun w1 =>
    (zaI h w1 (0)).bind fun w2 =>
    if (w2 : Int32) ≤ v5 then
    k h (v2) (v3) (v4) (v5)
    else
    (zgP h 7 u0 24).bind fun w4 =>
    zb2 (fX7_findWay h (u0) (w4) (v5) (u1)) fun w5 h6 =>
    if (w5 : Int32) = 0 then
    fX7_bestFor_L33 k u0 u1 n h6 (v2) (v3) (v4) ((v5 + 1))
    else
    if (v2 : Int32) < 0 then
    (zgI h6 7 u0 35).bind fun w9 =>
    (zgI h6 7 u0 37).bind fun w10 =>
    fX7_bestFor_L33 k u0 u1 n h6 (v5) (w9) (w10) ((v5 + 1))
    else
    (zgI h6 7 u0 35).bind fun w11 =>
    if (w11 : Int32) < v3 then
    (zgI h6 7 u0 35).bind fun w13 =>
    (zgI h6 7 u0 37).bind fun w14 =>
    fX7_bestFor_L33 k u0 u1 n h6 (v5) (w13) (w14) ((v5 + 1))
    else
    (zgI h6 7 u0 35).bind fun w15 =>
    if (w15 : Int32) = v3 then
    (zgI h6 7 u0 37).bind fun w17 =>
    if (v4 : Int32) ≤ w17 then
    fX7_bestFor_L33 k u0 u1 n h6 (v2) (v3) (v4) ((v5 + 1))
    else
    (zgI h6 7 u0 35).bind fun w19 =>
    (zgI h6 7 u0 37).bind fun w20 =>
    fX7_bestFor_L33 k u0 u1 n h6 (v5) (w19) (w20) ((v5 + 1))
    else
    fX7_bestFor_L33 k u0 u1 n h6 (v2) (v3) (v4) ((v5 + 1))
def fX7_bestFor (h : zH) (a0 : Nat) (a1 : Int32) : Option (Int32 × zH) :=
    if zkd h a0 = 8 then
    zb2 (fX7_isPlace h (a0) (a1)) fun w1 h2 =>
    if (w1 : Int32) = 0 then
    zb2 (fX7_refused h2 (a0) (1)) fun w4 h5 =>
    if (w4 : Int32) = 0 then
    fX7_bestFor_L33 (fun h7 y8 y9 y10 y11 =>
    some (y8, h7)) (a0) (a1) zF h5 ((-9)) (0) (0) (0)
    else
    some (0, h5)
    else
    zb2 (fX7_refused h2 (a0) (0)) fun w12 h13 =>
    if (w12 : Int32) = 0 then
    fX7_bestFor_L33 (fun h15 y16 y17 y18 y19 =>
    some (y16, h15)) (a0) (a1) zF h13 ((-9)) (0) (0) (0)
    else
    some (0, h13)
    else none
theorem kfX7_bestFor {h : zH} {a0 : Nat} {a1 : Int32} {r : Int32 × zH} (hf : fX7_bestFor h a0 a1 = some r) : zkd h a0 = 8 := by
  unfold fX7_bestFor at hf
  exact (zck hf).1
def fX7_victimsOf_L36 (k : zH → Int32 → Int32 → Option (Int32 × zH)) (u0 : Nat) (u1 : Int32) (u2 : Int32) : Nat → zH → Int32 → Int32 → Option (Int32 × zH)
  | 0, _, _, _ => none
  | n + 1, h, v3, v4 => (zgP h 7 u0 25).bind fun w1 =>
    (zaI h w1 (0)).bind fun w2 =>
    if (w2 : Int32) ≤ v4 then
    k h (v3) (v4)
    else
    (zgP h 7 u0 25).bind fun w4 =>
    zb2 (fX7_at h (v4)) fun w5 h6 =>
    (zaI h6 w4 (((w5 : Int32) + 27))).bind fun w7 =>
    fX7_victimsOf_L36 k u0 u1 u2 n h6 (((v3 : Int32) &&& ((((1 : Int32) <<< (w7 &&& 31)) : Int32) ^^^ (-1)))) ((v4 + 1))
def fX7_victimsOf (h : zH) (a0 : Nat) (a1 : Int32) : Option (Int32 × zH) :=
    if zkd h a0 = 8 then
    (fX7_tryNow h (a0)).bind fun h1 =>
    (zgP h1 7 a0 24).bind fun w2 =>
    (zaI h1 w2 (0)).bind fun w3 =>
    (zgP h1 7 a0 25).bind fun w4 =>
    zb2 (fX7_copyOn h1 (a0) (w4) (0) (a1)) fun w5 h6 =>
    if (w5 : Int32) ≤ 0 then
    fX7_victimsOf_L36 (fun h8 y9 y10 =>
    some (y9, h8)) (a0) (a1) (w3) zF h6 (((((1 : Int32) <<< (w3 &&& 31)) : Int32) - 1)) (1)
    else
    some ((-9), h6)
    else none
theorem kfX7_victimsOf {h : zH} {a0 : Nat} {a1 : Int32} {r : Int32 × zH} (hf : fX7_victimsOf h a0 a1 = some r) : zkd h a0 = 8 := by
  unfold fX7_victimsOf at hf
  exact (zck hf).1
def fX7_victims (h : zH) (a0 : Nat) (a1 : Int32) : Option (Int32 × zH) :=
    if zkd h a0 = 8 then
    zb2 (fX7_in h ((a1 : Int32).toInt64) (1) (9999)) fun w1 h2 =>
    if (w1 : Int32) = 0 then
    zb2 (fX7_refused h2 (a0) (1)) fun w4 h5 =>
    if (w4 : Int32) = 0 then
    zb2 (fX7_victimsOf h5 (a0) (a1)) fun w7 h8 =>
    some (w7, h8)
    else
    some (0, h5)
    else
    zb2 (fX7_refused h2 (a0) (0)) fun w9 h10 =>
    if (w9 : Int32) = 0 then
    zb2 (fX7_victimsOf h10 (a0) (a1)) fun w12 h13 =>
    some (w12, h13)
    else
    some (0, h10)
    else none
theorem kfX7_victims {h : zH} {a0 : Nat} {a1 : Int32} {r : Int32 × zH} (hf : fX7_victims h a0 a1 = some r) : zkd h a0 = 8 := by
  unfold fX7_victims at hf
  exact (zck hf).1
def fX7_room_L21 (k : zH → Int32 → Int32 → Option (Int32 × zH)) (u0 : Nat) (u2 : Int32) : Nat → zH → Int32 → Int32 → Option (Int32 × zH)
  | 0, _, _, _ => none
  | n + 1, h, v1, v3 => if (8 : Int32) ≤ v3 then
    k h (v1) (v3)
    else
    (zgP h 7 u0 24).bind fun w2 =>
    zb2 (fX7_at h (u2)) fun w3 h4 =>
    (zaI h4 w2 (((((w3 : Int32) + 16) : Int32) + v3))).bind fun w5 =>
    if (w5 : Int32) = 2 then
    (zgP h4 7 u0 24).bind fun w7 =>
    zb2 (fX7_at h4 (u2)) fun w8 h9 =>
    (zaI h9 w7 (((((w8 : Int32) + 0) : Int32) + v3))).bind fun w10 =>
    fX7_room_L21 k u0 u2 n h9 (((v1 : Int32) + w10)) ((v3 + 1))
    else
    fX7_room_L21 k u0 u2 n h4 (((v1 : Int32) + 0)) ((v3 + 1))
def fX7_room_L9 (k : zH → Int32 → Int32 → Option (Int32 × zH)) (u0 : Nat) : Nat → zH → Int32 → Int32 → Option (Int32 × zH)
  | 0, _, _, _ => none
  | n + 1, h, v1, v2 => (zgP h 7 u0 24).bind fun w1 =>
    (zaI h w1 (0)).bind fun w2 =>
    if (w2 : Int32) ≤ v2 then
    k h (v1) (v2)
    else
    fX7_room_L21 (fun h4 y5 y6 =>
    fX7_room_L9 k u0 n h4 (y5) ((v2 + 1))) (u0) (v2) zF h (v1) (0)
def fX7_room (h : zH) (a0 : Nat) : Option (Int32 × zH) :=
    if zkd h a0 = 8 then
    (zpI h 7 a0 0 0).bind fun h1 =>
    fX7_room_L9 (fun h2 y3 y4 =>
    (zgP h2 7 a0 24).bind fun w5 =>
    (zaI h2 w5 (3)).bind fun w6 =>
    (zgP h2 7 a0 24).bind fun w7 =>
    zb2 (fX7_used h2 (w7)) fun w8 h9 =>
    (zgP h9 7 a0 24).bind fun w10 =>
    (zaI h9 w10 (0)).bind fun w11 =>
    if (w11 : Int32) = 12 then
    some (0, h9)
    else
    if 0 ≤ (((((w6 : Int32) - w8) : Int32) + y3) : Int32) then
    if (((((w6 : Int32) - w8) : Int32) + y3) : Int32) ≤ 9999 then
    some (((((w6 : Int32) - w8) : Int32) + y3), h9)
    else
    some (9999, h9)
    else
    some (0, h9)) (a0) zF h1 (0) (0)
    else none
theorem kfX7_room {h : zH} {a0 : Nat} {r : Int32 × zH} (hf : fX7_room h a0 = some r) : zkd h a0 = 8 := by
  unfold fX7_room at hf
  exact (zck hf).1
def fX7_ranked_L45 (k : zH → Int32 → Int32 → Option (Int32 × zH)) (u0 : Nat) (u1 : Int32) (u2 : Int32) (u3 : Int32) : Nat → zH → Int32 → Int32 → Option (Int32 × zH)
  | 0, _, _, _ => none
  | n + 1, h, v4, v5 => (zgP h 7 u0 24).bind fun w1 =>
    (zaI h w1 (0)).bind fun w2 =>
    if (w2 : Int32) ≤ v5 then
    k h (v4) (v5)
    else
    (zgP h 7 u0 24).bind fun w4 =>
    zb2 (fX7_weight h (w4) (v5)) fun w5 h6 =>
    (zgP h6 7 u0 24).bind fun w7 =>
    zb2 (fX7_weight h6 (w7) (u3)) fun w8 h9 =>
    if (w8 : Int32) < w5 then
    fX7_ranked_L45 k u0 u1 u2 u3 n h9 (((v4 : Int32) + 1)) ((v5 + 1))
    else
    (zgP h9 7 u0 24).bind fun w11 =>
    zb2 (fX7_weight h9 (w11) (v5)) fun w12 h13 =>
    (zgP h13 7 u0 24).bind fun w14 =>
    zb2 (fX7_weight h13 (w14) (u3)) fun w15 h16 =>
    if (w12 : Int32) = w15 then
    if (v5 : Int32) ≤ u3 then
    fX7_ranked_L45 k u0 u1 u2 u3 n h16 (((v4 : Int32) + 0)) ((v5 + 1))
    else
    fX7_ranked_L45 k u0 u1 u2 u3 n h16 (((v4 : Int32) + 1)) ((v5 + 1))
    else
    fX7_ranked_L45 k u0 u1 u2 u3 n h16 (((v4 : Int32) + 0)) ((v5 + 1))
def fX7_ranked_L29 (k : zH → Int32 → Int32 → Option (Int32 × zH)) (u0 : Nat) (u1 : Int32) : Nat → zH → Int32 → Int32 → Option (Int32 × zH)
  | 0, _, _, _ => none
  | n + 1, h, v2, v3 => (zgP h 7 u0 24).bind fun w1 =>
    (zaI h w1 (0)).bind fun w2 =>
    if (w2 : Int32) ≤ v3 then
    k h (v2) (v3)
    else
    fX7_ranked_L45 (fun h4 y5 y6 =>
    if (y5 : Int32) = u1 then
    fX7_ranked_L29 k u0 u1 n h4 (v3) ((v3 + 1))
    else
    fX7_ranked_L29 k u0 u1 n h4 (v2) ((v3 + 1))) (u0) (u1) (v2) (v3) zF h (0) (0)
def fX7_ranked (h : zH) (a0 : Nat) (a1 : Int32) : Option (Int32 × zH) :=
    if zkd h a0 = 8 then
    (zgP h 7 a0 24).bind fun w1 =>
    zb2 (fX7_isEntry h (w1) (a1)) fun w2 h3 =>
    if (w2 : Int32) = 0 then
    zb2 (fX7_refused h3 (a0) (1)) fun w5 h6 =>
    if (w5 : Int32) = 0 then
    fX7_ranked_L29 (fun h8 y9 y10 =>
    some (y9, h8)) (a0) (a1) zF h6 (0) (0)
    else
    some (0, h6)
    else
    zb2 (fX7_refused h3 (a0) (0)) fun w11 h12 =>
    if (w11 : Int32) = 0 then
    fX7_ranked_L29 (fun h14 y15 y16 =>
    some (y15, h14)) (a0) (a1) zF h12 (0) (0)
    else
    some (0, h12)
    else none
theorem kfX7_ranked {h : zH} {a0 : Nat} {a1 : Int32} {r : Int32 × zH} (hf : fX7_ranked h a0 a1 = some r) : zkd h a0 = 8 := by
  unfold fX7_ranked at hf
  exact (zck hf).1
def fX7_tries (h : zH) (a0 : Nat) (a1 : Int32) (a2 : Int32) (a3 : Int32) : Option (Int32 × zH) :=
    if zkd h a0 = 8 then
    (zgP h 7 a0 25).bind fun w1 =>
    (zgP h 7 a0 38).bind fun w2 =>
    (fX7_copyRow h (w1) (0) (w2) (0) (360)).bind fun h3 =>
    if (a1 : Int32) = 1 then
    (zgP h3 7 a0 25).bind fun w5 =>
    zb2 (fX7_copyOn h3 (a0) (w5) (a2) (a3)) fun w6 h7 =>
    if (w6 : Int32) ≤ 0 then
    if (w6 : Int32) = 0 then
    some (1, h7)
    else
    some (0, h7)
    else
    (zgP h7 7 a0 38).bind fun w10 =>
    (zgP h7 7 a0 25).bind fun w11 =>
    (fX7_copyRow h7 (w10) (0) (w11) (0) (360)).bind fun h12 =>
    if (w6 : Int32) = 0 then
    some (1, h12)
    else
    some (0, h12)
    else
    if (a1 : Int32) = 2 then
    (zgP h3 7 a0 25).bind fun w15 =>
    zb2 (fX7_offerOn h3 (a0) (w15) (a2) (a3)) fun w16 h17 =>
    if (w16 : Int32) ≤ 0 then
    if (w16 : Int32) = 0 then
    some (1, h17)
    else
    some (0, h17)
    else
    (zgP h17 7 a0 38).bind fun w20 =>
    (zgP h17 7 a0 25).bind fun w21 =>
    (fX7_copyRow h17 (w20) (0) (w21) (0) (360)).bind fun h22 =>
    if (w16 : Int32) = 0 then
    some (1, h22)
    else
    some (0, h22)
    else
    (zgP h3 7 a0 25).bind fun w24 =>
    zb2 (fX7_pasteOn h3 (a0) (w24) (a2) (a3)) fun w25 h26 =>
    if (w25 : Int32) ≤ 0 then
    if (w25 : Int32) = 0 then
    some (1, h26)
    else
    some (0, h26)
    else
    (zgP h26 7 a0 38).bind fun w29 =>
    (zgP h26 7 a0 25).bind fun w30 =>
    (fX7_copyRow h26 (w29) (0) (w30) (0) (360)).bind fun h31 =>
    if (w25 : Int32) = 0 then
    some (1, h31)
    else
    some (0, h31)
    else none
theorem kfX7_tries {h : zH} {a0 : Nat} {a1 : Int32} {a2 : Int32} {a3 : Int32} {r : Int32 × zH} (hf : fX7_tries h a0 a1 a2 a3 = some r) : zkd h a0 = 8 := by
  unfold fX7_tries at hf
  exact (zck hf).1
def fX7_command (h : zH) (a0 : Nat) (a1 : Int32) : Option (Int32 × zH) :=
    if zkd h a0 = 8 then
    if (((a1 : Int32) / 100000) : Int32) = 1 then
    zb2 (fX7_tries h (a0) (1) (((((a1 : Int32) / 10000) : Int32) - ((a1 : Int32) / 10000) / 10 * 10)) (((a1 : Int32) - a1 / 10000 * 10000))) fun w2 h3 =>
    if (w2 : Int32) = 0 ∨ w2 = 1 then some (w2, h3) else none
    else
    if (((a1 : Int32) / 100000) : Int32) = 2 then
    zb2 (fX7_tries h (a0) (2) (((((a1 : Int32) / 10000) : Int32) - ((a1 : Int32) / 10000) / 10 * 10)) (((a1 : Int32) - a1 / 10000 * 10000))) fun w6 h7 =>
    if (w6 : Int32) = 0 ∨ w6 = 1 then some (w6, h7) else none
    else
    if (((a1 : Int32) / 100000) : Int32) = 3 then
    if (((((a1 : Int32) - a1 / 1000 * 1000) : Int32) - ((a1 : Int32) - a1 / 1000 * 1000) / 100 * 100) : Int32) = 0 then
    zb2 (fX7_tries h (a0) (3) (((((a1 : Int32) / 1000) : Int32) - ((a1 : Int32) / 1000) / 100 * 100)) (((((a1 : Int32) - a1 / 1000 * 1000) : Int32) / 100))) fun w11 h12 =>
    if (w11 : Int32) = 0 then
    some (0, h12)
    else
    some (1, h12)
    else
    some (0, h)
    else
    if (((a1 : Int32) / 100000) : Int32) = 4 then
    if (((a1 : Int32) - a1 / 1000 * 1000) : Int32) = 0 then
    (zgP h 7 a0 25).bind fun w16 =>
    zb2 (fX7_isEntry h (w16) (((((a1 : Int32) / 1000) : Int32) - ((a1 : Int32) / 1000) / 100 * 100))) fun w17 h18 =>
    if (w17 : Int32) = 0 then
    some (0, h18)
    else
    (zgP h18 7 a0 25).bind fun w20 =>
    zb2 (fX7_at h18 (((((a1 : Int32) / 1000) : Int32) - ((a1 : Int32) / 1000) / 100 * 100))) fun w21 h22 =>
    (zgP h22 7 a0 25).bind fun w23 =>
    zb2 (fX7_at h22 (((((a1 : Int32) / 1000) : Int32) - ((a1 : Int32) / 1000) / 100 * 100))) fun w24 h25 =>
    (zaI h25 w23 (((w24 : Int32) + 24))).bind fun w26 =>
    (zbI h25 w20 (((w21 : Int32) + 24)) (((1 : Int32) - w26))).bind fun h27 =>
    some (1, h27)
    else
    some (0, h)
    else
    if (((a1 : Int32) / 100000) : Int32) = 5 then
    if (((a1 : Int32) - a1 / 1000 * 1000) : Int32) = 0 then
    (zgP h 7 a0 25).bind fun w30 =>
    zb2 (fX7_isEntry h (w30) (((((a1 : Int32) / 1000) : Int32) - ((a1 : Int32) / 1000) / 100 * 100))) fun w31 h32 =>
    if (w31 : Int32) = 0 then
    some (0, h32)
    else
    (zgP h32 7 a0 25).bind fun w34 =>
    (fX7_drop h32 (w34) (((((a1 : Int32) / 1000) : Int32) - ((a1 : Int32) / 1000) / 100 * 100))).bind fun h35 =>
    some (1, h35)
    else
    some (0, h)
    else
    if (((a1 : Int32) / 100000) : Int32) = 6 then
    (zgP h 7 a0 25).bind fun w37 =>
    zb2 (fX7_used h (w37)) fun w38 h39 =>
    if (((a1 : Int32) - a1 / 100000 * 100000) : Int32) < w38 then
    some (0, h39)
    else
    some (1, h39)
    else
    if (((a1 : Int32) / 100000) : Int32) = 7 then
    if (100 : Int32) ≤ ((a1 : Int32) - a1 / 100000 * 100000) then
    some (0, h)
    else
    (zgP h 7 a0 25).bind fun w43 =>
    (zaI h w43 (0)).bind fun w44 =>
    if (w44 : Int32) = ((a1 : Int32) - a1 / 100 * 100) then
    some (1, h)
    else
    some (0, h)
    else
    if (((a1 : Int32) / 100000) : Int32) = 8 then
    if (((((a1 : Int32) - a1 / 1000 * 1000) : Int32) - ((a1 : Int32) - a1 / 1000 * 1000) / 100 * 100) : Int32) = 0 then
    (zgP h 7 a0 25).bind fun w48 =>
    zb2 (fX7_isEntry h (w48) (((((a1 : Int32) / 1000) : Int32) - ((a1 : Int32) / 1000) / 100 * 100))) fun w49 h50 =>
    if (w49 : Int32) = 0 then
    some (0, h50)
    else
    zb2 (fX7_isFormat h50 (a0) (((((a1 : Int32) - a1 / 1000 * 1000) : Int32) / 100))) fun w52 h53 =>
    if (w52 : Int32) = 0 then
    some (0, h53)
    else
    (zgP h53 7 a0 25).bind fun w55 =>
    zb2 (fX7_at h53 (((((a1 : Int32) / 1000) : Int32) - ((a1 : Int32) / 1000) / 100 * 100))) fun w56 h57 =>
    (zaI h57 w55 (((((w56 : Int32) + 16) : Int32) + ((((a1 : Int32) - a1 / 1000 * 1000) : Int32) / 100)))).bind fun w58 =>
    if (w58 : Int32) ≤ 0 then
    some (0, h57)
    else
    some (1, h57)
    else
    some (0, h)
    else
    some (0, h)
    else none
theorem kfX7_command {h : zH} {a0 : Nat} {a1 : Int32} {r : Int32 × zH} (hf : fX7_command h a0 a1 = some r) : zkd h a0 = 8 := by
  unfold fX7_command at hf
  exact (zck hf).1
abbrev rm_X7_remove : Room := { frames := 2, cells := 0, slots := 0, locals := 46 }
set_option maxRecDepth 100000 in
set_option maxHeartbeats 4000000 in
theorem tX7_remove {l : Launch} {G : zG} (hst : l.stackTraces = false) {h : zH} {a0 : Nat} {a1 : Int32} {r : Int32 × zH} (hf : fX7_remove h a0 a1 = some r) : zMet l G yX7_remove (.code yX7_remove cX7_remove 3 (some .int)) rm_X7_remove 0 0 [.ref a0, .int a1] h (zoi r) := by
  unfold fX7_remove at hf
  obtain ⟨-, hf⟩ := zck hf
  refine z_enter (by decide) (Nat.le_of_ble_eq_true rfl) hst (fun x hx B hE => ?_)
  subst hx
  have B : zB G x cX7_remove 3 RX7 "remove" rm_X7_remove (some .int) := B
  show zV G x 3 (zQ G x (zoi r) 0 0) h 0 0 0 [(0, .ref a0), (1, .int a1)] []
  refine z_aload_n B dX7_remove_0 rfl 0 rfl ?_
  refine z_aload_n B dX7_remove_1 rfl 0 rfl ?_
  obtain ⟨w1, ew1, hf⟩ := zbs hf
  refine z_gP B fl_RX7_56 ew1 rfl dX7_remove_2 ?_
  refine z_iload_n B dX7_remove_5 rfl 1 rfl ?_
  obtain ⟨w2, h3, ew2, hf⟩ := zb2s hf
  refine z_callSi B [.ref w1, .int a1] [.ref a0] cw_X7_isEntry mt_RX7_204 (tX7_isEntry hst ew2) ⟨rfl, rfl, (Nat.le_of_ble_eq_true rfl), (Nat.le_of_ble_eq_true rfl), (Nat.le_of_ble_eq_true rfl), (Nat.le_of_ble_eq_true rfl)⟩ rfl rfl (Nat.le_of_ble_eq_true rfl) dX7_remove_6 ?_
  rcases zite hf with ⟨c4, hf⟩ | ⟨c4, hf⟩
  · refine z_if_eq B 16 dX7_remove_9 (by decide) (fun _ => ?_) (fun e => absurd c4 e)
    refine z_iconst (v := 1) B dX7_remove_16 (by decide) ?_
    obtain ⟨w5, h6, ew5, hf⟩ := zb2s hf
    refine z_callVi B [.int 1] [] cw_X7_refused mv_RX7_112 (tX7_refused hst ew5) rfl (by decide) (kfX7_refused ew5) ⟨rfl, rfl, (Nat.le_of_ble_eq_true rfl), (Nat.le_of_ble_eq_true rfl), (Nat.le_of_ble_eq_true rfl), (Nat.le_of_ble_eq_true rfl)⟩ rfl rfl (Nat.le_of_ble_eq_true rfl) dX7_remove_17 ?_
    rcases zite hf with ⟨c7, hf⟩ | ⟨c7, hf⟩
    · refine z_if_eq B 25 dX7_remove_20 (by decide) (fun _ => ?_) (fun e => absurd c7 e)
      refine z_aload_n B dX7_remove_25 rfl 0 rfl ?_
      obtain ⟨h8, eh8, hf⟩ := zbs hf
      refine z_callVv B [] [] cw_X7_note mv_RX7_94 (tX7_note hst eh8) rfl (by decide) (kfX7_note eh8) ⟨rfl, rfl, (Nat.le_of_ble_eq_true rfl), (Nat.le_of_ble_eq_true rfl), (Nat.le_of_ble_eq_true rfl), (Nat.le_of_ble_eq_true rfl)⟩ rfl rfl (Nat.le_of_ble_eq_true rfl) dX7_remove_26 ?_
      refine z_aload_n B dX7_remove_29 rfl 0 rfl ?_
      obtain ⟨w9, ew9, hf⟩ := zbs hf
      refine z_gP B fl_RX7_56 ew9 rfl dX7_remove_30 ?_
      refine z_iload_n B dX7_remove_33 rfl 1 rfl ?_
      obtain ⟨w10, h11, ew10, hf⟩ := zb2s hf
      refine z_callSi B [.ref w9, .int a1] [] cw_X7_sizeOf mt_RX7_166 (tX7_sizeOf hst ew10) ⟨rfl, rfl, (Nat.le_of_ble_eq_true rfl), (Nat.le_of_ble_eq_true rfl), (Nat.le_of_ble_eq_true rfl), (Nat.le_of_ble_eq_true rfl)⟩ rfl rfl (Nat.le_of_ble_eq_true rfl) dX7_remove_34 ?_
      refine z_istore_n (lv' := [(2, .int w10), (0, .ref a0), (1, .int a1)]) B dX7_remove_37 rfl (by decide) rfl ?_
      refine z_aload_n B dX7_remove_38 rfl 1 rfl ?_
      obtain ⟨w12, ew12, hf⟩ := zbs hf
      refine z_gP B fl_RX7_56 ew12 rfl dX7_remove_39 ?_
      refine z_iload_n B dX7_remove_42 rfl 2 rfl ?_
      obtain ⟨h13, eh13, hf⟩ := zbs hf
      refine z_callSv B [.ref w12, .int a1] [] cw_X7_drop mt_RX7_190 (tX7_drop hst eh13) ⟨rfl, rfl, (Nat.le_of_ble_eq_true rfl), (Nat.le_of_ble_eq_true rfl), (Nat.le_of_ble_eq_true rfl), (Nat.le_of_ble_eq_true rfl)⟩ rfl rfl (Nat.le_of_ble_eq_true rfl) dX7_remove_43 ?_
      refine z_iload_n B dX7_remove_46 rfl 0 rfl ?_
      cases hf
      exact z_iret B dX7_remove_47 (Nat.le_of_ble_eq_true rfl) (Nat.le_of_ble_eq_true rfl)
    refine z_if_eq B 25 dX7_remove_20 (by decide) (fun e => absurd e c7) (fun _ => ?_)
    refine z_iconst (v := 0) B dX7_remove_23 (by decide) ?_
    cases hf
    exact z_iret B dX7_remove_24 (Nat.le_of_ble_eq_true rfl) (Nat.le_of_ble_eq_true rfl)
  refine z_if_eq B 16 dX7_remove_9 (by decide) (fun e => absurd e c4) (fun _ => ?_)
  refine z_iconst (v := 0) B dX7_remove_12 (by decide) ?_
  refine z_goto B 17 dX7_remove_13 (by decide) ?_
  obtain ⟨w14, h15, ew14, hf⟩ := zb2s hf
  refine z_callVi B [.int 0] [] cw_X7_refused mv_RX7_112 (tX7_refused hst ew14) rfl (by decide) (kfX7_refused ew14) ⟨rfl, rfl, (Nat.le_of_ble_eq_true rfl), (Nat.le_of_ble_eq_true rfl), (Nat.le_of_ble_eq_true rfl), (Nat.le_of_ble_eq_true rfl)⟩ rfl rfl (Nat.le_of_ble_eq_true rfl) dX7_remove_17 ?_
  rcases zite hf with ⟨c16, hf⟩ | ⟨c16, hf⟩
  · refine z_if_eq B 25 dX7_remove_20 (by decide) (fun _ => ?_) (fun e => absurd c16 e)
    refine z_aload_n B dX7_remove_25 rfl 0 rfl ?_
    obtain ⟨h17, eh17, hf⟩ := zbs hf
    refine z_callVv B [] [] cw_X7_note mv_RX7_94 (tX7_note hst eh17) rfl (by decide) (kfX7_note eh17) ⟨rfl, rfl, (Nat.le_of_ble_eq_true rfl), (Nat.le_of_ble_eq_true rfl), (Nat.le_of_ble_eq_true rfl), (Nat.le_of_ble_eq_true rfl)⟩ rfl rfl (Nat.le_of_ble_eq_true rfl) dX7_remove_26 ?_
    refine z_aload_n B dX7_remove_29 rfl 0 rfl ?_
    obtain ⟨w18, ew18, hf⟩ := zbs hf
    refine z_gP B fl_RX7_56 ew18 rfl dX7_remove_30 ?_
    refine z_iload_n B dX7_remove_33 rfl 1 rfl ?_
    obtain ⟨w19, h20, ew19, hf⟩ := zb2s hf
    refine z_callSi B [.ref w18, .int a1] [] cw_X7_sizeOf mt_RX7_166 (tX7_sizeOf hst ew19) ⟨rfl, rfl, (Nat.le_of_ble_eq_true rfl), (Nat.le_of_ble_eq_true rfl), (Nat.le_of_ble_eq_true rfl), (Nat.le_of_ble_eq_true rfl)⟩ rfl rfl (Nat.le_of_ble_eq_true rfl) dX7_remove_34 ?_
    refine z_istore_n (lv' := [(2, .int w19), (0, .ref a0), (1, .int a1)]) B dX7_remove_37 rfl (by decide) rfl ?_
    refine z_aload_n B dX7_remove_38 rfl 1 rfl ?_
    obtain ⟨w21, ew21, hf⟩ := zbs hf
    refine z_gP B fl_RX7_56 ew21 rfl dX7_remove_39 ?_
    refine z_iload_n B dX7_remove_42 rfl 2 rfl ?_
    obtain ⟨h22, eh22, hf⟩ := zbs hf
    refine z_callSv B [.ref w21, .int a1] [] cw_X7_drop mt_RX7_190 (tX7_drop hst eh22) ⟨rfl, rfl, (Nat.le_of_ble_eq_true rfl), (Nat.le_of_ble_eq_true rfl), (Nat.le_of_ble_eq_true rfl), (Nat.le_of_ble_eq_true rfl)⟩ rfl rfl (Nat.le_of_ble_eq_true rfl) dX7_remove_43 ?_
    refine z_iload_n B dX7_remove_46 rfl 0 rfl ?_
    cases hf
    exact z_iret B dX7_remove_47 (Nat.le_of_ble_eq_true rfl) (Nat.le_of_ble_eq_true rfl)
  refine z_if_eq B 25 dX7_remove_20 (by decide) (fun e => absurd e c16) (fun _ => ?_)
  refine z_iconst (v := 0) B dX7_remove_23 (by decide) ?_
  cases hf
  exact z_iret B dX7_remove_24 (Nat.le_of_ble_eq_true rfl) (Nat.le_of_ble_eq_true rfl)
abbrev rm_X7_setBudget : Room := { frames := 5, cells := 0, slots := 0, locals := 115 }
set_option maxRecDepth 100000 in
set_option maxHeartbeats 4000000 in
theorem tX7_setBudget {l : Launch} {G : zG} (hst : l.stackTraces = false) {h : zH} {a0 : Nat} {a1 : Int32} {r : Int32 × zH} (hf : fX7_setBudget h a0 a1 = some r) : zMet l G yX7_setBudget (.code yX7_setBudget cX7_setBudget 2 (some .int)) rm_X7_setBudget 0 0 [.ref a0, .int a1] h (zoi r) := by
  unfold fX7_setBudget at hf
  obtain ⟨-, hf⟩ := zck hf
  refine z_enter (by decide) (Nat.le_of_ble_eq_true rfl) hst (fun x hx B hE => ?_)
  subst hx
  have B : zB G x cX7_setBudget 2 RX7 "setBudget" rm_X7_setBudget (some .int) := B
  show zV G x 2 (zQ G x (zoi r) 0 0) h 0 0 0 [(0, .ref a0), (1, .int a1)] []
  refine z_aload_n B dX7_setBudget_0 rfl 0 rfl ?_
  refine z_iload_n B dX7_setBudget_1 rfl 1 rfl ?_
  refine z_i2l B dX7_setBudget_2 ?_
  refine z_lconst (v := 1) B dX7_setBudget_3 (by decide) ?_
  refine z_ldc2 B dX7_setBudget_4 kl_RX7_265 ?_
  obtain ⟨w1, h2, ew1, hf⟩ := zb2s hf
  refine z_callSi B [.long (a1 : Int32).toInt64, .long 1, .long 99999] [.ref a0] cw_X7_in mt_RX7_97 (tX7_in hst ew1) ⟨rfl, rfl, (Nat.le_of_ble_eq_true rfl), (Nat.le_of_ble_eq_true rfl), (Nat.le_of_ble_eq_true rfl), (Nat.le_of_ble_eq_true rfl)⟩ rfl rfl (Nat.le_of_ble_eq_true rfl) dX7_setBudget_7 ?_
  rcases zite hf with ⟨c3, hf⟩ | ⟨c3, hf⟩
  · refine z_if_eq B 17 dX7_setBudget_10 (by decide) (fun _ => ?_) (fun e => absurd c3 e)
    refine z_iconst (v := 1) B dX7_setBudget_17 (by decide) ?_
    obtain ⟨w4, h5, ew4, hf⟩ := zb2s hf
    refine z_callVi B [.int 1] [] cw_X7_refused mv_RX7_112 (tX7_refused hst ew4) rfl (by decide) (kfX7_refused ew4) ⟨rfl, rfl, (Nat.le_of_ble_eq_true rfl), (Nat.le_of_ble_eq_true rfl), (Nat.le_of_ble_eq_true rfl), (Nat.le_of_ble_eq_true rfl)⟩ rfl rfl (Nat.le_of_ble_eq_true rfl) dX7_setBudget_18 ?_
    rcases zite hf with ⟨c6, hf⟩ | ⟨c6, hf⟩
    · refine z_if_eq B 26 dX7_setBudget_21 (by decide) (fun _ => ?_) (fun e => absurd c6 e)
      refine z_aload_n B dX7_setBudget_26 rfl 0 rfl ?_
      obtain ⟨h7, eh7, hf⟩ := zbs hf
      refine z_callVv B [] [] cw_X7_tryNow mv_RX7_247 (tX7_tryNow hst eh7) rfl (by decide) (kfX7_tryNow eh7) ⟨rfl, rfl, (Nat.le_of_ble_eq_true rfl), (Nat.le_of_ble_eq_true rfl), (Nat.le_of_ble_eq_true rfl), (Nat.le_of_ble_eq_true rfl)⟩ rfl rfl (Nat.le_of_ble_eq_true rfl) dX7_setBudget_27 ?_
      refine z_aload_n B dX7_setBudget_30 rfl 0 rfl ?_
      obtain ⟨w8, ew8, hf⟩ := zbs hf
      refine z_gP B fl_RX7_59 ew8 rfl dX7_setBudget_31 ?_
      refine z_iconst (v := 3) B dX7_setBudget_34 (by decide) ?_
      refine z_iload_n B dX7_setBudget_35 rfl 1 rfl ?_
      obtain ⟨h9, eh9, hf⟩ := zbs hf
      refine z_bI B eh9 dX7_setBudget_36 ?_
      refine z_aload_n B dX7_setBudget_37 rfl 0 rfl ?_
      refine z_aload_n B dX7_setBudget_38 rfl 0 rfl ?_
      obtain ⟨w10, ew10, hf⟩ := zbs hf
      refine z_gP B fl_RX7_59 ew10 rfl dX7_setBudget_39 ?_
      refine z_iconst (v := 0) B dX7_setBudget_42 (by decide) ?_
      refine z_bipush (v := (-9)) B dX7_setBudget_43 (by decide) ?_
      refine z_iconst (v := 1) B dX7_setBudget_45 (by decide) ?_
      obtain ⟨w11, h12, ew11, hf⟩ := zb2s hf
      refine z_callSi B [.ref w10, .int 0, .int (-9), .int 1] [.ref a0] cw_X7_makeRoom mt_RX7_219 (tX7_makeRoom hst ew11) ⟨rfl, rfl, (Nat.le_of_ble_eq_true rfl), (Nat.le_of_ble_eq_true rfl), (Nat.le_of_ble_eq_true rfl), (Nat.le_of_ble_eq_true rfl)⟩ rfl rfl (Nat.le_of_ble_eq_true rfl) dX7_setBudget_46 ?_
      rcases zite hf with ⟨c13, hf⟩ | ⟨c13, hf⟩
      · refine z_if_eq B 56 dX7_setBudget_49 (by decide) (fun _ => ?_) (fun e => absurd c13 e)
        refine z_iconst (v := 2) B dX7_setBudget_56 (by decide) ?_
        obtain ⟨w14, h15, ew14, hf⟩ := zb2s hf
        refine z_callVi B [.int 2] [] cw_X7_refused mv_RX7_112 (tX7_refused hst ew14) rfl (by decide) (kfX7_refused ew14) ⟨rfl, rfl, (Nat.le_of_ble_eq_true rfl), (Nat.le_of_ble_eq_true rfl), (Nat.le_of_ble_eq_true rfl), (Nat.le_of_ble_eq_true rfl)⟩ rfl rfl (Nat.le_of_ble_eq_true rfl) dX7_setBudget_57 ?_
        rcases zite hf with ⟨c16, hf⟩ | ⟨c16, hf⟩
        · refine z_if_eq B 65 dX7_setBudget_60 (by decide) (fun _ => ?_) (fun e => absurd c16 e)
          refine z_aload_n B dX7_setBudget_65 rfl 0 rfl ?_
          obtain ⟨h17, eh17, hf⟩ := zbs hf
          refine z_callVv B [] [] cw_X7_accept mv_RX7_253 (tX7_accept hst eh17) rfl (by decide) (kfX7_accept eh17) ⟨rfl, rfl, (Nat.le_of_ble_eq_true rfl), (Nat.le_of_ble_eq_true rfl), (Nat.le_of_ble_eq_true rfl), (Nat.le_of_ble_eq_true rfl)⟩ rfl rfl (Nat.le_of_ble_eq_true rfl) dX7_setBudget_66 ?_
          refine z_aload_n B dX7_setBudget_69 rfl 0 rfl ?_
          obtain ⟨w18, ew18, hf⟩ := zbs hf
          refine z_gP B fl_RX7_56 ew18 rfl dX7_setBudget_70 ?_
          obtain ⟨w19, h20, ew19, hf⟩ := zb2s hf
          refine z_callSi B [.ref w18] [] cw_X7_used mt_RX7_176 (tX7_used hst ew19) ⟨rfl, rfl, (Nat.le_of_ble_eq_true rfl), (Nat.le_of_ble_eq_true rfl), (Nat.le_of_ble_eq_true rfl), (Nat.le_of_ble_eq_true rfl)⟩ rfl rfl (Nat.le_of_ble_eq_true rfl) dX7_setBudget_73 ?_
          cases hf
          exact z_iret B dX7_setBudget_76 (Nat.le_of_ble_eq_true rfl) (Nat.le_of_ble_eq_true rfl)
        refine z_if_eq B 65 dX7_setBudget_60 (by decide) (fun e => absurd e c16) (fun _ => ?_)
        refine z_iconst (v := 0) B dX7_setBudget_63 (by decide) ?_
        cases hf
        exact z_iret B dX7_setBudget_64 (Nat.le_of_ble_eq_true rfl) (Nat.le_of_ble_eq_true rfl)
      refine z_if_eq B 56 dX7_setBudget_49 (by decide) (fun e => absurd e c13) (fun _ => ?_)
      refine z_iconst (v := 0) B dX7_setBudget_52 (by decide) ?_
      refine z_goto B 57 dX7_setBudget_53 (by decide) ?_
      obtain ⟨w21, h22, ew21, hf⟩ := zb2s hf
      refine z_callVi B [.int 0] [] cw_X7_refused mv_RX7_112 (tX7_refused hst ew21) rfl (by decide) (kfX7_refused ew21) ⟨rfl, rfl, (Nat.le_of_ble_eq_true rfl), (Nat.le_of_ble_eq_true rfl), (Nat.le_of_ble_eq_true rfl), (Nat.le_of_ble_eq_true rfl)⟩ rfl rfl (Nat.le_of_ble_eq_true rfl) dX7_setBudget_57 ?_
      rcases zite hf with ⟨c23, hf⟩ | ⟨c23, hf⟩
      · refine z_if_eq B 65 dX7_setBudget_60 (by decide) (fun _ => ?_) (fun e => absurd c23 e)
        refine z_aload_n B dX7_setBudget_65 rfl 0 rfl ?_
        obtain ⟨h24, eh24, hf⟩ := zbs hf
        refine z_callVv B [] [] cw_X7_accept mv_RX7_253 (tX7_accept hst eh24) rfl (by decide) (kfX7_accept eh24) ⟨rfl, rfl, (Nat.le_of_ble_eq_true rfl), (Nat.le_of_ble_eq_true rfl), (Nat.le_of_ble_eq_true rfl), (Nat.le_of_ble_eq_true rfl)⟩ rfl rfl (Nat.le_of_ble_eq_true rfl) dX7_setBudget_66 ?_
        refine z_aload_n B dX7_setBudget_69 rfl 0 rfl ?_
        obtain ⟨w25, ew25, hf⟩ := zbs hf
        refine z_gP B fl_RX7_56 ew25 rfl dX7_setBudget_70 ?_
        obtain ⟨w26, h27, ew26, hf⟩ := zb2s hf
        refine z_callSi B [.ref w25] [] cw_X7_used mt_RX7_176 (tX7_used hst ew26) ⟨rfl, rfl, (Nat.le_of_ble_eq_true rfl), (Nat.le_of_ble_eq_true rfl), (Nat.le_of_ble_eq_true rfl), (Nat.le_of_ble_eq_true rfl)⟩ rfl rfl (Nat.le_of_ble_eq_true rfl) dX7_setBudget_73 ?_
        cases hf
        exact z_iret B dX7_setBudget_76 (Nat.le_of_ble_eq_true rfl) (Nat.le_of_ble_eq_true rfl)
      refine z_if_eq B 65 dX7_setBudget_60 (by decide) (fun e => absurd e c23) (fun _ => ?_)
      refine z_iconst (v := 0) B dX7_setBudget_63 (by decide) ?_
      cases hf
      exact z_iret B dX7_setBudget_64 (Nat.le_of_ble_eq_true rfl) (Nat.le_of_ble_eq_true rfl)
    refine z_if_eq B 26 dX7_setBudget_21 (by decide) (fun e => absurd e c6) (fun _ => ?_)
    refine z_iconst (v := 0) B dX7_setBudget_24 (by decide) ?_
    cases hf
    exact z_iret B dX7_setBudget_25 (Nat.le_of_ble_eq_true rfl) (Nat.le_of_ble_eq_true rfl)
  refine z_if_eq B 17 dX7_setBudget_10 (by decide) (fun e => absurd e c3) (fun _ => ?_)
  refine z_iconst (v := 0) B dX7_setBudget_13 (by decide) ?_
  refine z_goto B 18 dX7_setBudget_14 (by decide) ?_
  obtain ⟨w28, h29, ew28, hf⟩ := zb2s hf
  refine z_callVi B [.int 0] [] cw_X7_refused mv_RX7_112 (tX7_refused hst ew28) rfl (by decide) (kfX7_refused ew28) ⟨rfl, rfl, (Nat.le_of_ble_eq_true rfl), (Nat.le_of_ble_eq_true rfl), (Nat.le_of_ble_eq_true rfl), (Nat.le_of_ble_eq_true rfl)⟩ rfl rfl (Nat.le_of_ble_eq_true rfl) dX7_setBudget_18 ?_
  rcases zite hf with ⟨c30, hf⟩ | ⟨c30, hf⟩
  · refine z_if_eq B 26 dX7_setBudget_21 (by decide) (fun _ => ?_) (fun e => absurd c30 e)
    refine z_aload_n B dX7_setBudget_26 rfl 0 rfl ?_
    obtain ⟨h31, eh31, hf⟩ := zbs hf
    refine z_callVv B [] [] cw_X7_tryNow mv_RX7_247 (tX7_tryNow hst eh31) rfl (by decide) (kfX7_tryNow eh31) ⟨rfl, rfl, (Nat.le_of_ble_eq_true rfl), (Nat.le_of_ble_eq_true rfl), (Nat.le_of_ble_eq_true rfl), (Nat.le_of_ble_eq_true rfl)⟩ rfl rfl (Nat.le_of_ble_eq_true rfl) dX7_setBudget_27 ?_
    refine z_aload_n B dX7_setBudget_30 rfl 0 rfl ?_
    obtain ⟨w32, ew32, hf⟩ := zbs hf
    refine z_gP B fl_RX7_59 ew32 rfl dX7_setBudget_31 ?_
    refine z_iconst (v := 3) B dX7_setBudget_34 (by decide) ?_
    refine z_iload_n B dX7_setBudget_35 rfl 1 rfl ?_
    obtain ⟨h33, eh33, hf⟩ := zbs hf
    refine z_bI B eh33 dX7_setBudget_36 ?_
    refine z_aload_n B dX7_setBudget_37 rfl 0 rfl ?_
    refine z_aload_n B dX7_setBudget_38 rfl 0 rfl ?_
    obtain ⟨w34, ew34, hf⟩ := zbs hf
    refine z_gP B fl_RX7_59 ew34 rfl dX7_setBudget_39 ?_
    refine z_iconst (v := 0) B dX7_setBudget_42 (by decide) ?_
    refine z_bipush (v := (-9)) B dX7_setBudget_43 (by decide) ?_
    refine z_iconst (v := 1) B dX7_setBudget_45 (by decide) ?_
    obtain ⟨w35, h36, ew35, hf⟩ := zb2s hf
    refine z_callSi B [.ref w34, .int 0, .int (-9), .int 1] [.ref a0] cw_X7_makeRoom mt_RX7_219 (tX7_makeRoom hst ew35) ⟨rfl, rfl, (Nat.le_of_ble_eq_true rfl), (Nat.le_of_ble_eq_true rfl), (Nat.le_of_ble_eq_true rfl), (Nat.le_of_ble_eq_true rfl)⟩ rfl rfl (Nat.le_of_ble_eq_true rfl) dX7_setBudget_46 ?_
    rcases zite hf with ⟨c37, hf⟩ | ⟨c37, hf⟩
    · refine z_if_eq B 56 dX7_setBudget_49 (by decide) (fun _ => ?_) (fun e => absurd c37 e)
      refine z_iconst (v := 2) B dX7_setBudget_56 (by decide) ?_
      obtain ⟨w38, h39, ew38, hf⟩ := zb2s hf
      refine z_callVi B [.int 2] [] cw_X7_refused mv_RX7_112 (tX7_refused hst ew38) rfl (by decide) (kfX7_refused ew38) ⟨rfl, rfl, (Nat.le_of_ble_eq_true rfl), (Nat.le_of_ble_eq_true rfl), (Nat.le_of_ble_eq_true rfl), (Nat.le_of_ble_eq_true rfl)⟩ rfl rfl (Nat.le_of_ble_eq_true rfl) dX7_setBudget_57 ?_
      rcases zite hf with ⟨c40, hf⟩ | ⟨c40, hf⟩
      · refine z_if_eq B 65 dX7_setBudget_60 (by decide) (fun _ => ?_) (fun e => absurd c40 e)
        refine z_aload_n B dX7_setBudget_65 rfl 0 rfl ?_
        obtain ⟨h41, eh41, hf⟩ := zbs hf
        refine z_callVv B [] [] cw_X7_accept mv_RX7_253 (tX7_accept hst eh41) rfl (by decide) (kfX7_accept eh41) ⟨rfl, rfl, (Nat.le_of_ble_eq_true rfl), (Nat.le_of_ble_eq_true rfl), (Nat.le_of_ble_eq_true rfl), (Nat.le_of_ble_eq_true rfl)⟩ rfl rfl (Nat.le_of_ble_eq_true rfl) dX7_setBudget_66 ?_
        refine z_aload_n B dX7_setBudget_69 rfl 0 rfl ?_
        obtain ⟨w42, ew42, hf⟩ := zbs hf
        refine z_gP B fl_RX7_56 ew42 rfl dX7_setBudget_70 ?_
        obtain ⟨w43, h44, ew43, hf⟩ := zb2s hf
        refine z_callSi B [.ref w42] [] cw_X7_used mt_RX7_176 (tX7_used hst ew43) ⟨rfl, rfl, (Nat.le_of_ble_eq_true rfl), (Nat.le_of_ble_eq_true rfl), (Nat.le_of_ble_eq_true rfl), (Nat.le_of_ble_eq_true rfl)⟩ rfl rfl (Nat.le_of_ble_eq_true rfl) dX7_setBudget_73 ?_
        cases hf
        exact z_iret B dX7_setBudget_76 (Nat.le_of_ble_eq_true rfl) (Nat.le_of_ble_eq_true rfl)
      refine z_if_eq B 65 dX7_setBudget_60 (by decide) (fun e => absurd e c40) (fun _ => ?_)
      refine z_iconst (v := 0) B dX7_setBudget_63 (by decide) ?_
      cases hf
      exact z_iret B dX7_setBudget_64 (Nat.le_of_ble_eq_true rfl) (Nat.le_of_ble_eq_true rfl)
    refine z_if_eq B 56 dX7_setBudget_49 (by decide) (fun e => absurd e c37) (fun _ => ?_)
    refine z_iconst (v := 0) B dX7_setBudget_52 (by decide) ?_
    refine z_goto B 57 dX7_setBudget_53 (by decide) ?_
    obtain ⟨w45, h46, ew45, hf⟩ := zb2s hf
    refine z_callVi B [.int 0] [] cw_X7_refused mv_RX7_112 (tX7_refused hst ew45) rfl (by decide) (kfX7_refused ew45) ⟨rfl, rfl, (Nat.le_of_ble_eq_true rfl), (Nat.le_of_ble_eq_true rfl), (Nat.le_of_ble_eq_true rfl), (Nat.le_of_ble_eq_true rfl)⟩ rfl rfl (Nat.le_of_ble_eq_true rfl) dX7_setBudget_57 ?_
    rcases zite hf with ⟨c47, hf⟩ | ⟨c47, hf⟩
    · refine z_if_eq B 65 dX7_setBudget_60 (by decide) (fun _ => ?_) (fun e => absurd c47 e)
      refine z_aload_n B dX7_setBudget_65 rfl 0 rfl ?_
      obtain ⟨h48, eh48, hf⟩ := zbs hf
      refine z_callVv B [] [] cw_X7_accept mv_RX7_253 (tX7_accept hst eh48) rfl (by decide) (kfX7_accept eh48) ⟨rfl, rfl, (Nat.le_of_ble_eq_true rfl), (Nat.le_of_ble_eq_true rfl), (Nat.le_of_ble_eq_true rfl), (Nat.le_of_ble_eq_true rfl)⟩ rfl rfl (Nat.le_of_ble_eq_true rfl) dX7_setBudget_66 ?_
      refine z_aload_n B dX7_setBudget_69 rfl 0 rfl ?_
      obtain ⟨w49, ew49, hf⟩ := zbs hf
      refine z_gP B fl_RX7_56 ew49 rfl dX7_setBudget_70 ?_
      obtain ⟨w50, h51, ew50, hf⟩ := zb2s hf
      refine z_callSi B [.ref w49] [] cw_X7_used mt_RX7_176 (tX7_used hst ew50) ⟨rfl, rfl, (Nat.le_of_ble_eq_true rfl), (Nat.le_of_ble_eq_true rfl), (Nat.le_of_ble_eq_true rfl), (Nat.le_of_ble_eq_true rfl)⟩ rfl rfl (Nat.le_of_ble_eq_true rfl) dX7_setBudget_73 ?_
      cases hf
      exact z_iret B dX7_setBudget_76 (Nat.le_of_ble_eq_true rfl) (Nat.le_of_ble_eq_true rfl)
    refine z_if_eq B 65 dX7_setBudget_60 (by decide) (fun e => absurd e c47) (fun _ => ?_)
    refine z_iconst (v := 0) B dX7_setBudget_63 (by decide) ?_
    cases hf
    exact z_iret B dX7_setBudget_64 (Nat.le_of_ble_eq_true rfl) (Nat.le_of_ble_eq_true rfl)
  refine z_if_eq B 26 dX7_setBudget_21 (by decide) (fun e => absurd e c30) (fun _ => ?_)
  refine z_iconst (v := 0) B dX7_setBudget_24 (by decide) ?_
  cases hf
  exact z_iret B dX7_setBudget_25 (Nat.le_of_ble_eq_true rfl) (Nat.le_of_ble_eq_true rfl)
abbrev rm_X7_setCost : Room := { frames := 2, cells := 0, slots := 0, locals := 46 }
set_option maxRecDepth 100000 in
set_option maxHeartbeats 4000000 in
theorem tX7_setCost {l : Launch} {G : zG} (hst : l.stackTraces = false) {h : zH} {a0 : Nat} {a1 : Int32} {a2 : Int32} {r : Int32 × zH} (hf : fX7_setCost h a0 a1 a2 = some r) : zMet l G yX7_setCost (.code yX7_setCost cX7_setCost 4 (some .int)) rm_X7_setCost 0 0 [.ref a0, .int a1, .int a2] h (zoi r) := by
  unfold fX7_setCost at hf
  obtain ⟨-, hf⟩ := zck hf
  refine z_enter (by decide) (Nat.le_of_ble_eq_true rfl) hst (fun x hx B hE => ?_)
  subst hx
  have B : zB G x cX7_setCost 4 RX7 "setCost" rm_X7_setCost (some .int) := B
  show zV G x 4 (zQ G x (zoi r) 0 0) h 0 0 0 [(0, .ref a0), (1, .int a1), (2, .int a2)] []
  refine z_aload_n B dX7_setCost_0 rfl 0 rfl ?_
  refine z_aload_n B dX7_setCost_1 rfl 0 rfl ?_
  refine z_iload_n B dX7_setCost_2 rfl 1 rfl ?_
  obtain ⟨w1, h2, ew1, hf⟩ := zb2s hf
  refine z_callVi B [.int a1] [.ref a0] cw_X7_isConversion mv_RX7_196 (tX7_isConversion hst ew1) rfl (by decide) (kfX7_isConversion ew1) ⟨rfl, rfl, (Nat.le_of_ble_eq_true rfl), (Nat.le_of_ble_eq_true rfl), (Nat.le_of_ble_eq_true rfl), (Nat.le_of_ble_eq_true rfl)⟩ rfl rfl (Nat.le_of_ble_eq_true rfl) dX7_setCost_3 ?_
  rcases zite hf with ⟨c3, hf⟩ | ⟨c3, hf⟩
  · refine z_if_ne B 13 dX7_setCost_6 (by decide) (fun e => absurd c3 e) (fun _ => ?_)
    refine z_iconst (v := 1) B dX7_setCost_9 (by decide) ?_
    refine z_goto B 30 dX7_setCost_10 (by decide) ?_
    obtain ⟨w4, h5, ew4, hf⟩ := zb2s hf
    refine z_callVi B [.int 1] [] cw_X7_refused mv_RX7_112 (tX7_refused hst ew4) rfl (by decide) (kfX7_refused ew4) ⟨rfl, rfl, (Nat.le_of_ble_eq_true rfl), (Nat.le_of_ble_eq_true rfl), (Nat.le_of_ble_eq_true rfl), (Nat.le_of_ble_eq_true rfl)⟩ rfl rfl (Nat.le_of_ble_eq_true rfl) dX7_setCost_30 ?_
    rcases zite hf with ⟨c6, hf⟩ | ⟨c6, hf⟩
    · refine z_if_eq B 38 dX7_setCost_33 (by decide) (fun _ => ?_) (fun e => absurd c6 e)
      refine z_aload_n B dX7_setCost_38 rfl 0 rfl ?_
      obtain ⟨h7, eh7, hf⟩ := zbs hf
      refine z_callVv B [] [] cw_X7_note mv_RX7_94 (tX7_note hst eh7) rfl (by decide) (kfX7_note eh7) ⟨rfl, rfl, (Nat.le_of_ble_eq_true rfl), (Nat.le_of_ble_eq_true rfl), (Nat.le_of_ble_eq_true rfl), (Nat.le_of_ble_eq_true rfl)⟩ rfl rfl (Nat.le_of_ble_eq_true rfl) dX7_setCost_39 ?_
      refine z_aload_n B dX7_setCost_42 rfl 0 rfl ?_
      obtain ⟨w8, ew8, hf⟩ := zbs hf
      refine z_gP B fl_RX7_56 ew8 rfl dX7_setCost_43 ?_
      refine z_iconst (v := 4) B dX7_setCost_46 (by decide) ?_
      refine z_iload_n B dX7_setCost_47 rfl 1 rfl ?_
      refine z_iadd B dX7_setCost_48 ?_
      obtain ⟨w9, ew9, hf⟩ := zbs hf
      refine z_aI B ew9 dX7_setCost_49 ?_
      refine z_istore_n (lv' := [(3, .int w9), (0, .ref a0), (1, .int a1), (2, .int a2)]) B dX7_setCost_50 rfl (by decide) rfl ?_
      refine z_aload_n B dX7_setCost_51 rfl 1 rfl ?_
      obtain ⟨w10, ew10, hf⟩ := zbs hf
      refine z_gP B fl_RX7_56 ew10 rfl dX7_setCost_52 ?_
      refine z_iconst (v := 4) B dX7_setCost_55 (by decide) ?_
      refine z_iload_n B dX7_setCost_56 rfl 2 rfl ?_
      refine z_iadd B dX7_setCost_57 ?_
      refine z_iload_n B dX7_setCost_58 rfl 3 rfl ?_
      obtain ⟨h11, eh11, hf⟩ := zbs hf
      refine z_bI B eh11 dX7_setCost_59 ?_
      refine z_iload_n B dX7_setCost_60 rfl 0 rfl ?_
      cases hf
      exact z_iret B dX7_setCost_61 (Nat.le_of_ble_eq_true rfl) (Nat.le_of_ble_eq_true rfl)
    refine z_if_eq B 38 dX7_setCost_33 (by decide) (fun e => absurd e c6) (fun _ => ?_)
    refine z_iconst (v := 0) B dX7_setCost_36 (by decide) ?_
    cases hf
    exact z_iret B dX7_setCost_37 (Nat.le_of_ble_eq_true rfl) (Nat.le_of_ble_eq_true rfl)
  refine z_if_ne B 13 dX7_setCost_6 (by decide) (fun _ => ?_) (fun e => absurd e c3)
  refine z_iload_n B dX7_setCost_13 rfl 2 rfl ?_
  refine z_i2l B dX7_setCost_14 ?_
  refine z_lconst (v := 1) B dX7_setCost_15 (by decide) ?_
  refine z_ldc2 B dX7_setCost_16 kl_RX7_267 ?_
  obtain ⟨w12, h13, ew12, hf⟩ := zb2s hf
  refine z_callSi B [.long (a2 : Int32).toInt64, .long 1, .long 99] [.ref a0] cw_X7_in mt_RX7_97 (tX7_in hst ew12) ⟨rfl, rfl, (Nat.le_of_ble_eq_true rfl), (Nat.le_of_ble_eq_true rfl), (Nat.le_of_ble_eq_true rfl), (Nat.le_of_ble_eq_true rfl)⟩ rfl rfl (Nat.le_of_ble_eq_true rfl) dX7_setCost_19 ?_
  rcases zite hf with ⟨c14, hf⟩ | ⟨c14, hf⟩
  · refine z_if_ne B 29 dX7_setCost_22 (by decide) (fun e => absurd c14 e) (fun _ => ?_)
    refine z_iconst (v := 2) B dX7_setCost_25 (by decide) ?_
    refine z_goto B 30 dX7_setCost_26 (by decide) ?_
    obtain ⟨w15, h16, ew15, hf⟩ := zb2s hf
    refine z_callVi B [.int 2] [] cw_X7_refused mv_RX7_112 (tX7_refused hst ew15) rfl (by decide) (kfX7_refused ew15) ⟨rfl, rfl, (Nat.le_of_ble_eq_true rfl), (Nat.le_of_ble_eq_true rfl), (Nat.le_of_ble_eq_true rfl), (Nat.le_of_ble_eq_true rfl)⟩ rfl rfl (Nat.le_of_ble_eq_true rfl) dX7_setCost_30 ?_
    rcases zite hf with ⟨c17, hf⟩ | ⟨c17, hf⟩
    · refine z_if_eq B 38 dX7_setCost_33 (by decide) (fun _ => ?_) (fun e => absurd c17 e)
      refine z_aload_n B dX7_setCost_38 rfl 0 rfl ?_
      obtain ⟨h18, eh18, hf⟩ := zbs hf
      refine z_callVv B [] [] cw_X7_note mv_RX7_94 (tX7_note hst eh18) rfl (by decide) (kfX7_note eh18) ⟨rfl, rfl, (Nat.le_of_ble_eq_true rfl), (Nat.le_of_ble_eq_true rfl), (Nat.le_of_ble_eq_true rfl), (Nat.le_of_ble_eq_true rfl)⟩ rfl rfl (Nat.le_of_ble_eq_true rfl) dX7_setCost_39 ?_
      refine z_aload_n B dX7_setCost_42 rfl 0 rfl ?_
      obtain ⟨w19, ew19, hf⟩ := zbs hf
      refine z_gP B fl_RX7_56 ew19 rfl dX7_setCost_43 ?_
      refine z_iconst (v := 4) B dX7_setCost_46 (by decide) ?_
      refine z_iload_n B dX7_setCost_47 rfl 1 rfl ?_
      refine z_iadd B dX7_setCost_48 ?_
      obtain ⟨w20, ew20, hf⟩ := zbs hf
      refine z_aI B ew20 dX7_setCost_49 ?_
      refine z_istore_n (lv' := [(3, .int w20), (0, .ref a0), (1, .int a1), (2, .int a2)]) B dX7_setCost_50 rfl (by decide) rfl ?_
      refine z_aload_n B dX7_setCost_51 rfl 1 rfl ?_
      obtain ⟨w21, ew21, hf⟩ := zbs hf
      refine z_gP B fl_RX7_56 ew21 rfl dX7_setCost_52 ?_
      refine z_iconst (v := 4) B dX7_setCost_55 (by decide) ?_
      refine z_iload_n B dX7_setCost_56 rfl 2 rfl ?_
      refine z_iadd B dX7_setCost_57 ?_
      refine z_iload_n B dX7_setCost_58 rfl 3 rfl ?_
      obtain ⟨h22, eh22, hf⟩ := zbs hf
      refine z_bI B eh22 dX7_setCost_59 ?_
      refine z_iload_n B dX7_setCost_60 rfl 0 rfl ?_
      cases hf
      exact z_iret B dX7_setCost_61 (Nat.le_of_ble_eq_true rfl) (Nat.le_of_ble_eq_true rfl)
    refine z_if_eq B 38 dX7_setCost_33 (by decide) (fun e => absurd e c17) (fun _ => ?_)
    refine z_iconst (v := 0) B dX7_setCost_36 (by decide) ?_
    cases hf
    exact z_iret B dX7_setCost_37 (Nat.le_of_ble_eq_true rfl) (Nat.le_of_ble_eq_true rfl)
  refine z_if_ne B 29 dX7_setCost_22 (by decide) (fun _ => ?_) (fun e => absurd e c14)
  refine z_iconst (v := 0) B dX7_setCost_29 (by decide) ?_
  obtain ⟨w23, h24, ew23, hf⟩ := zb2s hf
  refine z_callVi B [.int 0] [] cw_X7_refused mv_RX7_112 (tX7_refused hst ew23) rfl (by decide) (kfX7_refused ew23) ⟨rfl, rfl, (Nat.le_of_ble_eq_true rfl), (Nat.le_of_ble_eq_true rfl), (Nat.le_of_ble_eq_true rfl), (Nat.le_of_ble_eq_true rfl)⟩ rfl rfl (Nat.le_of_ble_eq_true rfl) dX7_setCost_30 ?_
  rcases zite hf with ⟨c25, hf⟩ | ⟨c25, hf⟩
  · refine z_if_eq B 38 dX7_setCost_33 (by decide) (fun _ => ?_) (fun e => absurd c25 e)
    refine z_aload_n B dX7_setCost_38 rfl 0 rfl ?_
    obtain ⟨h26, eh26, hf⟩ := zbs hf
    refine z_callVv B [] [] cw_X7_note mv_RX7_94 (tX7_note hst eh26) rfl (by decide) (kfX7_note eh26) ⟨rfl, rfl, (Nat.le_of_ble_eq_true rfl), (Nat.le_of_ble_eq_true rfl), (Nat.le_of_ble_eq_true rfl), (Nat.le_of_ble_eq_true rfl)⟩ rfl rfl (Nat.le_of_ble_eq_true rfl) dX7_setCost_39 ?_
    refine z_aload_n B dX7_setCost_42 rfl 0 rfl ?_
    obtain ⟨w27, ew27, hf⟩ := zbs hf
    refine z_gP B fl_RX7_56 ew27 rfl dX7_setCost_43 ?_
    refine z_iconst (v := 4) B dX7_setCost_46 (by decide) ?_
    refine z_iload_n B dX7_setCost_47 rfl 1 rfl ?_
    refine z_iadd B dX7_setCost_48 ?_
    obtain ⟨w28, ew28, hf⟩ := zbs hf
    refine z_aI B ew28 dX7_setCost_49 ?_
    refine z_istore_n (lv' := [(3, .int w28), (0, .ref a0), (1, .int a1), (2, .int a2)]) B dX7_setCost_50 rfl (by decide) rfl ?_
    refine z_aload_n B dX7_setCost_51 rfl 1 rfl ?_
    obtain ⟨w29, ew29, hf⟩ := zbs hf
    refine z_gP B fl_RX7_56 ew29 rfl dX7_setCost_52 ?_
    refine z_iconst (v := 4) B dX7_setCost_55 (by decide) ?_
    refine z_iload_n B dX7_setCost_56 rfl 2 rfl ?_
    refine z_iadd B dX7_setCost_57 ?_
    refine z_iload_n B dX7_setCost_58 rfl 3 rfl ?_
    obtain ⟨h30, eh30, hf⟩ := zbs hf
    refine z_bI B eh30 dX7_setCost_59 ?_
    refine z_iload_n B dX7_setCost_60 rfl 0 rfl ?_
    cases hf
    exact z_iret B dX7_setCost_61 (Nat.le_of_ble_eq_true rfl) (Nat.le_of_ble_eq_true rfl)
  refine z_if_eq B 38 dX7_setCost_33 (by decide) (fun e => absurd e c25) (fun _ => ?_)
  refine z_iconst (v := 0) B dX7_setCost_36 (by decide) ?_
  cases hf
  exact z_iret B dX7_setCost_37 (Nat.le_of_ble_eq_true rfl) (Nat.le_of_ble_eq_true rfl)
abbrev rm_X7_undo : Room := { frames := 1, cells := 0, slots := 0, locals := 25 }
set_option maxRecDepth 100000 in
set_option maxHeartbeats 4000000 in
theorem tX7_undo {l : Launch} {G : zG} (hst : l.stackTraces = false) {h : zH} {a0 : Nat} {r : Int32 × zH} (hf : fX7_undo h a0 = some r) : zMet l G yX7_undo (.code yX7_undo cX7_undo 1 (some .int)) rm_X7_undo 0 0 [.ref a0] h (zoi r) := by
  unfold fX7_undo at hf
  obtain ⟨-, hf⟩ := zck hf
  refine z_enter (by decide) (Nat.le_of_ble_eq_true rfl) hst (fun x hx B hE => ?_)
  subst hx
  have B : zB G x cX7_undo 1 RX7 "undo" rm_X7_undo (some .int) := B
  show zV G x 1 (zQ G x (zoi r) 0 0) h 0 0 0 [(0, .ref a0)] []
  refine z_aload_n B dX7_undo_0 rfl 0 rfl ?_
  refine z_aload_n B dX7_undo_1 rfl 0 rfl ?_
  obtain ⟨w1, ew1, hf⟩ := zbs hf
  refine z_gI B fl_RX7_87 ew1 rfl dX7_undo_2 ?_
  rcases zite hf with ⟨c2, hf⟩ | ⟨c2, hf⟩
  · refine z_if_ne B 12 dX7_undo_5 (by decide) (fun e => absurd c2 e) (fun _ => ?_)
    refine z_iconst (v := 1) B dX7_undo_8 (by decide) ?_
    refine z_goto B 13 dX7_undo_9 (by decide) ?_
    obtain ⟨w3, h4, ew3, hf⟩ := zb2s hf
    refine z_callVi B [.int 1] [] cw_X7_refused mv_RX7_112 (tX7_refused hst ew3) rfl (by decide) (kfX7_refused ew3) ⟨rfl, rfl, (Nat.le_of_ble_eq_true rfl), (Nat.le_of_ble_eq_true rfl), (Nat.le_of_ble_eq_true rfl), (Nat.le_of_ble_eq_true rfl)⟩ rfl rfl (Nat.le_of_ble_eq_true rfl) dX7_undo_13 ?_
    rcases zite hf with ⟨c5, hf⟩ | ⟨c5, hf⟩
    · refine z_if_eq B 21 dX7_undo_16 (by decide) (fun _ => ?_) (fun e => absurd c5 e)
      refine z_aload_n B dX7_undo_21 rfl 0 rfl ?_
      refine z_dup B dX7_undo_22 rfl ?_
      obtain ⟨w6, ew6, hf⟩ := zbs hf
      refine z_gI B fl_RX7_87 ew6 rfl dX7_undo_23 ?_
      refine z_iconst (v := 1) B dX7_undo_26 (by decide) ?_
      refine z_isub B dX7_undo_27 ?_
      obtain ⟨h7, eh7, hf⟩ := zbs hf
      refine z_pI B fl_RX7_87 eh7 rfl dX7_undo_28 ?_
      refine z_aload_n B dX7_undo_31 rfl 0 rfl ?_
      obtain ⟨w8, ew8, hf⟩ := zbs hf
      refine z_gP B fl_RX7_65 ew8 rfl dX7_undo_32 ?_
      refine z_sipush (v := 360) B dX7_undo_35 (by decide) ?_
      refine z_aload_n B dX7_undo_38 rfl 0 rfl ?_
      obtain ⟨w9, ew9, hf⟩ := zbs hf
      refine z_gI B fl_RX7_87 ew9 rfl dX7_undo_39 ?_
      refine z_imul B dX7_undo_42 ?_
      refine z_aload_n B dX7_undo_43 rfl 0 rfl ?_
      obtain ⟨w10, ew10, hf⟩ := zbs hf
      refine z_gP B fl_RX7_56 ew10 rfl dX7_undo_44 ?_
      refine z_iconst (v := 0) B dX7_undo_47 (by decide) ?_
      refine z_sipush (v := 360) B dX7_undo_48 (by decide) ?_
      obtain ⟨h11, eh11, hf⟩ := zbs hf
      refine z_callSv B [.ref w8, .int ((360 : Int32) * w9), .ref w10, .int 0, .int 360] [] cw_X7_copyRow mt_RX7_90 (tX7_copyRow hst eh11) ⟨rfl, rfl, (Nat.le_of_ble_eq_true rfl), (Nat.le_of_ble_eq_true rfl), (Nat.le_of_ble_eq_true rfl), (Nat.le_of_ble_eq_true rfl)⟩ rfl rfl (Nat.le_of_ble_eq_true rfl) dX7_undo_51 ?_
      refine z_aload_n B dX7_undo_54 rfl 0 rfl ?_
      obtain ⟨w12, ew12, hf⟩ := zbs hf
      refine z_gI B fl_RX7_87 ew12 rfl dX7_undo_55 ?_
      cases hf
      exact z_iret B dX7_undo_58 (Nat.le_of_ble_eq_true rfl) (Nat.le_of_ble_eq_true rfl)
    refine z_if_eq B 21 dX7_undo_16 (by decide) (fun e => absurd e c5) (fun _ => ?_)
    refine z_iconst (v := 0) B dX7_undo_19 (by decide) ?_
    cases hf
    exact z_iret B dX7_undo_20 (Nat.le_of_ble_eq_true rfl) (Nat.le_of_ble_eq_true rfl)
  refine z_if_ne B 12 dX7_undo_5 (by decide) (fun _ => ?_) (fun e => absurd e c2)
  refine z_iconst (v := 0) B dX7_undo_12 (by decide) ?_
  obtain ⟨w13, h14, ew13, hf⟩ := zb2s hf
  refine z_callVi B [.int 0] [] cw_X7_refused mv_RX7_112 (tX7_refused hst ew13) rfl (by decide) (kfX7_refused ew13) ⟨rfl, rfl, (Nat.le_of_ble_eq_true rfl), (Nat.le_of_ble_eq_true rfl), (Nat.le_of_ble_eq_true rfl), (Nat.le_of_ble_eq_true rfl)⟩ rfl rfl (Nat.le_of_ble_eq_true rfl) dX7_undo_13 ?_
  rcases zite hf with ⟨c15, hf⟩ | ⟨c15, hf⟩
  · refine z_if_eq B 21 dX7_undo_16 (by decide) (fun _ => ?_) (fun e => absurd c15 e)
    refine z_aload_n B dX7_undo_21 rfl 0 rfl ?_
    refine z_dup B dX7_undo_22 rfl ?_
    obtain ⟨w16, ew16, hf⟩ := zbs hf
    refine z_gI B fl_RX7_87 ew16 rfl dX7_undo_23 ?_
    refine z_iconst (v := 1) B dX7_undo_26 (by decide) ?_
    refine z_isub B dX7_undo_27 ?_
    obtain ⟨h17, eh17, hf⟩ := zbs hf
    refine z_pI B fl_RX7_87 eh17 rfl dX7_undo_28 ?_
    refine z_aload_n B dX7_undo_31 rfl 0 rfl ?_
    obtain ⟨w18, ew18, hf⟩ := zbs hf
    refine z_gP B fl_RX7_65 ew18 rfl dX7_undo_32 ?_
    refine z_sipush (v := 360) B dX7_undo_35 (by decide) ?_
    refine z_aload_n B dX7_undo_38 rfl 0 rfl ?_
    obtain ⟨w19, ew19, hf⟩ := zbs hf
    refine z_gI B fl_RX7_87 ew19 rfl dX7_undo_39 ?_
    refine z_imul B dX7_undo_42 ?_
    refine z_aload_n B dX7_undo_43 rfl 0 rfl ?_
    obtain ⟨w20, ew20, hf⟩ := zbs hf
    refine z_gP B fl_RX7_56 ew20 rfl dX7_undo_44 ?_
    refine z_iconst (v := 0) B dX7_undo_47 (by decide) ?_
    refine z_sipush (v := 360) B dX7_undo_48 (by decide) ?_
    obtain ⟨h21, eh21, hf⟩ := zbs hf
    refine z_callSv B [.ref w18, .int ((360 : Int32) * w19), .ref w20, .int 0, .int 360] [] cw_X7_copyRow mt_RX7_90 (tX7_copyRow hst eh21) ⟨rfl, rfl, (Nat.le_of_ble_eq_true rfl), (Nat.le_of_ble_eq_true rfl), (Nat.le_of_ble_eq_true rfl), (Nat.le_of_ble_eq_true rfl)⟩ rfl rfl (Nat.le_of_ble_eq_true rfl) dX7_undo_51 ?_
    refine z_aload_n B dX7_undo_54 rfl 0 rfl ?_
    obtain ⟨w22, ew22, hf⟩ := zbs hf
    refine z_gI B fl_RX7_87 ew22 rfl dX7_undo_55 ?_
    cases hf
    exact z_iret B dX7_undo_58 (Nat.le_of_ble_eq_true rfl) (Nat.le_of_ble_eq_true rfl)
  refine z_if_eq B 21 dX7_undo_16 (by decide) (fun e => absurd e c15) (fun _ => ?_)
  refine z_iconst (v := 0) B dX7_undo_19 (by decide) ?_
  cases hf
  exact z_iret B dX7_undo_20 (Nat.le_of_ble_eq_true rfl) (Nat.le_of_ble_eq_true rfl)
abbrev rm_X7_path : Room := { frames := 3, cells := 0, slots := 0, locals := 70 }
set_option maxRecDepth 100000 in
set_option maxHeartbeats 4000000 in
theorem tX7_path {l : Launch} {G : zG} (hst : l.stackTraces = false) {h : zH} {a0 : Nat} {a1 : Int32} {a2 : Int32} {a3 : Int32} {r : Int32 × zH} (hf : fX7_path h a0 a1 a2 a3 = some r) : zMet l G yX7_path (.code yX7_path cX7_path 4 (some .int)) rm_X7_path 0 0 [.ref a0, .int a1, .int a2, .int a3] h (zoi r) := by
  unfold fX7_path at hf
  obtain ⟨-, hf⟩ := zck hf
  refine z_enter (by decide) (Nat.le_of_ble_eq_true rfl) hst (fun x hx B hE => ?_)
  subst hx
  have B : zB G x cX7_path 4 RX7 "path" rm_X7_path (some .int) := B
  show zV G x 4 (zQ G x (zoi r) 0 0) h 0 0 0 [(0, .ref a0), (1, .int a1), (2, .int a2), (3, .int a3)] []
  refine z_aload_n B dX7_path_0 rfl 0 rfl ?_
  refine z_aload_n B dX7_path_1 rfl 0 rfl ?_
  refine z_iload_n B dX7_path_2 rfl 1 rfl ?_
  obtain ⟨w1, h2, ew1, hf⟩ := zb2s hf
  refine z_callVi B [.int a1] [.ref a0] cw_X7_isFormat mv_RX7_214 (tX7_isFormat hst ew1) rfl (by decide) (kfX7_isFormat ew1) ⟨rfl, rfl, (Nat.le_of_ble_eq_true rfl), (Nat.le_of_ble_eq_true rfl), (Nat.le_of_ble_eq_true rfl), (Nat.le_of_ble_eq_true rfl)⟩ rfl rfl (Nat.le_of_ble_eq_true rfl) dX7_path_3 ?_
  rcases zite hf with ⟨c3, hf⟩ | ⟨c3, hf⟩
  · refine z_if_eq B 17 dX7_path_6 (by decide) (fun _ => ?_) (fun e => absurd c3 e)
    refine z_iconst (v := 1) B dX7_path_17 (by decide) ?_
    refine z_goto B 38 dX7_path_18 (by decide) ?_
    obtain ⟨w4, h5, ew4, hf⟩ := zb2s hf
    refine z_callVi B [.int 1] [] cw_X7_refused mv_RX7_112 (tX7_refused hst ew4) rfl (by decide) (kfX7_refused ew4) ⟨rfl, rfl, (Nat.le_of_ble_eq_true rfl), (Nat.le_of_ble_eq_true rfl), (Nat.le_of_ble_eq_true rfl), (Nat.le_of_ble_eq_true rfl)⟩ rfl rfl (Nat.le_of_ble_eq_true rfl) dX7_path_38 ?_
    rcases zite hf with ⟨c6, hf⟩ | ⟨c6, hf⟩
    · refine z_if_eq B 46 dX7_path_41 (by decide) (fun _ => ?_) (fun e => absurd c6 e)
      refine z_aload_n B dX7_path_46 rfl 0 rfl ?_
      refine z_aload_n B dX7_path_47 rfl 0 rfl ?_
      obtain ⟨w7, ew7, hf⟩ := zbs hf
      refine z_gP B fl_RX7_56 ew7 rfl dX7_path_48 ?_
      refine z_bipush (v := (-9)) B dX7_path_51 (by decide) ?_
      obtain ⟨h8, eh8, hf⟩ := zbs hf
      refine z_callVv B [.ref w7, .int (-9)] [] cw_X7_layTable mv_RX7_283 (tX7_layTable hst eh8) rfl (by decide) (kfX7_layTable eh8) ⟨rfl, rfl, (Nat.le_of_ble_eq_true rfl), (Nat.le_of_ble_eq_true rfl), (Nat.le_of_ble_eq_true rfl), (Nat.le_of_ble_eq_true rfl)⟩ rfl rfl (Nat.le_of_ble_eq_true rfl) dX7_path_53 ?_
      refine z_aload_n B dX7_path_56 rfl 0 rfl ?_
      refine z_iload_n B dX7_path_57 rfl 1 rfl ?_
      refine z_iload_n B dX7_path_58 rfl 2 rfl ?_
      obtain ⟨w9, h10, ew9, hf⟩ := zb2s hf
      refine z_callVi B [.int a1, .int a2] [] cw_X7_costOf mv_RX7_270 (tX7_costOf hst ew9) rfl (by decide) (kfX7_costOf ew9) ⟨rfl, rfl, (Nat.le_of_ble_eq_true rfl), (Nat.le_of_ble_eq_true rfl), (Nat.le_of_ble_eq_true rfl), (Nat.le_of_ble_eq_true rfl)⟩ rfl rfl (Nat.le_of_ble_eq_true rfl) dX7_path_59 ?_
      refine z_ldcw B dX7_path_62 kc_RX7_269 ?_
      rcases zite hf with ⟨c11, hf⟩ | ⟨c11, hf⟩
      · refine z_icmp_lt B 71 dX7_path_65 (by decide) (fun _ => ?_) (fun e => absurd c11 e)
        refine z_iload_n B dX7_path_71 rfl 3 rfl ?_
        rcases zite hf with ⟨c12, hf⟩ | ⟨c12, hf⟩
        · refine z_if_ne B 87 dX7_path_72 (by decide) (fun e => absurd c12 e) (fun _ => ?_)
          refine z_aload_n B dX7_path_75 rfl 0 rfl ?_
          refine z_iload_n B dX7_path_76 rfl 1 rfl ?_
          refine z_iload_n B dX7_path_77 rfl 2 rfl ?_
          obtain ⟨w13, h14, ew13, hf⟩ := zb2s hf
          refine z_callVi B [.int a1, .int a2] [] cw_X7_costOf mv_RX7_270 (tX7_costOf hst ew13) rfl (by decide) (kfX7_costOf ew13) ⟨rfl, rfl, (Nat.le_of_ble_eq_true rfl), (Nat.le_of_ble_eq_true rfl), (Nat.le_of_ble_eq_true rfl), (Nat.le_of_ble_eq_true rfl)⟩ rfl rfl (Nat.le_of_ble_eq_true rfl) dX7_path_78 ?_
          refine z_bipush (v := 16) B dX7_path_81 (by decide) ?_
          refine z_idiv B dX7_path_83 (by decide) ?_
          refine z_goto B 110 dX7_path_84 (by decide) ?_
          cases hf
          exact z_iret B dX7_path_110 (Nat.le_of_ble_eq_true rfl) (Nat.le_of_ble_eq_true rfl)
        refine z_if_ne B 87 dX7_path_72 (by decide) (fun _ => ?_) (fun e => absurd e c12)
        refine z_iload_n B dX7_path_87 rfl 3 rfl ?_
        refine z_iconst (v := 1) B dX7_path_88 (by decide) ?_
        rcases zite hf with ⟨c15, hf⟩ | ⟨c15, hf⟩
        · refine z_icmp_ne B 104 dX7_path_89 (by decide) (fun e => absurd c15 e) (fun _ => ?_)
          refine z_aload_n B dX7_path_92 rfl 0 rfl ?_
          refine z_iload_n B dX7_path_93 rfl 1 rfl ?_
          refine z_iload_n B dX7_path_94 rfl 2 rfl ?_
          obtain ⟨w16, h17, ew16, hf⟩ := zb2s hf
          refine z_callVi B [.int a1, .int a2] [] cw_X7_costOf mv_RX7_270 (tX7_costOf hst ew16) rfl (by decide) (kfX7_costOf ew16) ⟨rfl, rfl, (Nat.le_of_ble_eq_true rfl), (Nat.le_of_ble_eq_true rfl), (Nat.le_of_ble_eq_true rfl), (Nat.le_of_ble_eq_true rfl)⟩ rfl rfl (Nat.le_of_ble_eq_true rfl) dX7_path_95 ?_
          refine z_bipush (v := 16) B dX7_path_98 (by decide) ?_
          refine z_irem B dX7_path_100 (by decide) ?_
          refine z_goto B 110 dX7_path_101 (by decide) ?_
          cases hf
          exact z_iret B dX7_path_110 (Nat.le_of_ble_eq_true rfl) (Nat.le_of_ble_eq_true rfl)
        refine z_icmp_ne B 104 dX7_path_89 (by decide) (fun _ => ?_) (fun e => absurd e c15)
        refine z_aload_n B dX7_path_104 rfl 0 rfl ?_
        refine z_iload_n B dX7_path_105 rfl 1 rfl ?_
        refine z_iload_n B dX7_path_106 rfl 2 rfl ?_
        obtain ⟨w18, h19, ew18, hf⟩ := zb2s hf
        refine z_callVi B [.int a1, .int a2] [] cw_X7_lossOn mv_RX7_286 (tX7_lossOn hst ew18) rfl (by decide) (kfX7_lossOn ew18) ⟨rfl, rfl, (Nat.le_of_ble_eq_true rfl), (Nat.le_of_ble_eq_true rfl), (Nat.le_of_ble_eq_true rfl), (Nat.le_of_ble_eq_true rfl)⟩ rfl rfl (Nat.le_of_ble_eq_true rfl) dX7_path_107 ?_
        cases hf
        exact z_iret B dX7_path_110 (Nat.le_of_ble_eq_true rfl) (Nat.le_of_ble_eq_true rfl)
      refine z_icmp_lt B 71 dX7_path_65 (by decide) (fun e => absurd e c11) (fun _ => ?_)
      refine z_bipush (v := (-9)) B dX7_path_68 (by decide) ?_
      cases hf
      exact z_iret B dX7_path_70 (Nat.le_of_ble_eq_true rfl) (Nat.le_of_ble_eq_true rfl)
    refine z_if_eq B 46 dX7_path_41 (by decide) (fun e => absurd e c6) (fun _ => ?_)
    refine z_iconst (v := 0) B dX7_path_44 (by decide) ?_
    cases hf
    exact z_iret B dX7_path_45 (Nat.le_of_ble_eq_true rfl) (Nat.le_of_ble_eq_true rfl)
  refine z_if_eq B 17 dX7_path_6 (by decide) (fun e => absurd e c3) (fun _ => ?_)
  refine z_aload_n B dX7_path_9 rfl 0 rfl ?_
  refine z_iload_n B dX7_path_10 rfl 2 rfl ?_
  obtain ⟨w20, h21, ew20, hf⟩ := zb2s hf
  refine z_callVi B [.int a2] [.ref a0] cw_X7_isFormat mv_RX7_214 (tX7_isFormat hst ew20) rfl (by decide) (kfX7_isFormat ew20) ⟨rfl, rfl, (Nat.le_of_ble_eq_true rfl), (Nat.le_of_ble_eq_true rfl), (Nat.le_of_ble_eq_true rfl), (Nat.le_of_ble_eq_true rfl)⟩ rfl rfl (Nat.le_of_ble_eq_true rfl) dX7_path_11 ?_
  rcases zite hf with ⟨c22, hf⟩ | ⟨c22, hf⟩
  · refine z_if_ne B 21 dX7_path_14 (by decide) (fun e => absurd c22 e) (fun _ => ?_)
    refine z_iconst (v := 1) B dX7_path_17 (by decide) ?_
    refine z_goto B 38 dX7_path_18 (by decide) ?_
    obtain ⟨w23, h24, ew23, hf⟩ := zb2s hf
    refine z_callVi B [.int 1] [] cw_X7_refused mv_RX7_112 (tX7_refused hst ew23) rfl (by decide) (kfX7_refused ew23) ⟨rfl, rfl, (Nat.le_of_ble_eq_true rfl), (Nat.le_of_ble_eq_true rfl), (Nat.le_of_ble_eq_true rfl), (Nat.le_of_ble_eq_true rfl)⟩ rfl rfl (Nat.le_of_ble_eq_true rfl) dX7_path_38 ?_
    rcases zite hf with ⟨c25, hf⟩ | ⟨c25, hf⟩
    · refine z_if_eq B 46 dX7_path_41 (by decide) (fun _ => ?_) (fun e => absurd c25 e)
      refine z_aload_n B dX7_path_46 rfl 0 rfl ?_
      refine z_aload_n B dX7_path_47 rfl 0 rfl ?_
      obtain ⟨w26, ew26, hf⟩ := zbs hf
      refine z_gP B fl_RX7_56 ew26 rfl dX7_path_48 ?_
      refine z_bipush (v := (-9)) B dX7_path_51 (by decide) ?_
      obtain ⟨h27, eh27, hf⟩ := zbs hf
      refine z_callVv B [.ref w26, .int (-9)] [] cw_X7_layTable mv_RX7_283 (tX7_layTable hst eh27) rfl (by decide) (kfX7_layTable eh27) ⟨rfl, rfl, (Nat.le_of_ble_eq_true rfl), (Nat.le_of_ble_eq_true rfl), (Nat.le_of_ble_eq_true rfl), (Nat.le_of_ble_eq_true rfl)⟩ rfl rfl (Nat.le_of_ble_eq_true rfl) dX7_path_53 ?_
      refine z_aload_n B dX7_path_56 rfl 0 rfl ?_
      refine z_iload_n B dX7_path_57 rfl 1 rfl ?_
      refine z_iload_n B dX7_path_58 rfl 2 rfl ?_
      obtain ⟨w28, h29, ew28, hf⟩ := zb2s hf
      refine z_callVi B [.int a1, .int a2] [] cw_X7_costOf mv_RX7_270 (tX7_costOf hst ew28) rfl (by decide) (kfX7_costOf ew28) ⟨rfl, rfl, (Nat.le_of_ble_eq_true rfl), (Nat.le_of_ble_eq_true rfl), (Nat.le_of_ble_eq_true rfl), (Nat.le_of_ble_eq_true rfl)⟩ rfl rfl (Nat.le_of_ble_eq_true rfl) dX7_path_59 ?_
      refine z_ldcw B dX7_path_62 kc_RX7_269 ?_
      rcases zite hf with ⟨c30, hf⟩ | ⟨c30, hf⟩
      · refine z_icmp_lt B 71 dX7_path_65 (by decide) (fun _ => ?_) (fun e => absurd c30 e)
        refine z_iload_n B dX7_path_71 rfl 3 rfl ?_
        rcases zite hf with ⟨c31, hf⟩ | ⟨c31, hf⟩
        · refine z_if_ne B 87 dX7_path_72 (by decide) (fun e => absurd c31 e) (fun _ => ?_)
          refine z_aload_n B dX7_path_75 rfl 0 rfl ?_
          refine z_iload_n B dX7_path_76 rfl 1 rfl ?_
          refine z_iload_n B dX7_path_77 rfl 2 rfl ?_
          obtain ⟨w32, h33, ew32, hf⟩ := zb2s hf
          refine z_callVi B [.int a1, .int a2] [] cw_X7_costOf mv_RX7_270 (tX7_costOf hst ew32) rfl (by decide) (kfX7_costOf ew32) ⟨rfl, rfl, (Nat.le_of_ble_eq_true rfl), (Nat.le_of_ble_eq_true rfl), (Nat.le_of_ble_eq_true rfl), (Nat.le_of_ble_eq_true rfl)⟩ rfl rfl (Nat.le_of_ble_eq_true rfl) dX7_path_78 ?_
          refine z_bipush (v := 16) B dX7_path_81 (by decide) ?_
          refine z_idiv B dX7_path_83 (by decide) ?_
          refine z_goto B 110 dX7_path_84 (by decide) ?_
          cases hf
          exact z_iret B dX7_path_110 (Nat.le_of_ble_eq_true rfl) (Nat.le_of_ble_eq_true rfl)
        refine z_if_ne B 87 dX7_path_72 (by decide) (fun _ => ?_) (fun e => absurd e c31)
        refine z_iload_n B dX7_path_87 rfl 3 rfl ?_
        refine z_iconst (v := 1) B dX7_path_88 (by decide) ?_
        rcases zite hf with ⟨c34, hf⟩ | ⟨c34, hf⟩
        · refine z_icmp_ne B 104 dX7_path_89 (by decide) (fun e => absurd c34 e) (fun _ => ?_)
          refine z_aload_n B dX7_path_92 rfl 0 rfl ?_
          refine z_iload_n B dX7_path_93 rfl 1 rfl ?_
          refine z_iload_n B dX7_path_94 rfl 2 rfl ?_
          obtain ⟨w35, h36, ew35, hf⟩ := zb2s hf
          refine z_callVi B [.int a1, .int a2] [] cw_X7_costOf mv_RX7_270 (tX7_costOf hst ew35) rfl (by decide) (kfX7_costOf ew35) ⟨rfl, rfl, (Nat.le_of_ble_eq_true rfl), (Nat.le_of_ble_eq_true rfl), (Nat.le_of_ble_eq_true rfl), (Nat.le_of_ble_eq_true rfl)⟩ rfl rfl (Nat.le_of_ble_eq_true rfl) dX7_path_95 ?_
          refine z_bipush (v := 16) B dX7_path_98 (by decide) ?_
          refine z_irem B dX7_path_100 (by decide) ?_
          refine z_goto B 110 dX7_path_101 (by decide) ?_
          cases hf
          exact z_iret B dX7_path_110 (Nat.le_of_ble_eq_true rfl) (Nat.le_of_ble_eq_true rfl)
        refine z_icmp_ne B 104 dX7_path_89 (by decide) (fun _ => ?_) (fun e => absurd e c34)
        refine z_aload_n B dX7_path_104 rfl 0 rfl ?_
        refine z_iload_n B dX7_path_105 rfl 1 rfl ?_
        refine z_iload_n B dX7_path_106 rfl 2 rfl ?_
        obtain ⟨w37, h38, ew37, hf⟩ := zb2s hf
        refine z_callVi B [.int a1, .int a2] [] cw_X7_lossOn mv_RX7_286 (tX7_lossOn hst ew37) rfl (by decide) (kfX7_lossOn ew37) ⟨rfl, rfl, (Nat.le_of_ble_eq_true rfl), (Nat.le_of_ble_eq_true rfl), (Nat.le_of_ble_eq_true rfl), (Nat.le_of_ble_eq_true rfl)⟩ rfl rfl (Nat.le_of_ble_eq_true rfl) dX7_path_107 ?_
        cases hf
        exact z_iret B dX7_path_110 (Nat.le_of_ble_eq_true rfl) (Nat.le_of_ble_eq_true rfl)
      refine z_icmp_lt B 71 dX7_path_65 (by decide) (fun e => absurd e c30) (fun _ => ?_)
      refine z_bipush (v := (-9)) B dX7_path_68 (by decide) ?_
      cases hf
      exact z_iret B dX7_path_70 (Nat.le_of_ble_eq_true rfl) (Nat.le_of_ble_eq_true rfl)
    refine z_if_eq B 46 dX7_path_41 (by decide) (fun e => absurd e c25) (fun _ => ?_)
    refine z_iconst (v := 0) B dX7_path_44 (by decide) ?_
    cases hf
    exact z_iret B dX7_path_45 (Nat.le_of_ble_eq_true rfl) (Nat.le_of_ble_eq_true rfl)
  refine z_if_ne B 21 dX7_path_14 (by decide) (fun _ => ?_) (fun e => absurd e c22)
  refine z_iload_n B dX7_path_21 rfl 3 rfl ?_
  refine z_i2l B dX7_path_22 ?_
  refine z_lconst (v := 0) B dX7_path_23 (by decide) ?_
  refine z_ldc2 B dX7_path_24 kl_RX7_281 ?_
  obtain ⟨w39, h40, ew39, hf⟩ := zb2s hf
  refine z_callSi B [.long (a3 : Int32).toInt64, .long 0, .long 2] [.ref a0] cw_X7_in mt_RX7_97 (tX7_in hst ew39) ⟨rfl, rfl, (Nat.le_of_ble_eq_true rfl), (Nat.le_of_ble_eq_true rfl), (Nat.le_of_ble_eq_true rfl), (Nat.le_of_ble_eq_true rfl)⟩ rfl rfl (Nat.le_of_ble_eq_true rfl) dX7_path_27 ?_
  rcases zite hf with ⟨c41, hf⟩ | ⟨c41, hf⟩
  · refine z_if_ne B 37 dX7_path_30 (by decide) (fun e => absurd c41 e) (fun _ => ?_)
    refine z_iconst (v := 2) B dX7_path_33 (by decide) ?_
    refine z_goto B 38 dX7_path_34 (by decide) ?_
    obtain ⟨w42, h43, ew42, hf⟩ := zb2s hf
    refine z_callVi B [.int 2] [] cw_X7_refused mv_RX7_112 (tX7_refused hst ew42) rfl (by decide) (kfX7_refused ew42) ⟨rfl, rfl, (Nat.le_of_ble_eq_true rfl), (Nat.le_of_ble_eq_true rfl), (Nat.le_of_ble_eq_true rfl), (Nat.le_of_ble_eq_true rfl)⟩ rfl rfl (Nat.le_of_ble_eq_true rfl) dX7_path_38 ?_
    rcases zite hf with ⟨c44, hf⟩ | ⟨c44, hf⟩
    · refine z_if_eq B 46 dX7_path_41 (by decide) (fun _ => ?_) (fun e => absurd c44 e)
      refine z_aload_n B dX7_path_46 rfl 0 rfl ?_
      refine z_aload_n B dX7_path_47 rfl 0 rfl ?_
      obtain ⟨w45, ew45, hf⟩ := zbs hf
      refine z_gP B fl_RX7_56 ew45 rfl dX7_path_48 ?_
      refine z_bipush (v := (-9)) B dX7_path_51 (by decide) ?_
      obtain ⟨h46, eh46, hf⟩ := zbs hf
      refine z_callVv B [.ref w45, .int (-9)] [] cw_X7_layTable mv_RX7_283 (tX7_layTable hst eh46) rfl (by decide) (kfX7_layTable eh46) ⟨rfl, rfl, (Nat.le_of_ble_eq_true rfl), (Nat.le_of_ble_eq_true rfl), (Nat.le_of_ble_eq_true rfl), (Nat.le_of_ble_eq_true rfl)⟩ rfl rfl (Nat.le_of_ble_eq_true rfl) dX7_path_53 ?_
      refine z_aload_n B dX7_path_56 rfl 0 rfl ?_
      refine z_iload_n B dX7_path_57 rfl 1 rfl ?_
      refine z_iload_n B dX7_path_58 rfl 2 rfl ?_
      obtain ⟨w47, h48, ew47, hf⟩ := zb2s hf
      refine z_callVi B [.int a1, .int a2] [] cw_X7_costOf mv_RX7_270 (tX7_costOf hst ew47) rfl (by decide) (kfX7_costOf ew47) ⟨rfl, rfl, (Nat.le_of_ble_eq_true rfl), (Nat.le_of_ble_eq_true rfl), (Nat.le_of_ble_eq_true rfl), (Nat.le_of_ble_eq_true rfl)⟩ rfl rfl (Nat.le_of_ble_eq_true rfl) dX7_path_59 ?_
      refine z_ldcw B dX7_path_62 kc_RX7_269 ?_
      rcases zite hf with ⟨c49, hf⟩ | ⟨c49, hf⟩
      · refine z_icmp_lt B 71 dX7_path_65 (by decide) (fun _ => ?_) (fun e => absurd c49 e)
        refine z_iload_n B dX7_path_71 rfl 3 rfl ?_
        rcases zite hf with ⟨c50, hf⟩ | ⟨c50, hf⟩
        · refine z_if_ne B 87 dX7_path_72 (by decide) (fun e => absurd c50 e) (fun _ => ?_)
          refine z_aload_n B dX7_path_75 rfl 0 rfl ?_
          refine z_iload_n B dX7_path_76 rfl 1 rfl ?_
          refine z_iload_n B dX7_path_77 rfl 2 rfl ?_
          obtain ⟨w51, h52, ew51, hf⟩ := zb2s hf
          refine z_callVi B [.int a1, .int a2] [] cw_X7_costOf mv_RX7_270 (tX7_costOf hst ew51) rfl (by decide) (kfX7_costOf ew51) ⟨rfl, rfl, (Nat.le_of_ble_eq_true rfl), (Nat.le_of_ble_eq_true rfl), (Nat.le_of_ble_eq_true rfl), (Nat.le_of_ble_eq_true rfl)⟩ rfl rfl (Nat.le_of_ble_eq_true rfl) dX7_path_78 ?_
          refine z_bipush (v := 16) B dX7_path_81 (by decide) ?_
          refine z_idiv B dX7_path_83 (by decide) ?_
          refine z_goto B 110 dX7_path_84 (by decide) ?_
          cases hf
          exact z_iret B dX7_path_110 (Nat.le_of_ble_eq_true rfl) (Nat.le_of_ble_eq_true rfl)
        refine z_if_ne B 87 dX7_path_72 (by decide) (fun _ => ?_) (fun e => absurd e c50)
        refine z_iload_n B dX7_path_87 rfl 3 rfl ?_
        refine z_iconst (v := 1) B dX7_path_88 (by decide) ?_
        rcases zite hf with ⟨c53, hf⟩ | ⟨c53, hf⟩
        · refine z_icmp_ne B 104 dX7_path_89 (by decide) (fun e => absurd c53 e) (fun _ => ?_)
          refine z_aload_n B dX7_path_92 rfl 0 rfl ?_
          refine z_iload_n B dX7_path_93 rfl 1 rfl ?_
          refine z_iload_n B dX7_path_94 rfl 2 rfl ?_
          obtain ⟨w54, h55, ew54, hf⟩ := zb2s hf
          refine z_callVi B [.int a1, .int a2] [] cw_X7_costOf mv_RX7_270 (tX7_costOf hst ew54) rfl (by decide) (kfX7_costOf ew54) ⟨rfl, rfl, (Nat.le_of_ble_eq_true rfl), (Nat.le_of_ble_eq_true rfl), (Nat.le_of_ble_eq_true rfl), (Nat.le_of_ble_eq_true rfl)⟩ rfl rfl (Nat.le_of_ble_eq_true rfl) dX7_path_95 ?_
          refine z_bipush (v := 16) B dX7_path_98 (by decide) ?_
          refine z_irem B dX7_path_100 (by decide) ?_
          refine z_goto B 110 dX7_path_101 (by decide) ?_
          cases hf
          exact z_iret B dX7_path_110 (Nat.le_of_ble_eq_true rfl) (Nat.le_of_ble_eq_true rfl)
        refine z_icmp_ne B 104 dX7_path_89 (by decide) (fun _ => ?_) (fun e => absurd e c53)
        refine z_aload_n B dX7_path_104 rfl 0 rfl ?_
        refine z_iload_n B dX7_path_105 rfl 1 rfl ?_
        refine z_iload_n B dX7_path_106 rfl 2 rfl ?_
        obtain ⟨w56, h57, ew56, hf⟩ := zb2s hf
        refine z_callVi B [.int a1, .int a2] [] cw_X7_lossOn mv_RX7_286 (tX7_lossOn hst ew56) rfl (by decide) (kfX7_lossOn ew56) ⟨rfl, rfl, (Nat.le_of_ble_eq_true rfl), (Nat.le_of_ble_eq_true rfl), (Nat.le_of_ble_eq_true rfl), (Nat.le_of_ble_eq_true rfl)⟩ rfl rfl (Nat.le_of_ble_eq_true rfl) dX7_path_107 ?_
        cases hf
        exact z_iret B dX7_path_110 (Nat.le_of_ble_eq_true rfl) (Nat.le_of_ble_eq_true rfl)
      refine z_icmp_lt B 71 dX7_path_65 (by decide) (fun e => absurd e c49) (fun _ => ?_)
      refine z_bipush (v := (-9)) B dX7_path_68 (by decide) ?_
      cases hf
      exact z_iret B dX7_path_70 (Nat.le_of_ble_eq_true rfl) (Nat.le_of_ble_eq_true rfl)
    refine z_if_eq B 46 dX7_path_41 (by decide) (fun e => absurd e c44) (fun _ => ?_)
    refine z_iconst (v := 0) B dX7_path_44 (by decide) ?_
    cases hf
    exact z_iret B dX7_path_45 (Nat.le_of_ble_eq_true rfl) (Nat.le_of_ble_eq_true rfl)
  refine z_if_ne B 37 dX7_path_30 (by decide) (fun _ => ?_) (fun e => absurd e c41)
  refine z_iconst (v := 0) B dX7_path_37 (by decide) ?_
  obtain ⟨w58, h59, ew58, hf⟩ := zb2s hf
  refine z_callVi B [.int 0] [] cw_X7_refused mv_RX7_112 (tX7_refused hst ew58) rfl (by decide) (kfX7_refused ew58) ⟨rfl, rfl, (Nat.le_of_ble_eq_true rfl), (Nat.le_of_ble_eq_true rfl), (Nat.le_of_ble_eq_true rfl), (Nat.le_of_ble_eq_true rfl)⟩ rfl rfl (Nat.le_of_ble_eq_true rfl) dX7_path_38 ?_
  rcases zite hf with ⟨c60, hf⟩ | ⟨c60, hf⟩
  · refine z_if_eq B 46 dX7_path_41 (by decide) (fun _ => ?_) (fun e => absurd c60 e)
    refine z_aload_n B dX7_path_46 rfl 0 rfl ?_
    refine z_aload_n B dX7_path_47 rfl 0 rfl ?_
    obtain ⟨w61, ew61, hf⟩ := zbs hf
    refine z_gP B fl_RX7_56 ew61 rfl dX7_path_48 ?_
    refine z_bipush (v := (-9)) B dX7_path_51 (by decide) ?_
    obtain ⟨h62, eh62, hf⟩ := zbs hf
    refine z_callVv B [.ref w61, .int (-9)] [] cw_X7_layTable mv_RX7_283 (tX7_layTable hst eh62) rfl (by decide) (kfX7_layTable eh62) ⟨rfl, rfl, (Nat.le_of_ble_eq_true rfl), (Nat.le_of_ble_eq_true rfl), (Nat.le_of_ble_eq_true rfl), (Nat.le_of_ble_eq_true rfl)⟩ rfl rfl (Nat.le_of_ble_eq_true rfl) dX7_path_53 ?_
    refine z_aload_n B dX7_path_56 rfl 0 rfl ?_
    refine z_iload_n B dX7_path_57 rfl 1 rfl ?_
    refine z_iload_n B dX7_path_58 rfl 2 rfl ?_
    obtain ⟨w63, h64, ew63, hf⟩ := zb2s hf
    refine z_callVi B [.int a1, .int a2] [] cw_X7_costOf mv_RX7_270 (tX7_costOf hst ew63) rfl (by decide) (kfX7_costOf ew63) ⟨rfl, rfl, (Nat.le_of_ble_eq_true rfl), (Nat.le_of_ble_eq_true rfl), (Nat.le_of_ble_eq_true rfl), (Nat.le_of_ble_eq_true rfl)⟩ rfl rfl (Nat.le_of_ble_eq_true rfl) dX7_path_59 ?_
    refine z_ldcw B dX7_path_62 kc_RX7_269 ?_
    rcases zite hf with ⟨c65, hf⟩ | ⟨c65, hf⟩
    · refine z_icmp_lt B 71 dX7_path_65 (by decide) (fun _ => ?_) (fun e => absurd c65 e)
      refine z_iload_n B dX7_path_71 rfl 3 rfl ?_
      rcases zite hf with ⟨c66, hf⟩ | ⟨c66, hf⟩
      · refine z_if_ne B 87 dX7_path_72 (by decide) (fun e => absurd c66 e) (fun _ => ?_)
        refine z_aload_n B dX7_path_75 rfl 0 rfl ?_
        refine z_iload_n B dX7_path_76 rfl 1 rfl ?_
        refine z_iload_n B dX7_path_77 rfl 2 rfl ?_
        obtain ⟨w67, h68, ew67, hf⟩ := zb2s hf
        refine z_callVi B [.int a1, .int a2] [] cw_X7_costOf mv_RX7_270 (tX7_costOf hst ew67) rfl (by decide) (kfX7_costOf ew67) ⟨rfl, rfl, (Nat.le_of_ble_eq_true rfl), (Nat.le_of_ble_eq_true rfl), (Nat.le_of_ble_eq_true rfl), (Nat.le_of_ble_eq_true rfl)⟩ rfl rfl (Nat.le_of_ble_eq_true rfl) dX7_path_78 ?_
        refine z_bipush (v := 16) B dX7_path_81 (by decide) ?_
        refine z_idiv B dX7_path_83 (by decide) ?_
        refine z_goto B 110 dX7_path_84 (by decide) ?_
        cases hf
        exact z_iret B dX7_path_110 (Nat.le_of_ble_eq_true rfl) (Nat.le_of_ble_eq_true rfl)
      refine z_if_ne B 87 dX7_path_72 (by decide) (fun _ => ?_) (fun e => absurd e c66)
      refine z_iload_n B dX7_path_87 rfl 3 rfl ?_
      refine z_iconst (v := 1) B dX7_path_88 (by decide) ?_
      rcases zite hf with ⟨c69, hf⟩ | ⟨c69, hf⟩
      · refine z_icmp_ne B 104 dX7_path_89 (by decide) (fun e => absurd c69 e) (fun _ => ?_)
        refine z_aload_n B dX7_path_92 rfl 0 rfl ?_
        refine z_iload_n B dX7_path_93 rfl 1 rfl ?_
        refine z_iload_n B dX7_path_94 rfl 2 rfl ?_
        obtain ⟨w70, h71, ew70, hf⟩ := zb2s hf
        refine z_callVi B [.int a1, .int a2] [] cw_X7_costOf mv_RX7_270 (tX7_costOf hst ew70) rfl (by decide) (kfX7_costOf ew70) ⟨rfl, rfl, (Nat.le_of_ble_eq_true rfl), (Nat.le_of_ble_eq_true rfl), (Nat.le_of_ble_eq_true rfl), (Nat.le_of_ble_eq_true rfl)⟩ rfl rfl (Nat.le_of_ble_eq_true rfl) dX7_path_95 ?_
        refine z_bipush (v := 16) B dX7_path_98 (by decide) ?_
        refine z_irem B dX7_path_100 (by decide) ?_
        refine z_goto B 110 dX7_path_101 (by decide) ?_
        cases hf
        exact z_iret B dX7_path_110 (Nat.le_of_ble_eq_true rfl) (Nat.le_of_ble_eq_true rfl)
      refine z_icmp_ne B 104 dX7_path_89 (by decide) (fun _ => ?_) (fun e => absurd e c69)
      refine z_aload_n B dX7_path_104 rfl 0 rfl ?_
      refine z_iload_n B dX7_path_105 rfl 1 rfl ?_
      refine z_iload_n B dX7_path_106 rfl 2 rfl ?_
      obtain ⟨w72, h73, ew72, hf⟩ := zb2s hf
      refine z_callVi B [.int a1, .int a2] [] cw_X7_lossOn mv_RX7_286 (tX7_lossOn hst ew72) rfl (by decide) (kfX7_lossOn ew72) ⟨rfl, rfl, (Nat.le_of_ble_eq_true rfl), (Nat.le_of_ble_eq_true rfl), (Nat.le_of_ble_eq_true rfl), (Nat.le_of_ble_eq_true rfl)⟩ rfl rfl (Nat.le_of_ble_eq_true rfl) dX7_path_107 ?_
      cases hf
      exact z_iret B dX7_path_110 (Nat.le_of_ble_eq_true rfl) (Nat.le_of_ble_eq_true rfl)
    refine z_icmp_lt B 71 dX7_path_65 (by decide) (fun e => absurd e c65) (fun _ => ?_)
    refine z_bipush (v := (-9)) B dX7_path_68 (by decide) ?_
    cases hf
    exact z_iret B dX7_path_70 (Nat.le_of_ble_eq_true rfl) (Nat.le_of_ble_eq_true rfl)
  refine z_if_eq B 46 dX7_path_41 (by decide) (fun e => absurd e c60) (fun _ => ?_)
  refine z_iconst (v := 0) B dX7_path_44 (by decide) ?_
  cases hf
  exact z_iret B dX7_path_45 (Nat.le_of_ble_eq_true rfl) (Nat.le_of_ble_eq_true rfl)
abbrev rm_X7_step : Room := { frames := 2, cells := 0, slots := 0, locals := 46 }
set_option maxRecDepth 100000 in
set_option maxHeartbeats 4000000 in
theorem fX7_step_L90_ok {G : zG} {x : zX} (B : zB G x cX7_step 6 RX7 "step" rm_X7_step (some .int)) (hst : (zl x).stackTraces = false) (hE : ∀ e ∈ (zc x).exceptionTable.toList, False) {r : Int32 × zH} {k : zH → Int32 → Int32 → Option (Int32 × zH)} {u0 : Nat} {u1 : Int32} {u2 : Int32} {u3 : Int32} (hk : ∀ h v4 v5, k h v4 v5 = some r → zV G x 6 (zQ G x (zoi r) 0 0) h 0 0 111 [(0, .ref u0), (1, .int u1), (2, .int u2), (3, .int u3), (4, .int v4), (5, .int v5)] []) : ∀ n h v4 v5, fX7_step_L90 k u0 u1 u2 u3 n h v4 v5 = some r → zV G x 6 (zQ G x (zoi r) 0 0) h 0 0 90 [(0, .ref u0), (1, .int u1), (2, .int u2), (3, .int u3), (4, .int v4), (5, .int v5)] [] := by
  intro n
  induction n with
  | zero =>
    intro h v4 v5 hf
    have hf : (none : Option (Int32 × zH)) = some r := hf
    cases hf
  | succ n ih =>
    intro h v4 v5 hf
    rw [fX7_step_L90] at hf
    refine z_iload B dX7_step_90 5 rfl ?_
    refine z_iload_n B dX7_step_92 rfl 3 rfl ?_
    rcases zite hf with ⟨c1, hf⟩ | ⟨c1, hf⟩
    · refine z_icmp_ge B 111 dX7_step_93 (by decide) (fun _ => ?_) (fun e => absurd c1 e)
      exact hk _ _ _ hf
    refine z_icmp_ge B 111 dX7_step_93 (by decide) (fun e => absurd e c1) (fun _ => ?_)
    refine z_aload_n B dX7_step_96 rfl 0 rfl ?_
    refine z_iload B dX7_step_97 4 rfl ?_
    refine z_iload_n B dX7_step_99 rfl 2 rfl ?_
    obtain ⟨w2, h3, ew2, hf⟩ := zb2s hf
    refine z_callVi B [.int v4, .int u2] [] cw_X7_nextOn mv_RX7_274 (tX7_nextOn hst ew2) rfl (by decide) (kfX7_nextOn ew2) ⟨rfl, rfl, (Nat.le_of_ble_eq_true rfl), (Nat.le_of_ble_eq_true rfl), (Nat.le_of_ble_eq_true rfl), (Nat.le_of_ble_eq_true rfl)⟩ rfl rfl (Nat.le_of_ble_eq_true rfl) dX7_step_100 ?_
    refine z_istore (lv' := [(4, .int w2), (0, .ref u0), (1, .int u1), (2, .int u2), (3, .int u3), (5, .int v5)]) B dX7_step_103 (by decide) rfl ?_
    refine z_iinc (v' := (v5 + 1)) (lv' := [(5, .int (v5 + 1)), (4, .int w2), (0, .ref u0), (1, .int u1), (2, .int u2), (3, .int u3)]) B dX7_step_105 5 rfl rfl (by decide) rfl ?_
    refine z_goto B 90 dX7_step_108 (by decide) ?_
    refine zV.sub [2, 3, 4, 5, 1, 0] rfl ?_
    exact ih _ _ _ hf
set_option maxRecDepth 100000 in
set_option maxHeartbeats 4000000 in
theorem tX7_step {l : Launch} {G : zG} (hst : l.stackTraces = false) {h : zH} {a0 : Nat} {a1 : Int32} {a2 : Int32} {a3 : Int32} {r : Int32 × zH} (hf : fX7_step h a0 a1 a2 a3 = some r) : zMet l G yX7_step (.code yX7_step cX7_step 6 (some .int)) rm_X7_step 0 0 [.ref a0, .int a1, .int a2, .int a3] h (zoi r) := by
  unfold fX7_step at hf
  obtain ⟨-, hf⟩ := zck hf
  refine z_enter (by decide) (Nat.le_of_ble_eq_true rfl) hst (fun x hx B hE => ?_)
  subst hx
  have B : zB G x cX7_step 6 RX7 "step" rm_X7_step (some .int) := B
  show zV G x 6 (zQ G x (zoi r) 0 0) h 0 0 0 [(0, .ref a0), (1, .int a1), (2, .int a2), (3, .int a3)] []
  refine z_aload_n B dX7_step_0 rfl 0 rfl ?_
  refine z_aload_n B dX7_step_1 rfl 0 rfl ?_
  refine z_iload_n B dX7_step_2 rfl 1 rfl ?_
  obtain ⟨w1, h2, ew1, hf⟩ := zb2s hf
  refine z_callVi B [.int a1] [.ref a0] cw_X7_isFormat mv_RX7_214 (tX7_isFormat hst ew1) rfl (by decide) (kfX7_isFormat ew1) ⟨rfl, rfl, (Nat.le_of_ble_eq_true rfl), (Nat.le_of_ble_eq_true rfl), (Nat.le_of_ble_eq_true rfl), (Nat.le_of_ble_eq_true rfl)⟩ rfl rfl (Nat.le_of_ble_eq_true rfl) dX7_step_3 ?_
  rcases zite hf with ⟨c3, hf⟩ | ⟨c3, hf⟩
  · refine z_if_eq B 17 dX7_step_6 (by decide) (fun _ => ?_) (fun e => absurd c3 e)
    refine z_iconst (v := 1) B dX7_step_17 (by decide) ?_
    refine z_goto B 38 dX7_step_18 (by decide) ?_
    obtain ⟨w4, h5, ew4, hf⟩ := zb2s hf
    refine z_callVi B [.int 1] [] cw_X7_refused mv_RX7_112 (tX7_refused hst ew4) rfl (by decide) (kfX7_refused ew4) ⟨rfl, rfl, (Nat.le_of_ble_eq_true rfl), (Nat.le_of_ble_eq_true rfl), (Nat.le_of_ble_eq_true rfl), (Nat.le_of_ble_eq_true rfl)⟩ rfl rfl (Nat.le_of_ble_eq_true rfl) dX7_step_38 ?_
    rcases zite hf with ⟨c6, hf⟩ | ⟨c6, hf⟩
    · refine z_if_eq B 46 dX7_step_41 (by decide) (fun _ => ?_) (fun e => absurd c6 e)
      refine z_aload_n B dX7_step_46 rfl 0 rfl ?_
      refine z_aload_n B dX7_step_47 rfl 0 rfl ?_
      obtain ⟨w7, ew7, hf⟩ := zbs hf
      refine z_gP B fl_RX7_56 ew7 rfl dX7_step_48 ?_
      refine z_bipush (v := (-9)) B dX7_step_51 (by decide) ?_
      obtain ⟨h8, eh8, hf⟩ := zbs hf
      refine z_callVv B [.ref w7, .int (-9)] [] cw_X7_layTable mv_RX7_283 (tX7_layTable hst eh8) rfl (by decide) (kfX7_layTable eh8) ⟨rfl, rfl, (Nat.le_of_ble_eq_true rfl), (Nat.le_of_ble_eq_true rfl), (Nat.le_of_ble_eq_true rfl), (Nat.le_of_ble_eq_true rfl)⟩ rfl rfl (Nat.le_of_ble_eq_true rfl) dX7_step_53 ?_
      refine z_aload_n B dX7_step_56 rfl 0 rfl ?_
      refine z_iload_n B dX7_step_57 rfl 1 rfl ?_
      refine z_iload_n B dX7_step_58 rfl 2 rfl ?_
      obtain ⟨w9, h10, ew9, hf⟩ := zb2s hf
      refine z_callVi B [.int a1, .int a2] [] cw_X7_costOf mv_RX7_270 (tX7_costOf hst ew9) rfl (by decide) (kfX7_costOf ew9) ⟨rfl, rfl, (Nat.le_of_ble_eq_true rfl), (Nat.le_of_ble_eq_true rfl), (Nat.le_of_ble_eq_true rfl), (Nat.le_of_ble_eq_true rfl)⟩ rfl rfl (Nat.le_of_ble_eq_true rfl) dX7_step_59 ?_
      refine z_ldcw B dX7_step_62 kc_RX7_269 ?_
      rcases zite hf with ⟨c11, hf⟩ | ⟨c11, hf⟩
      · refine z_icmp_ge B 81 dX7_step_65 (by decide) (fun _ => ?_) (fun e => absurd c11 e)
        refine z_bipush (v := (-9)) B dX7_step_81 (by decide) ?_
        cases hf
        exact z_iret B dX7_step_83 (Nat.le_of_ble_eq_true rfl) (Nat.le_of_ble_eq_true rfl)
      refine z_icmp_ge B 81 dX7_step_65 (by decide) (fun e => absurd e c11) (fun _ => ?_)
      refine z_iload_n B dX7_step_68 rfl 3 rfl ?_
      refine z_aload_n B dX7_step_69 rfl 0 rfl ?_
      refine z_iload_n B dX7_step_70 rfl 1 rfl ?_
      refine z_iload_n B dX7_step_71 rfl 2 rfl ?_
      obtain ⟨w12, h13, ew12, hf⟩ := zb2s hf
      refine z_callVi B [.int a1, .int a2] [.int a3] cw_X7_costOf mv_RX7_270 (tX7_costOf hst ew12) rfl (by decide) (kfX7_costOf ew12) ⟨rfl, rfl, (Nat.le_of_ble_eq_true rfl), (Nat.le_of_ble_eq_true rfl), (Nat.le_of_ble_eq_true rfl), (Nat.le_of_ble_eq_true rfl)⟩ rfl rfl (Nat.le_of_ble_eq_true rfl) dX7_step_72 ?_
      refine z_bipush (v := 16) B dX7_step_75 (by decide) ?_
      refine z_irem B dX7_step_77 (by decide) ?_
      rcases zite hf with ⟨c14, hf⟩ | ⟨c14, hf⟩
      · refine z_icmp_le B 84 dX7_step_78 (by decide) (fun _ => ?_) (fun e => absurd c14 e)
        refine z_iload_n B dX7_step_84 rfl 1 rfl ?_
        refine z_istore (lv' := [(4, .int a1), (0, .ref a0), (1, .int a1), (2, .int a2), (3, .int a3)]) B dX7_step_85 (by decide) rfl ?_
        refine z_iconst (v := 0) B dX7_step_87 (by decide) ?_
        refine z_istore (lv' := [(5, .int 0), (4, .int a1), (0, .ref a0), (1, .int a1), (2, .int a2), (3, .int a3)]) B dX7_step_88 (by decide) rfl ?_
        refine zV.sub [2, 3, 4, 5, 1, 0] rfl ?_
        refine fX7_step_L90_ok B hst hE (fun h15 y16 y17 hf => ?_) _ _ _ _ hf
        refine z_iload B dX7_step_111 4 rfl ?_
        cases hf
        exact z_iret B dX7_step_113 (Nat.le_of_ble_eq_true rfl) (Nat.le_of_ble_eq_true rfl)
      refine z_icmp_le B 84 dX7_step_78 (by decide) (fun e => absurd e c14) (fun _ => ?_)
      refine z_bipush (v := (-9)) B dX7_step_81 (by decide) ?_
      cases hf
      exact z_iret B dX7_step_83 (Nat.le_of_ble_eq_true rfl) (Nat.le_of_ble_eq_true rfl)
    refine z_if_eq B 46 dX7_step_41 (by decide) (fun e => absurd e c6) (fun _ => ?_)
    refine z_iconst (v := 0) B dX7_step_44 (by decide) ?_
    cases hf
    exact z_iret B dX7_step_45 (Nat.le_of_ble_eq_true rfl) (Nat.le_of_ble_eq_true rfl)
  refine z_if_eq B 17 dX7_step_6 (by decide) (fun e => absurd e c3) (fun _ => ?_)
  refine z_aload_n B dX7_step_9 rfl 0 rfl ?_
  refine z_iload_n B dX7_step_10 rfl 2 rfl ?_
  obtain ⟨w18, h19, ew18, hf⟩ := zb2s hf
  refine z_callVi B [.int a2] [.ref a0] cw_X7_isFormat mv_RX7_214 (tX7_isFormat hst ew18) rfl (by decide) (kfX7_isFormat ew18) ⟨rfl, rfl, (Nat.le_of_ble_eq_true rfl), (Nat.le_of_ble_eq_true rfl), (Nat.le_of_ble_eq_true rfl), (Nat.le_of_ble_eq_true rfl)⟩ rfl rfl (Nat.le_of_ble_eq_true rfl) dX7_step_11 ?_
  rcases zite hf with ⟨c20, hf⟩ | ⟨c20, hf⟩
  · refine z_if_ne B 21 dX7_step_14 (by decide) (fun e => absurd c20 e) (fun _ => ?_)
    refine z_iconst (v := 1) B dX7_step_17 (by decide) ?_
    refine z_goto B 38 dX7_step_18 (by decide) ?_
    obtain ⟨w21, h22, ew21, hf⟩ := zb2s hf
    refine z_callVi B [.int 1] [] cw_X7_refused mv_RX7_112 (tX7_refused hst ew21) rfl (by decide) (kfX7_refused ew21) ⟨rfl, rfl, (Nat.le_of_ble_eq_true rfl), (Nat.le_of_ble_eq_true rfl), (Nat.le_of_ble_eq_true rfl), (Nat.le_of_ble_eq_true rfl)⟩ rfl rfl (Nat.le_of_ble_eq_true rfl) dX7_step_38 ?_
    rcases zite hf with ⟨c23, hf⟩ | ⟨c23, hf⟩
    · refine z_if_eq B 46 dX7_step_41 (by decide) (fun _ => ?_) (fun e => absurd c23 e)
      refine z_aload_n B dX7_step_46 rfl 0 rfl ?_
      refine z_aload_n B dX7_step_47 rfl 0 rfl ?_
      obtain ⟨w24, ew24, hf⟩ := zbs hf
      refine z_gP B fl_RX7_56 ew24 rfl dX7_step_48 ?_
      refine z_bipush (v := (-9)) B dX7_step_51 (by decide) ?_
      obtain ⟨h25, eh25, hf⟩ := zbs hf
      refine z_callVv B [.ref w24, .int (-9)] [] cw_X7_layTable mv_RX7_283 (tX7_layTable hst eh25) rfl (by decide) (kfX7_layTable eh25) ⟨rfl, rfl, (Nat.le_of_ble_eq_true rfl), (Nat.le_of_ble_eq_true rfl), (Nat.le_of_ble_eq_true rfl), (Nat.le_of_ble_eq_true rfl)⟩ rfl rfl (Nat.le_of_ble_eq_true rfl) dX7_step_53 ?_
      refine z_aload_n B dX7_step_56 rfl 0 rfl ?_
      refine z_iload_n B dX7_step_57 rfl 1 rfl ?_
      refine z_iload_n B dX7_step_58 rfl 2 rfl ?_
      obtain ⟨w26, h27, ew26, hf⟩ := zb2s hf
      refine z_callVi B [.int a1, .int a2] [] cw_X7_costOf mv_RX7_270 (tX7_costOf hst ew26) rfl (by decide) (kfX7_costOf ew26) ⟨rfl, rfl, (Nat.le_of_ble_eq_true rfl), (Nat.le_of_ble_eq_true rfl), (Nat.le_of_ble_eq_true rfl), (Nat.le_of_ble_eq_true rfl)⟩ rfl rfl (Nat.le_of_ble_eq_true rfl) dX7_step_59 ?_
      refine z_ldcw B dX7_step_62 kc_RX7_269 ?_
      rcases zite hf with ⟨c28, hf⟩ | ⟨c28, hf⟩
      · refine z_icmp_ge B 81 dX7_step_65 (by decide) (fun _ => ?_) (fun e => absurd c28 e)
        refine z_bipush (v := (-9)) B dX7_step_81 (by decide) ?_
        cases hf
        exact z_iret B dX7_step_83 (Nat.le_of_ble_eq_true rfl) (Nat.le_of_ble_eq_true rfl)
      refine z_icmp_ge B 81 dX7_step_65 (by decide) (fun e => absurd e c28) (fun _ => ?_)
      refine z_iload_n B dX7_step_68 rfl 3 rfl ?_
      refine z_aload_n B dX7_step_69 rfl 0 rfl ?_
      refine z_iload_n B dX7_step_70 rfl 1 rfl ?_
      refine z_iload_n B dX7_step_71 rfl 2 rfl ?_
      obtain ⟨w29, h30, ew29, hf⟩ := zb2s hf
      refine z_callVi B [.int a1, .int a2] [.int a3] cw_X7_costOf mv_RX7_270 (tX7_costOf hst ew29) rfl (by decide) (kfX7_costOf ew29) ⟨rfl, rfl, (Nat.le_of_ble_eq_true rfl), (Nat.le_of_ble_eq_true rfl), (Nat.le_of_ble_eq_true rfl), (Nat.le_of_ble_eq_true rfl)⟩ rfl rfl (Nat.le_of_ble_eq_true rfl) dX7_step_72 ?_
      refine z_bipush (v := 16) B dX7_step_75 (by decide) ?_
      refine z_irem B dX7_step_77 (by decide) ?_
      rcases zite hf with ⟨c31, hf⟩ | ⟨c31, hf⟩
      · refine z_icmp_le B 84 dX7_step_78 (by decide) (fun _ => ?_) (fun e => absurd c31 e)
        refine z_iload_n B dX7_step_84 rfl 1 rfl ?_
        refine z_istore (lv' := [(4, .int a1), (0, .ref a0), (1, .int a1), (2, .int a2), (3, .int a3)]) B dX7_step_85 (by decide) rfl ?_
        refine z_iconst (v := 0) B dX7_step_87 (by decide) ?_
        refine z_istore (lv' := [(5, .int 0), (4, .int a1), (0, .ref a0), (1, .int a1), (2, .int a2), (3, .int a3)]) B dX7_step_88 (by decide) rfl ?_
        refine zV.sub [2, 3, 4, 5, 1, 0] rfl ?_
        refine fX7_step_L90_ok B hst hE (fun h32 y33 y34 hf => ?_) _ _ _ _ hf
        refine z_iload B dX7_step_111 4 rfl ?_
        cases hf
        exact z_iret B dX7_step_113 (Nat.le_of_ble_eq_true rfl) (Nat.le_of_ble_eq_true rfl)
      refine z_icmp_le B 84 dX7_step_78 (by decide) (fun e => absurd e c31) (fun _ => ?_)
      refine z_bipush (v := (-9)) B dX7_step_81 (by decide) ?_
      cases hf
      exact z_iret B dX7_step_83 (Nat.le_of_ble_eq_true rfl) (Nat.le_of_ble_eq_true rfl)
    refine z_if_eq B 46 dX7_step_41 (by decide) (fun e => absurd e c23) (fun _ => ?_)
    refine z_iconst (v := 0) B dX7_step_44 (by decide) ?_
    cases hf
    exact z_iret B dX7_step_45 (Nat.le_of_ble_eq_true rfl) (Nat.le_of_ble_eq_true rfl)
  refine z_if_ne B 21 dX7_step_14 (by decide) (fun _ => ?_) (fun e => absurd e c20)
  refine z_iload_n B dX7_step_21 rfl 3 rfl ?_
  refine z_i2l B dX7_step_22 ?_
  refine z_lconst (v := 0) B dX7_step_23 (by decide) ?_
  refine z_ldc2 B dX7_step_24 kl_RX7_194 ?_
  obtain ⟨w35, h36, ew35, hf⟩ := zb2s hf
  refine z_callSi B [.long (a3 : Int32).toInt64, .long 0, .long 7] [.ref a0] cw_X7_in mt_RX7_97 (tX7_in hst ew35) ⟨rfl, rfl, (Nat.le_of_ble_eq_true rfl), (Nat.le_of_ble_eq_true rfl), (Nat.le_of_ble_eq_true rfl), (Nat.le_of_ble_eq_true rfl)⟩ rfl rfl (Nat.le_of_ble_eq_true rfl) dX7_step_27 ?_
  rcases zite hf with ⟨c37, hf⟩ | ⟨c37, hf⟩
  · refine z_if_ne B 37 dX7_step_30 (by decide) (fun e => absurd c37 e) (fun _ => ?_)
    refine z_iconst (v := 2) B dX7_step_33 (by decide) ?_
    refine z_goto B 38 dX7_step_34 (by decide) ?_
    obtain ⟨w38, h39, ew38, hf⟩ := zb2s hf
    refine z_callVi B [.int 2] [] cw_X7_refused mv_RX7_112 (tX7_refused hst ew38) rfl (by decide) (kfX7_refused ew38) ⟨rfl, rfl, (Nat.le_of_ble_eq_true rfl), (Nat.le_of_ble_eq_true rfl), (Nat.le_of_ble_eq_true rfl), (Nat.le_of_ble_eq_true rfl)⟩ rfl rfl (Nat.le_of_ble_eq_true rfl) dX7_step_38 ?_
    rcases zite hf with ⟨c40, hf⟩ | ⟨c40, hf⟩
    · refine z_if_eq B 46 dX7_step_41 (by decide) (fun _ => ?_) (fun e => absurd c40 e)
      refine z_aload_n B dX7_step_46 rfl 0 rfl ?_
      refine z_aload_n B dX7_step_47 rfl 0 rfl ?_
      obtain ⟨w41, ew41, hf⟩ := zbs hf
      refine z_gP B fl_RX7_56 ew41 rfl dX7_step_48 ?_
      refine z_bipush (v := (-9)) B dX7_step_51 (by decide) ?_
      obtain ⟨h42, eh42, hf⟩ := zbs hf
      refine z_callVv B [.ref w41, .int (-9)] [] cw_X7_layTable mv_RX7_283 (tX7_layTable hst eh42) rfl (by decide) (kfX7_layTable eh42) ⟨rfl, rfl, (Nat.le_of_ble_eq_true rfl), (Nat.le_of_ble_eq_true rfl), (Nat.le_of_ble_eq_true rfl), (Nat.le_of_ble_eq_true rfl)⟩ rfl rfl (Nat.le_of_ble_eq_true rfl) dX7_step_53 ?_
      refine z_aload_n B dX7_step_56 rfl 0 rfl ?_
      refine z_iload_n B dX7_step_57 rfl 1 rfl ?_
      refine z_iload_n B dX7_step_58 rfl 2 rfl ?_
      obtain ⟨w43, h44, ew43, hf⟩ := zb2s hf
      refine z_callVi B [.int a1, .int a2] [] cw_X7_costOf mv_RX7_270 (tX7_costOf hst ew43) rfl (by decide) (kfX7_costOf ew43) ⟨rfl, rfl, (Nat.le_of_ble_eq_true rfl), (Nat.le_of_ble_eq_true rfl), (Nat.le_of_ble_eq_true rfl), (Nat.le_of_ble_eq_true rfl)⟩ rfl rfl (Nat.le_of_ble_eq_true rfl) dX7_step_59 ?_
      refine z_ldcw B dX7_step_62 kc_RX7_269 ?_
      rcases zite hf with ⟨c45, hf⟩ | ⟨c45, hf⟩
      · refine z_icmp_ge B 81 dX7_step_65 (by decide) (fun _ => ?_) (fun e => absurd c45 e)
        refine z_bipush (v := (-9)) B dX7_step_81 (by decide) ?_
        cases hf
        exact z_iret B dX7_step_83 (Nat.le_of_ble_eq_true rfl) (Nat.le_of_ble_eq_true rfl)
      refine z_icmp_ge B 81 dX7_step_65 (by decide) (fun e => absurd e c45) (fun _ => ?_)
      refine z_iload_n B dX7_step_68 rfl 3 rfl ?_
      refine z_aload_n B dX7_step_69 rfl 0 rfl ?_
      refine z_iload_n B dX7_step_70 rfl 1 rfl ?_
      refine z_iload_n B dX7_step_71 rfl 2 rfl ?_
      obtain ⟨w46, h47, ew46, hf⟩ := zb2s hf
      refine z_callVi B [.int a1, .int a2] [.int a3] cw_X7_costOf mv_RX7_270 (tX7_costOf hst ew46) rfl (by decide) (kfX7_costOf ew46) ⟨rfl, rfl, (Nat.le_of_ble_eq_true rfl), (Nat.le_of_ble_eq_true rfl), (Nat.le_of_ble_eq_true rfl), (Nat.le_of_ble_eq_true rfl)⟩ rfl rfl (Nat.le_of_ble_eq_true rfl) dX7_step_72 ?_
      refine z_bipush (v := 16) B dX7_step_75 (by decide) ?_
      refine z_irem B dX7_step_77 (by decide) ?_
      rcases zite hf with ⟨c48, hf⟩ | ⟨c48, hf⟩
      · refine z_icmp_le B 84 dX7_step_78 (by decide) (fun _ => ?_) (fun e => absurd c48 e)
        refine z_iload_n B dX7_step_84 rfl 1 rfl ?_
        refine z_istore (lv' := [(4, .int a1), (0, .ref a0), (1, .int a1), (2, .int a2), (3, .int a3)]) B dX7_step_85 (by decide) rfl ?_
        refine z_iconst (v := 0) B dX7_step_87 (by decide) ?_
        refine z_istore (lv' := [(5, .int 0), (4, .int a1), (0, .ref a0), (1, .int a1), (2, .int a2), (3, .int a3)]) B dX7_step_88 (by decide) rfl ?_
        refine zV.sub [2, 3, 4, 5, 1, 0] rfl ?_
        refine fX7_step_L90_ok B hst hE (fun h49 y50 y51 hf => ?_) _ _ _ _ hf
        refine z_iload B dX7_step_111 4 rfl ?_
        cases hf
        exact z_iret B dX7_step_113 (Nat.le_of_ble_eq_true rfl) (Nat.le_of_ble_eq_true rfl)
      refine z_icmp_le B 84 dX7_step_78 (by decide) (fun e => absurd e c48) (fun _ => ?_)
      refine z_bipush (v := (-9)) B dX7_step_81 (by decide) ?_
      cases hf
      exact z_iret B dX7_step_83 (Nat.le_of_ble_eq_true rfl) (Nat.le_of_ble_eq_true rfl)
    refine z_if_eq B 46 dX7_step_41 (by decide) (fun e => absurd e c40) (fun _ => ?_)
    refine z_iconst (v := 0) B dX7_step_44 (by decide) ?_
    cases hf
    exact z_iret B dX7_step_45 (Nat.le_of_ble_eq_true rfl) (Nat.le_of_ble_eq_true rfl)
  refine z_if_ne B 37 dX7_step_30 (by decide) (fun _ => ?_) (fun e => absurd e c37)
  refine z_iconst (v := 0) B dX7_step_37 (by decide) ?_
  obtain ⟨w52, h53, ew52, hf⟩ := zb2s hf
  refine z_callVi B [.int 0] [] cw_X7_refused mv_RX7_112 (tX7_refused hst ew52) rfl (by decide) (kfX7_refused ew52) ⟨rfl, rfl, (Nat.le_of_ble_eq_true rfl), (Nat.le_of_ble_eq_true rfl), (Nat.le_of_ble_eq_true rfl), (Nat.le_of_ble_eq_true rfl)⟩ rfl rfl (Nat.le_of_ble_eq_true rfl) dX7_step_38 ?_
  rcases zite hf with ⟨c54, hf⟩ | ⟨c54, hf⟩
  · refine z_if_eq B 46 dX7_step_41 (by decide) (fun _ => ?_) (fun e => absurd c54 e)
    refine z_aload_n B dX7_step_46 rfl 0 rfl ?_
    refine z_aload_n B dX7_step_47 rfl 0 rfl ?_
    obtain ⟨w55, ew55, hf⟩ := zbs hf
    refine z_gP B fl_RX7_56 ew55 rfl dX7_step_48 ?_
    refine z_bipush (v := (-9)) B dX7_step_51 (by decide) ?_
    obtain ⟨h56, eh56, hf⟩ := zbs hf
    refine z_callVv B [.ref w55, .int (-9)] [] cw_X7_layTable mv_RX7_283 (tX7_layTable hst eh56) rfl (by decide) (kfX7_layTable eh56) ⟨rfl, rfl, (Nat.le_of_ble_eq_true rfl), (Nat.le_of_ble_eq_true rfl), (Nat.le_of_ble_eq_true rfl), (Nat.le_of_ble_eq_true rfl)⟩ rfl rfl (Nat.le_of_ble_eq_true rfl) dX7_step_53 ?_
    refine z_aload_n B dX7_step_56 rfl 0 rfl ?_
    refine z_iload_n B dX7_step_57 rfl 1 rfl ?_
    refine z_iload_n B dX7_step_58 rfl 2 rfl ?_
    obtain ⟨w57, h58, ew57, hf⟩ := zb2s hf
    refine z_callVi B [.int a1, .int a2] [] cw_X7_costOf mv_RX7_270 (tX7_costOf hst ew57) rfl (by decide) (kfX7_costOf ew57) ⟨rfl, rfl, (Nat.le_of_ble_eq_true rfl), (Nat.le_of_ble_eq_true rfl), (Nat.le_of_ble_eq_true rfl), (Nat.le_of_ble_eq_true rfl)⟩ rfl rfl (Nat.le_of_ble_eq_true rfl) dX7_step_59 ?_
    refine z_ldcw B dX7_step_62 kc_RX7_269 ?_
    rcases zite hf with ⟨c59, hf⟩ | ⟨c59, hf⟩
    · refine z_icmp_ge B 81 dX7_step_65 (by decide) (fun _ => ?_) (fun e => absurd c59 e)
      refine z_bipush (v := (-9)) B dX7_step_81 (by decide) ?_
      cases hf
      exact z_iret B dX7_step_83 (Nat.le_of_ble_eq_true rfl) (Nat.le_of_ble_eq_true rfl)
    refine z_icmp_ge B 81 dX7_step_65 (by decide) (fun e => absurd e c59) (fun _ => ?_)
    refine z_iload_n B dX7_step_68 rfl 3 rfl ?_
    refine z_aload_n B dX7_step_69 rfl 0 rfl ?_
    refine z_iload_n B dX7_step_70 rfl 1 rfl ?_
    refine z_iload_n B dX7_step_71 rfl 2 rfl ?_
    obtain ⟨w60, h61, ew60, hf⟩ := zb2s hf
    refine z_callVi B [.int a1, .int a2] [.int a3] cw_X7_costOf mv_RX7_270 (tX7_costOf hst ew60) rfl (by decide) (kfX7_costOf ew60) ⟨rfl, rfl, (Nat.le_of_ble_eq_true rfl), (Nat.le_of_ble_eq_true rfl), (Nat.le_of_ble_eq_true rfl), (Nat.le_of_ble_eq_true rfl)⟩ rfl rfl (Nat.le_of_ble_eq_true rfl) dX7_step_72 ?_
    refine z_bipush (v := 16) B dX7_step_75 (by decide) ?_
    refine z_irem B dX7_step_77 (by decide) ?_
    rcases zite hf with ⟨c62, hf⟩ | ⟨c62, hf⟩
    · refine z_icmp_le B 84 dX7_step_78 (by decide) (fun _ => ?_) (fun e => absurd c62 e)
      refine z_iload_n B dX7_step_84 rfl 1 rfl ?_
      refine z_istore (lv' := [(4, .int a1), (0, .ref a0), (1, .int a1), (2, .int a2), (3, .int a3)]) B dX7_step_85 (by decide) rfl ?_
      refine z_iconst (v := 0) B dX7_step_87 (by decide) ?_
      refine z_istore (lv' := [(5, .int 0), (4, .int a1), (0, .ref a0), (1, .int a1), (2, .int a2), (3, .int a3)]) B dX7_step_88 (by decide) rfl ?_
      refine zV.sub [2, 3, 4, 5, 1, 0] rfl ?_
      refine fX7_step_L90_ok B hst hE (fun h63 y64 y65 hf => ?_) _ _ _ _ hf
      refine z_iload B dX7_step_111 4 rfl ?_
      cases hf
      exact z_iret B dX7_step_113 (Nat.le_of_ble_eq_true rfl) (Nat.le_of_ble_eq_true rfl)
    refine z_icmp_le B 84 dX7_step_78 (by decide) (fun e => absurd e c62) (fun _ => ?_)
    refine z_bipush (v := (-9)) B dX7_step_81 (by decide) ?_
    cases hf
    exact z_iret B dX7_step_83 (Nat.le_of_ble_eq_true rfl) (Nat.le_of_ble_eq_true rfl)
  refine z_if_eq B 46 dX7_step_41 (by decide) (fun e => absurd e c54) (fun _ => ?_)
  refine z_iconst (v := 0) B dX7_step_44 (by decide) ?_
  cases hf
  exact z_iret B dX7_step_45 (Nat.le_of_ble_eq_true rfl) (Nat.le_of_ble_eq_true rfl)
abbrev rm_X7_sizeAfter : Room := { frames := 3, cells := 0, slots := 0, locals := 71 }
set_option maxRecDepth 100000 in
set_option maxHeartbeats 4000000 in
theorem tX7_sizeAfter {l : Launch} {G : zG} (hst : l.stackTraces = false) {h : zH} {a0 : Nat} {a1 : Int32} {a2 : Int32} {a3 : Int32} {r : Int32 × zH} (hf : fX7_sizeAfter h a0 a1 a2 a3 = some r) : zMet l G yX7_sizeAfter (.code yX7_sizeAfter cX7_sizeAfter 4 (some .int)) rm_X7_sizeAfter 0 0 [.ref a0, .int a1, .int a2, .int a3] h (zoi r) := by
  unfold fX7_sizeAfter at hf
  obtain ⟨-, hf⟩ := zck hf
  refine z_enter (by decide) (Nat.le_of_ble_eq_true rfl) hst (fun x hx B hE => ?_)
  subst hx
  have B : zB G x cX7_sizeAfter 4 RX7 "sizeAfter" rm_X7_sizeAfter (some .int) := B
  show zV G x 4 (zQ G x (zoi r) 0 0) h 0 0 0 [(0, .ref a0), (1, .int a1), (2, .int a2), (3, .int a3)] []
  refine z_aload_n B dX7_sizeAfter_0 rfl 0 rfl ?_
  refine z_aload_n B dX7_sizeAfter_1 rfl 0 rfl ?_
  refine z_iload_n B dX7_sizeAfter_2 rfl 1 rfl ?_
  obtain ⟨w1, h2, ew1, hf⟩ := zb2s hf
  refine z_callVi B [.int a1] [.ref a0] cw_X7_isFormat mv_RX7_214 (tX7_isFormat hst ew1) rfl (by decide) (kfX7_isFormat ew1) ⟨rfl, rfl, (Nat.le_of_ble_eq_true rfl), (Nat.le_of_ble_eq_true rfl), (Nat.le_of_ble_eq_true rfl), (Nat.le_of_ble_eq_true rfl)⟩ rfl rfl (Nat.le_of_ble_eq_true rfl) dX7_sizeAfter_3 ?_
  rcases zite hf with ⟨c3, hf⟩ | ⟨c3, hf⟩
  · refine z_if_eq B 17 dX7_sizeAfter_6 (by decide) (fun _ => ?_) (fun e => absurd c3 e)
    refine z_iconst (v := 1) B dX7_sizeAfter_17 (by decide) ?_
    refine z_goto B 38 dX7_sizeAfter_18 (by decide) ?_
    obtain ⟨w4, h5, ew4, hf⟩ := zb2s hf
    refine z_callVi B [.int 1] [] cw_X7_refused mv_RX7_112 (tX7_refused hst ew4) rfl (by decide) (kfX7_refused ew4) ⟨rfl, rfl, (Nat.le_of_ble_eq_true rfl), (Nat.le_of_ble_eq_true rfl), (Nat.le_of_ble_eq_true rfl), (Nat.le_of_ble_eq_true rfl)⟩ rfl rfl (Nat.le_of_ble_eq_true rfl) dX7_sizeAfter_38 ?_
    rcases zite hf with ⟨c6, hf⟩ | ⟨c6, hf⟩
    · refine z_if_eq B 46 dX7_sizeAfter_41 (by decide) (fun _ => ?_) (fun e => absurd c6 e)
      refine z_aload_n B dX7_sizeAfter_46 rfl 0 rfl ?_
      refine z_aload_n B dX7_sizeAfter_47 rfl 0 rfl ?_
      obtain ⟨w7, ew7, hf⟩ := zbs hf
      refine z_gP B fl_RX7_56 ew7 rfl dX7_sizeAfter_48 ?_
      refine z_bipush (v := (-9)) B dX7_sizeAfter_51 (by decide) ?_
      obtain ⟨h8, eh8, hf⟩ := zbs hf
      refine z_callVv B [.ref w7, .int (-9)] [] cw_X7_layTable mv_RX7_283 (tX7_layTable hst eh8) rfl (by decide) (kfX7_layTable eh8) ⟨rfl, rfl, (Nat.le_of_ble_eq_true rfl), (Nat.le_of_ble_eq_true rfl), (Nat.le_of_ble_eq_true rfl), (Nat.le_of_ble_eq_true rfl)⟩ rfl rfl (Nat.le_of_ble_eq_true rfl) dX7_sizeAfter_53 ?_
      refine z_aload_n B dX7_sizeAfter_56 rfl 0 rfl ?_
      refine z_iload_n B dX7_sizeAfter_57 rfl 1 rfl ?_
      refine z_iload_n B dX7_sizeAfter_58 rfl 2 rfl ?_
      obtain ⟨w9, h10, ew9, hf⟩ := zb2s hf
      refine z_callVi B [.int a1, .int a2] [] cw_X7_costOf mv_RX7_270 (tX7_costOf hst ew9) rfl (by decide) (kfX7_costOf ew9) ⟨rfl, rfl, (Nat.le_of_ble_eq_true rfl), (Nat.le_of_ble_eq_true rfl), (Nat.le_of_ble_eq_true rfl), (Nat.le_of_ble_eq_true rfl)⟩ rfl rfl (Nat.le_of_ble_eq_true rfl) dX7_sizeAfter_59 ?_
      refine z_ldcw B dX7_sizeAfter_62 kc_RX7_269 ?_
      rcases zite hf with ⟨c11, hf⟩ | ⟨c11, hf⟩
      · refine z_icmp_lt B 73 dX7_sizeAfter_65 (by decide) (fun _ => ?_) (fun e => absurd c11 e)
        refine z_aload_n B dX7_sizeAfter_73 rfl 0 rfl ?_
        refine z_iload_n B dX7_sizeAfter_74 rfl 1 rfl ?_
        refine z_iload_n B dX7_sizeAfter_75 rfl 2 rfl ?_
        refine z_iload_n B dX7_sizeAfter_76 rfl 3 rfl ?_
        obtain ⟨w12, h13, ew12, hf⟩ := zb2s hf
        refine z_callVi B [.int a1, .int a2, .int a3] [] cw_X7_sizeOn mv_RX7_289 (tX7_sizeOn hst ew12) rfl (by decide) (kfX7_sizeOn ew12) ⟨rfl, rfl, (Nat.le_of_ble_eq_true rfl), (Nat.le_of_ble_eq_true rfl), (Nat.le_of_ble_eq_true rfl), (Nat.le_of_ble_eq_true rfl)⟩ rfl rfl (Nat.le_of_ble_eq_true rfl) dX7_sizeAfter_77 ?_
        cases hf
        exact z_iret B dX7_sizeAfter_80 (Nat.le_of_ble_eq_true rfl) (Nat.le_of_ble_eq_true rfl)
      refine z_icmp_lt B 73 dX7_sizeAfter_65 (by decide) (fun e => absurd e c11) (fun _ => ?_)
      refine z_bipush (v := (-9)) B dX7_sizeAfter_68 (by decide) ?_
      refine z_goto B 80 dX7_sizeAfter_70 (by decide) ?_
      cases hf
      exact z_iret B dX7_sizeAfter_80 (Nat.le_of_ble_eq_true rfl) (Nat.le_of_ble_eq_true rfl)
    refine z_if_eq B 46 dX7_sizeAfter_41 (by decide) (fun e => absurd e c6) (fun _ => ?_)
    refine z_iconst (v := 0) B dX7_sizeAfter_44 (by decide) ?_
    cases hf
    exact z_iret B dX7_sizeAfter_45 (Nat.le_of_ble_eq_true rfl) (Nat.le_of_ble_eq_true rfl)
  refine z_if_eq B 17 dX7_sizeAfter_6 (by decide) (fun e => absurd e c3) (fun _ => ?_)
  refine z_aload_n B dX7_sizeAfter_9 rfl 0 rfl ?_
  refine z_iload_n B dX7_sizeAfter_10 rfl 2 rfl ?_
  obtain ⟨w14, h15, ew14, hf⟩ := zb2s hf
  refine z_callVi B [.int a2] [.ref a0] cw_X7_isFormat mv_RX7_214 (tX7_isFormat hst ew14) rfl (by decide) (kfX7_isFormat ew14) ⟨rfl, rfl, (Nat.le_of_ble_eq_true rfl), (Nat.le_of_ble_eq_true rfl), (Nat.le_of_ble_eq_true rfl), (Nat.le_of_ble_eq_true rfl)⟩ rfl rfl (Nat.le_of_ble_eq_true rfl) dX7_sizeAfter_11 ?_
  rcases zite hf with ⟨c16, hf⟩ | ⟨c16, hf⟩
  · refine z_if_ne B 21 dX7_sizeAfter_14 (by decide) (fun e => absurd c16 e) (fun _ => ?_)
    refine z_iconst (v := 1) B dX7_sizeAfter_17 (by decide) ?_
    refine z_goto B 38 dX7_sizeAfter_18 (by decide) ?_
    obtain ⟨w17, h18, ew17, hf⟩ := zb2s hf
    refine z_callVi B [.int 1] [] cw_X7_refused mv_RX7_112 (tX7_refused hst ew17) rfl (by decide) (kfX7_refused ew17) ⟨rfl, rfl, (Nat.le_of_ble_eq_true rfl), (Nat.le_of_ble_eq_true rfl), (Nat.le_of_ble_eq_true rfl), (Nat.le_of_ble_eq_true rfl)⟩ rfl rfl (Nat.le_of_ble_eq_true rfl) dX7_sizeAfter_38 ?_
    rcases zite hf with ⟨c19, hf⟩ | ⟨c19, hf⟩
    · refine z_if_eq B 46 dX7_sizeAfter_41 (by decide) (fun _ => ?_) (fun e => absurd c19 e)
      refine z_aload_n B dX7_sizeAfter_46 rfl 0 rfl ?_
      refine z_aload_n B dX7_sizeAfter_47 rfl 0 rfl ?_
      obtain ⟨w20, ew20, hf⟩ := zbs hf
      refine z_gP B fl_RX7_56 ew20 rfl dX7_sizeAfter_48 ?_
      refine z_bipush (v := (-9)) B dX7_sizeAfter_51 (by decide) ?_
      obtain ⟨h21, eh21, hf⟩ := zbs hf
      refine z_callVv B [.ref w20, .int (-9)] [] cw_X7_layTable mv_RX7_283 (tX7_layTable hst eh21) rfl (by decide) (kfX7_layTable eh21) ⟨rfl, rfl, (Nat.le_of_ble_eq_true rfl), (Nat.le_of_ble_eq_true rfl), (Nat.le_of_ble_eq_true rfl), (Nat.le_of_ble_eq_true rfl)⟩ rfl rfl (Nat.le_of_ble_eq_true rfl) dX7_sizeAfter_53 ?_
      refine z_aload_n B dX7_sizeAfter_56 rfl 0 rfl ?_
      refine z_iload_n B dX7_sizeAfter_57 rfl 1 rfl ?_
      refine z_iload_n B dX7_sizeAfter_58 rfl 2 rfl ?_
      obtain ⟨w22, h23, ew22, hf⟩ := zb2s hf
      refine z_callVi B [.int a1, .int a2] [] cw_X7_costOf mv_RX7_270 (tX7_costOf hst ew22) rfl (by decide) (kfX7_costOf ew22) ⟨rfl, rfl, (Nat.le_of_ble_eq_true rfl), (Nat.le_of_ble_eq_true rfl), (Nat.le_of_ble_eq_true rfl), (Nat.le_of_ble_eq_true rfl)⟩ rfl rfl (Nat.le_of_ble_eq_true rfl) dX7_sizeAfter_59 ?_
      refine z_ldcw B dX7_sizeAfter_62 kc_RX7_269 ?_
      rcases zite hf with ⟨c24, hf⟩ | ⟨c24, hf⟩
      · refine z_icmp_lt B 73 dX7_sizeAfter_65 (by decide) (fun _ => ?_) (fun e => absurd c24 e)
        refine z_aload_n B dX7_sizeAfter_73 rfl 0 rfl ?_
        refine z_iload_n B dX7_sizeAfter_74 rfl 1 rfl ?_
        refine z_iload_n B dX7_sizeAfter_75 rfl 2 rfl ?_
        refine z_iload_n B dX7_sizeAfter_76 rfl 3 rfl ?_
        obtain ⟨w25, h26, ew25, hf⟩ := zb2s hf
        refine z_callVi B [.int a1, .int a2, .int a3] [] cw_X7_sizeOn mv_RX7_289 (tX7_sizeOn hst ew25) rfl (by decide) (kfX7_sizeOn ew25) ⟨rfl, rfl, (Nat.le_of_ble_eq_true rfl), (Nat.le_of_ble_eq_true rfl), (Nat.le_of_ble_eq_true rfl), (Nat.le_of_ble_eq_true rfl)⟩ rfl rfl (Nat.le_of_ble_eq_true rfl) dX7_sizeAfter_77 ?_
        cases hf
        exact z_iret B dX7_sizeAfter_80 (Nat.le_of_ble_eq_true rfl) (Nat.le_of_ble_eq_true rfl)
      refine z_icmp_lt B 73 dX7_sizeAfter_65 (by decide) (fun e => absurd e c24) (fun _ => ?_)
      refine z_bipush (v := (-9)) B dX7_sizeAfter_68 (by decide) ?_
      refine z_goto B 80 dX7_sizeAfter_70 (by decide) ?_
      cases hf
      exact z_iret B dX7_sizeAfter_80 (Nat.le_of_ble_eq_true rfl) (Nat.le_of_ble_eq_true rfl)
    refine z_if_eq B 46 dX7_sizeAfter_41 (by decide) (fun e => absurd e c19) (fun _ => ?_)
    refine z_iconst (v := 0) B dX7_sizeAfter_44 (by decide) ?_
    cases hf
    exact z_iret B dX7_sizeAfter_45 (Nat.le_of_ble_eq_true rfl) (Nat.le_of_ble_eq_true rfl)
  refine z_if_ne B 21 dX7_sizeAfter_14 (by decide) (fun _ => ?_) (fun e => absurd e c16)
  refine z_iload_n B dX7_sizeAfter_21 rfl 3 rfl ?_
  refine z_i2l B dX7_sizeAfter_22 ?_
  refine z_lconst (v := 1) B dX7_sizeAfter_23 (by decide) ?_
  refine z_ldc2 B dX7_sizeAfter_24 kl_RX7_265 ?_
  obtain ⟨w27, h28, ew27, hf⟩ := zb2s hf
  refine z_callSi B [.long (a3 : Int32).toInt64, .long 1, .long 99999] [.ref a0] cw_X7_in mt_RX7_97 (tX7_in hst ew27) ⟨rfl, rfl, (Nat.le_of_ble_eq_true rfl), (Nat.le_of_ble_eq_true rfl), (Nat.le_of_ble_eq_true rfl), (Nat.le_of_ble_eq_true rfl)⟩ rfl rfl (Nat.le_of_ble_eq_true rfl) dX7_sizeAfter_27 ?_
  rcases zite hf with ⟨c29, hf⟩ | ⟨c29, hf⟩
  · refine z_if_ne B 37 dX7_sizeAfter_30 (by decide) (fun e => absurd c29 e) (fun _ => ?_)
    refine z_iconst (v := 2) B dX7_sizeAfter_33 (by decide) ?_
    refine z_goto B 38 dX7_sizeAfter_34 (by decide) ?_
    obtain ⟨w30, h31, ew30, hf⟩ := zb2s hf
    refine z_callVi B [.int 2] [] cw_X7_refused mv_RX7_112 (tX7_refused hst ew30) rfl (by decide) (kfX7_refused ew30) ⟨rfl, rfl, (Nat.le_of_ble_eq_true rfl), (Nat.le_of_ble_eq_true rfl), (Nat.le_of_ble_eq_true rfl), (Nat.le_of_ble_eq_true rfl)⟩ rfl rfl (Nat.le_of_ble_eq_true rfl) dX7_sizeAfter_38 ?_
    rcases zite hf with ⟨c32, hf⟩ | ⟨c32, hf⟩
    · refine z_if_eq B 46 dX7_sizeAfter_41 (by decide) (fun _ => ?_) (fun e => absurd c32 e)
      refine z_aload_n B dX7_sizeAfter_46 rfl 0 rfl ?_
      refine z_aload_n B dX7_sizeAfter_47 rfl 0 rfl ?_
      obtain ⟨w33, ew33, hf⟩ := zbs hf
      refine z_gP B fl_RX7_56 ew33 rfl dX7_sizeAfter_48 ?_
      refine z_bipush (v := (-9)) B dX7_sizeAfter_51 (by decide) ?_
      obtain ⟨h34, eh34, hf⟩ := zbs hf
      refine z_callVv B [.ref w33, .int (-9)] [] cw_X7_layTable mv_RX7_283 (tX7_layTable hst eh34) rfl (by decide) (kfX7_layTable eh34) ⟨rfl, rfl, (Nat.le_of_ble_eq_true rfl), (Nat.le_of_ble_eq_true rfl), (Nat.le_of_ble_eq_true rfl), (Nat.le_of_ble_eq_true rfl)⟩ rfl rfl (Nat.le_of_ble_eq_true rfl) dX7_sizeAfter_53 ?_
      refine z_aload_n B dX7_sizeAfter_56 rfl 0 rfl ?_
      refine z_iload_n B dX7_sizeAfter_57 rfl 1 rfl ?_
      refine z_iload_n B dX7_sizeAfter_58 rfl 2 rfl ?_
      obtain ⟨w35, h36, ew35, hf⟩ := zb2s hf
      refine z_callVi B [.int a1, .int a2] [] cw_X7_costOf mv_RX7_270 (tX7_costOf hst ew35) rfl (by decide) (kfX7_costOf ew35) ⟨rfl, rfl, (Nat.le_of_ble_eq_true rfl), (Nat.le_of_ble_eq_true rfl), (Nat.le_of_ble_eq_true rfl), (Nat.le_of_ble_eq_true rfl)⟩ rfl rfl (Nat.le_of_ble_eq_true rfl) dX7_sizeAfter_59 ?_
      refine z_ldcw B dX7_sizeAfter_62 kc_RX7_269 ?_
      rcases zite hf with ⟨c37, hf⟩ | ⟨c37, hf⟩
      · refine z_icmp_lt B 73 dX7_sizeAfter_65 (by decide) (fun _ => ?_) (fun e => absurd c37 e)
        refine z_aload_n B dX7_sizeAfter_73 rfl 0 rfl ?_
        refine z_iload_n B dX7_sizeAfter_74 rfl 1 rfl ?_
        refine z_iload_n B dX7_sizeAfter_75 rfl 2 rfl ?_
        refine z_iload_n B dX7_sizeAfter_76 rfl 3 rfl ?_
        obtain ⟨w38, h39, ew38, hf⟩ := zb2s hf
        refine z_callVi B [.int a1, .int a2, .int a3] [] cw_X7_sizeOn mv_RX7_289 (tX7_sizeOn hst ew38) rfl (by decide) (kfX7_sizeOn ew38) ⟨rfl, rfl, (Nat.le_of_ble_eq_true rfl), (Nat.le_of_ble_eq_true rfl), (Nat.le_of_ble_eq_true rfl), (Nat.le_of_ble_eq_true rfl)⟩ rfl rfl (Nat.le_of_ble_eq_true rfl) dX7_sizeAfter_77 ?_
        cases hf
        exact z_iret B dX7_sizeAfter_80 (Nat.le_of_ble_eq_true rfl) (Nat.le_of_ble_eq_true rfl)
      refine z_icmp_lt B 73 dX7_sizeAfter_65 (by decide) (fun e => absurd e c37) (fun _ => ?_)
      refine z_bipush (v := (-9)) B dX7_sizeAfter_68 (by decide) ?_
      refine z_goto B 80 dX7_sizeAfter_70 (by decide) ?_
      cases hf
      exact z_iret B dX7_sizeAfter_80 (Nat.le_of_ble_eq_true rfl) (Nat.le_of_ble_eq_true rfl)
    refine z_if_eq B 46 dX7_sizeAfter_41 (by decide) (fun e => absurd e c32) (fun _ => ?_)
    refine z_iconst (v := 0) B dX7_sizeAfter_44 (by decide) ?_
    cases hf
    exact z_iret B dX7_sizeAfter_45 (Nat.le_of_ble_eq_true rfl) (Nat.le_of_ble_eq_true rfl)
  refine z_if_ne B 37 dX7_sizeAfter_30 (by decide) (fun _ => ?_) (fun e => absurd e c29)
  refine z_iconst (v := 0) B dX7_sizeAfter_37 (by decide) ?_
  obtain ⟨w40, h41, ew40, hf⟩ := zb2s hf
  refine z_callVi B [.int 0] [] cw_X7_refused mv_RX7_112 (tX7_refused hst ew40) rfl (by decide) (kfX7_refused ew40) ⟨rfl, rfl, (Nat.le_of_ble_eq_true rfl), (Nat.le_of_ble_eq_true rfl), (Nat.le_of_ble_eq_true rfl), (Nat.le_of_ble_eq_true rfl)⟩ rfl rfl (Nat.le_of_ble_eq_true rfl) dX7_sizeAfter_38 ?_
  rcases zite hf with ⟨c42, hf⟩ | ⟨c42, hf⟩
  · refine z_if_eq B 46 dX7_sizeAfter_41 (by decide) (fun _ => ?_) (fun e => absurd c42 e)
    refine z_aload_n B dX7_sizeAfter_46 rfl 0 rfl ?_
    refine z_aload_n B dX7_sizeAfter_47 rfl 0 rfl ?_
    obtain ⟨w43, ew43, hf⟩ := zbs hf
    refine z_gP B fl_RX7_56 ew43 rfl dX7_sizeAfter_48 ?_
    refine z_bipush (v := (-9)) B dX7_sizeAfter_51 (by decide) ?_
    obtain ⟨h44, eh44, hf⟩ := zbs hf
    refine z_callVv B [.ref w43, .int (-9)] [] cw_X7_layTable mv_RX7_283 (tX7_layTable hst eh44) rfl (by decide) (kfX7_layTable eh44) ⟨rfl, rfl, (Nat.le_of_ble_eq_true rfl), (Nat.le_of_ble_eq_true rfl), (Nat.le_of_ble_eq_true rfl), (Nat.le_of_ble_eq_true rfl)⟩ rfl rfl (Nat.le_of_ble_eq_true rfl) dX7_sizeAfter_53 ?_
    refine z_aload_n B dX7_sizeAfter_56 rfl 0 rfl ?_
    refine z_iload_n B dX7_sizeAfter_57 rfl 1 rfl ?_
    refine z_iload_n B dX7_sizeAfter_58 rfl 2 rfl ?_
    obtain ⟨w45, h46, ew45, hf⟩ := zb2s hf
    refine z_callVi B [.int a1, .int a2] [] cw_X7_costOf mv_RX7_270 (tX7_costOf hst ew45) rfl (by decide) (kfX7_costOf ew45) ⟨rfl, rfl, (Nat.le_of_ble_eq_true rfl), (Nat.le_of_ble_eq_true rfl), (Nat.le_of_ble_eq_true rfl), (Nat.le_of_ble_eq_true rfl)⟩ rfl rfl (Nat.le_of_ble_eq_true rfl) dX7_sizeAfter_59 ?_
    refine z_ldcw B dX7_sizeAfter_62 kc_RX7_269 ?_
    rcases zite hf with ⟨c47, hf⟩ | ⟨c47, hf⟩
    · refine z_icmp_lt B 73 dX7_sizeAfter_65 (by decide) (fun _ => ?_) (fun e => absurd c47 e)
      refine z_aload_n B dX7_sizeAfter_73 rfl 0 rfl ?_
      refine z_iload_n B dX7_sizeAfter_74 rfl 1 rfl ?_
      refine z_iload_n B dX7_sizeAfter_75 rfl 2 rfl ?_
      refine z_iload_n B dX7_sizeAfter_76 rfl 3 rfl ?_
      obtain ⟨w48, h49, ew48, hf⟩ := zb2s hf
      refine z_callVi B [.int a1, .int a2, .int a3] [] cw_X7_sizeOn mv_RX7_289 (tX7_sizeOn hst ew48) rfl (by decide) (kfX7_sizeOn ew48) ⟨rfl, rfl, (Nat.le_of_ble_eq_true rfl), (Nat.le_of_ble_eq_true rfl), (Nat.le_of_ble_eq_true rfl), (Nat.le_of_ble_eq_true rfl)⟩ rfl rfl (Nat.le_of_ble_eq_true rfl) dX7_sizeAfter_77 ?_
      cases hf
      exact z_iret B dX7_sizeAfter_80 (Nat.le_of_ble_eq_true rfl) (Nat.le_of_ble_eq_true rfl)
    refine z_icmp_lt B 73 dX7_sizeAfter_65 (by decide) (fun e => absurd e c47) (fun _ => ?_)
    refine z_bipush (v := (-9)) B dX7_sizeAfter_68 (by decide) ?_
    refine z_goto B 80 dX7_sizeAfter_70 (by decide) ?_
    cases hf
    exact z_iret B dX7_sizeAfter_80 (Nat.le_of_ble_eq_true rfl) (Nat.le_of_ble_eq_true rfl)
  refine z_if_eq B 46 dX7_sizeAfter_41 (by decide) (fun e => absurd e c42) (fun _ => ?_)
  refine z_iconst (v := 0) B dX7_sizeAfter_44 (by decide) ?_
  cases hf
  exact z_iret B dX7_sizeAfter_45 (Nat.le_of_ble_eq_true rfl) (Nat.le_of_ble_eq_true rfl)
abbrev rm_X7_reachable : Room := { frames := 2, cells := 0, slots := 0, locals := 46 }
set_option maxRecDepth 100000 in
set_option maxHeartbeats 4000000 in
theorem fX7_reachable_L36_ok {G : zG} {x : zX} (B : zB G x cX7_reachable 4 RX7 "reachable" rm_X7_reachable (some .int)) (hst : (zl x).stackTraces = false) (hE : ∀ e ∈ (zc x).exceptionTable.toList, False) {r : Int32 × zH} {k : zH → Int32 → Int32 → Option (Int32 × zH)} {u0 : Nat} {u1 : Int32} (hk : ∀ h v2 v3, k h v2 v3 = some r → zV G x 4 (zQ G x (zoi r) 0 0) h 0 0 72 [(0, .ref u0), (1, .int u1), (2, .int v2), (3, .int v3)] []) : ∀ n h v2 v3, fX7_reachable_L36 k u0 u1 n h v2 v3 = some r → zV G x 4 (zQ G x (zoi r) 0 0) h 0 0 36 [(0, .ref u0), (1, .int u1), (2, .int v2), (3, .int v3)] [] := by
  intro n
  induction n with
  | zero =>
    intro h v2 v3 hf
    have hf : (none : Option (Int32 × zH)) = some r := hf
    cases hf
  | succ n ih =>
    intro h v2 v3 hf
    rw [fX7_reachable_L36] at hf
    refine z_iload_n B dX7_reachable_36 rfl 3 rfl ?_
    refine z_aload_n B dX7_reachable_37 rfl 0 rfl ?_
    obtain ⟨w1, ew1, hf⟩ := zbs hf
    refine z_gI B fl_RX7_13 ew1 rfl dX7_reachable_38 ?_
    rcases zite hf with ⟨c2, hf⟩ | ⟨c2, hf⟩
    · refine z_icmp_ge B 72 dX7_reachable_41 (by decide) (fun _ => ?_) (fun e => absurd c2 e)
      exact hk _ _ _ hf
    refine z_icmp_ge B 72 dX7_reachable_41 (by decide) (fun e => absurd e c2) (fun _ => ?_)
    refine z_iload_n B dX7_reachable_44 rfl 2 rfl ?_
    refine z_aload_n B dX7_reachable_45 rfl 0 rfl ?_
    refine z_iload_n B dX7_reachable_46 rfl 1 rfl ?_
    refine z_iload_n B dX7_reachable_47 rfl 3 rfl ?_
    obtain ⟨w3, h4, ew3, hf⟩ := zb2s hf
    refine z_callVi B [.int u1, .int v3] [.int v2] cw_X7_costOf mv_RX7_270 (tX7_costOf hst ew3) rfl (by decide) (kfX7_costOf ew3) ⟨rfl, rfl, (Nat.le_of_ble_eq_true rfl), (Nat.le_of_ble_eq_true rfl), (Nat.le_of_ble_eq_true rfl), (Nat.le_of_ble_eq_true rfl)⟩ rfl rfl (Nat.le_of_ble_eq_true rfl) dX7_reachable_48 ?_
    refine z_ldcw B dX7_reachable_51 kc_RX7_269 ?_
    rcases zite hf with ⟨c5, hf⟩ | ⟨c5, hf⟩
    · refine z_icmp_ge B 63 dX7_reachable_54 (by decide) (fun _ => ?_) (fun e => absurd c5 e)
      refine z_iconst (v := 0) B dX7_reachable_63 (by decide) ?_
      refine z_ior B dX7_reachable_64 ?_
      refine z_istore_n (lv' := [(2, .int ((v2 : Int32) ||| 0)), (0, .ref u0), (1, .int u1), (3, .int v3)]) B dX7_reachable_65 rfl (by decide) rfl ?_
      refine z_iinc (v' := (v3 + 1)) (lv' := [(3, .int (v3 + 1)), (2, .int ((v2 : Int32) ||| 0)), (0, .ref u0), (1, .int u1)]) B dX7_reachable_66 3 rfl rfl (by decide) rfl ?_
      refine z_goto B 36 dX7_reachable_69 (by decide) ?_
      refine zV.sub [2, 3, 1, 0] rfl ?_
      exact ih _ _ _ hf
    refine z_icmp_ge B 63 dX7_reachable_54 (by decide) (fun e => absurd e c5) (fun _ => ?_)
    refine z_iconst (v := 1) B dX7_reachable_57 (by decide) ?_
    refine z_iload_n B dX7_reachable_58 rfl 3 rfl ?_
    refine z_ishl B dX7_reachable_59 ?_
    refine z_goto B 64 dX7_reachable_60 (by decide) ?_
    refine z_ior B dX7_reachable_64 ?_
    refine z_istore_n (lv' := [(2, .int ((v2 : Int32) ||| ((1 : Int32) <<< (v3 &&& 31)))), (0, .ref u0), (1, .int u1), (3, .int v3)]) B dX7_reachable_65 rfl (by decide) rfl ?_
    refine z_iinc (v' := (v3 + 1)) (lv' := [(3, .int (v3 + 1)), (2, .int ((v2 : Int32) ||| ((1 : Int32) <<< (v3 &&& 31)))), (0, .ref u0), (1, .int u1)]) B dX7_reachable_66 3 rfl rfl (by decide) rfl ?_
    refine z_goto B 36 dX7_reachable_69 (by decide) ?_
    refine zV.sub [2, 3, 1, 0] rfl ?_
    exact ih _ _ _ hf
set_option maxRecDepth 100000 in
set_option maxHeartbeats 4000000 in
theorem tX7_reachable {l : Launch} {G : zG} (hst : l.stackTraces = false) {h : zH} {a0 : Nat} {a1 : Int32} {r : Int32 × zH} (hf : fX7_reachable h a0 a1 = some r) : zMet l G yX7_reachable (.code yX7_reachable cX7_reachable 4 (some .int)) rm_X7_reachable 0 0 [.ref a0, .int a1] h (zoi r) := by
  unfold fX7_reachable at hf
  obtain ⟨-, hf⟩ := zck hf
  refine z_enter (by decide) (Nat.le_of_ble_eq_true rfl) hst (fun x hx B hE => ?_)
  subst hx
  have B : zB G x cX7_reachable 4 RX7 "reachable" rm_X7_reachable (some .int) := B
  show zV G x 4 (zQ G x (zoi r) 0 0) h 0 0 0 [(0, .ref a0), (1, .int a1)] []
  refine z_aload_n B dX7_reachable_0 rfl 0 rfl ?_
  refine z_aload_n B dX7_reachable_1 rfl 0 rfl ?_
  refine z_iload_n B dX7_reachable_2 rfl 1 rfl ?_
  obtain ⟨w1, h2, ew1, hf⟩ := zb2s hf
  refine z_callVi B [.int a1] [.ref a0] cw_X7_isFormat mv_RX7_214 (tX7_isFormat hst ew1) rfl (by decide) (kfX7_isFormat ew1) ⟨rfl, rfl, (Nat.le_of_ble_eq_true rfl), (Nat.le_of_ble_eq_true rfl), (Nat.le_of_ble_eq_true rfl), (Nat.le_of_ble_eq_true rfl)⟩ rfl rfl (Nat.le_of_ble_eq_true rfl) dX7_reachable_3 ?_
  rcases zite hf with ⟨c3, hf⟩ | ⟨c3, hf⟩
  · refine z_if_eq B 13 dX7_reachable_6 (by decide) (fun _ => ?_) (fun e => absurd c3 e)
    refine z_iconst (v := 1) B dX7_reachable_13 (by decide) ?_
    obtain ⟨w4, h5, ew4, hf⟩ := zb2s hf
    refine z_callVi B [.int 1] [] cw_X7_refused mv_RX7_112 (tX7_refused hst ew4) rfl (by decide) (kfX7_refused ew4) ⟨rfl, rfl, (Nat.le_of_ble_eq_true rfl), (Nat.le_of_ble_eq_true rfl), (Nat.le_of_ble_eq_true rfl), (Nat.le_of_ble_eq_true rfl)⟩ rfl rfl (Nat.le_of_ble_eq_true rfl) dX7_reachable_14 ?_
    rcases zite hf with ⟨c6, hf⟩ | ⟨c6, hf⟩
    · refine z_if_eq B 22 dX7_reachable_17 (by decide) (fun _ => ?_) (fun e => absurd c6 e)
      refine z_aload_n B dX7_reachable_22 rfl 0 rfl ?_
      refine z_aload_n B dX7_reachable_23 rfl 0 rfl ?_
      obtain ⟨w7, ew7, hf⟩ := zbs hf
      refine z_gP B fl_RX7_56 ew7 rfl dX7_reachable_24 ?_
      refine z_bipush (v := (-9)) B dX7_reachable_27 (by decide) ?_
      obtain ⟨h8, eh8, hf⟩ := zbs hf
      refine z_callVv B [.ref w7, .int (-9)] [] cw_X7_layTable mv_RX7_283 (tX7_layTable hst eh8) rfl (by decide) (kfX7_layTable eh8) ⟨rfl, rfl, (Nat.le_of_ble_eq_true rfl), (Nat.le_of_ble_eq_true rfl), (Nat.le_of_ble_eq_true rfl), (Nat.le_of_ble_eq_true rfl)⟩ rfl rfl (Nat.le_of_ble_eq_true rfl) dX7_reachable_29 ?_
      refine z_iconst (v := 0) B dX7_reachable_32 (by decide) ?_
      refine z_istore_n (lv' := [(2, .int 0), (0, .ref a0), (1, .int a1)]) B dX7_reachable_33 rfl (by decide) rfl ?_
      refine z_iconst (v := 0) B dX7_reachable_34 (by decide) ?_
      refine z_istore_n (lv' := [(3, .int 0), (2, .int 0), (0, .ref a0), (1, .int a1)]) B dX7_reachable_35 rfl (by decide) rfl ?_
      refine zV.sub [2, 3, 1, 0] rfl ?_
      refine fX7_reachable_L36_ok B hst hE (fun h9 y10 y11 hf => ?_) _ _ _ _ hf
      refine z_iload_n B dX7_reachable_72 rfl 2 rfl ?_
      cases hf
      exact z_iret B dX7_reachable_73 (Nat.le_of_ble_eq_true rfl) (Nat.le_of_ble_eq_true rfl)
    refine z_if_eq B 22 dX7_reachable_17 (by decide) (fun e => absurd e c6) (fun _ => ?_)
    refine z_iconst (v := 0) B dX7_reachable_20 (by decide) ?_
    cases hf
    exact z_iret B dX7_reachable_21 (Nat.le_of_ble_eq_true rfl) (Nat.le_of_ble_eq_true rfl)
  refine z_if_eq B 13 dX7_reachable_6 (by decide) (fun e => absurd e c3) (fun _ => ?_)
  refine z_iconst (v := 0) B dX7_reachable_9 (by decide) ?_
  refine z_goto B 14 dX7_reachable_10 (by decide) ?_
  obtain ⟨w12, h13, ew12, hf⟩ := zb2s hf
  refine z_callVi B [.int 0] [] cw_X7_refused mv_RX7_112 (tX7_refused hst ew12) rfl (by decide) (kfX7_refused ew12) ⟨rfl, rfl, (Nat.le_of_ble_eq_true rfl), (Nat.le_of_ble_eq_true rfl), (Nat.le_of_ble_eq_true rfl), (Nat.le_of_ble_eq_true rfl)⟩ rfl rfl (Nat.le_of_ble_eq_true rfl) dX7_reachable_14 ?_
  rcases zite hf with ⟨c14, hf⟩ | ⟨c14, hf⟩
  · refine z_if_eq B 22 dX7_reachable_17 (by decide) (fun _ => ?_) (fun e => absurd c14 e)
    refine z_aload_n B dX7_reachable_22 rfl 0 rfl ?_
    refine z_aload_n B dX7_reachable_23 rfl 0 rfl ?_
    obtain ⟨w15, ew15, hf⟩ := zbs hf
    refine z_gP B fl_RX7_56 ew15 rfl dX7_reachable_24 ?_
    refine z_bipush (v := (-9)) B dX7_reachable_27 (by decide) ?_
    obtain ⟨h16, eh16, hf⟩ := zbs hf
    refine z_callVv B [.ref w15, .int (-9)] [] cw_X7_layTable mv_RX7_283 (tX7_layTable hst eh16) rfl (by decide) (kfX7_layTable eh16) ⟨rfl, rfl, (Nat.le_of_ble_eq_true rfl), (Nat.le_of_ble_eq_true rfl), (Nat.le_of_ble_eq_true rfl), (Nat.le_of_ble_eq_true rfl)⟩ rfl rfl (Nat.le_of_ble_eq_true rfl) dX7_reachable_29 ?_
    refine z_iconst (v := 0) B dX7_reachable_32 (by decide) ?_
    refine z_istore_n (lv' := [(2, .int 0), (0, .ref a0), (1, .int a1)]) B dX7_reachable_33 rfl (by decide) rfl ?_
    refine z_iconst (v := 0) B dX7_reachable_34 (by decide) ?_
    refine z_istore_n (lv' := [(3, .int 0), (2, .int 0), (0, .ref a0), (1, .int a1)]) B dX7_reachable_35 rfl (by decide) rfl ?_
    refine zV.sub [2, 3, 1, 0] rfl ?_
    refine fX7_reachable_L36_ok B hst hE (fun h17 y18 y19 hf => ?_) _ _ _ _ hf
    refine z_iload_n B dX7_reachable_72 rfl 2 rfl ?_
    cases hf
    exact z_iret B dX7_reachable_73 (Nat.le_of_ble_eq_true rfl) (Nat.le_of_ble_eq_true rfl)
  refine z_if_eq B 22 dX7_reachable_17 (by decide) (fun e => absurd e c14) (fun _ => ?_)
  refine z_iconst (v := 0) B dX7_reachable_20 (by decide) ?_
  cases hf
  exact z_iret B dX7_reachable_21 (Nat.le_of_ble_eq_true rfl) (Nat.le_of_ble_eq_true rfl)
abbrev rm_X7_without : Room := { frames := 2, cells := 0, slots := 0, locals := 46 }
set_option maxRecDepth 100000 in
set_option maxHeartbeats 4000000 in
theorem tX7_without {l : Launch} {G : zG} (hst : l.stackTraces = false) {h : zH} {a0 : Nat} {a1 : Int32} {a2 : Int32} {a3 : Int32} {r : Int32 × zH} (hf : fX7_without h a0 a1 a2 a3 = some r) : zMet l G yX7_without (.code yX7_without cX7_without 4 (some .int)) rm_X7_without 0 0 [.ref a0, .int a1, .int a2, .int a3] h (zoi r) := by
  unfold fX7_without at hf
  obtain ⟨-, hf⟩ := zck hf
  refine z_enter (by decide) (Nat.le_of_ble_eq_true rfl) hst (fun x hx B hE => ?_)
  subst hx
  have B : zB G x cX7_without 4 RX7 "without" rm_X7_without (some .int) := B
  show zV G x 4 (zQ G x (zoi r) 0 0) h 0 0 0 [(0, .ref a0), (1, .int a1), (2, .int a2), (3, .int a3)] []
  refine z_aload_n B dX7_without_0 rfl 0 rfl ?_
  refine z_aload_n B dX7_without_1 rfl 0 rfl ?_
  refine z_iload_n B dX7_without_2 rfl 1 rfl ?_
  obtain ⟨w1, h2, ew1, hf⟩ := zb2s hf
  refine z_callVi B [.int a1] [.ref a0] cw_X7_isConversion mv_RX7_196 (tX7_isConversion hst ew1) rfl (by decide) (kfX7_isConversion ew1) ⟨rfl, rfl, (Nat.le_of_ble_eq_true rfl), (Nat.le_of_ble_eq_true rfl), (Nat.le_of_ble_eq_true rfl), (Nat.le_of_ble_eq_true rfl)⟩ rfl rfl (Nat.le_of_ble_eq_true rfl) dX7_without_3 ?_
  rcases zite hf with ⟨c3, hf⟩ | ⟨c3, hf⟩
  · refine z_if_eq B 29 dX7_without_6 (by decide) (fun _ => ?_) (fun e => absurd c3 e)
    refine z_iconst (v := 1) B dX7_without_29 (by decide) ?_
    obtain ⟨w4, h5, ew4, hf⟩ := zb2s hf
    refine z_callVi B [.int 1] [] cw_X7_refused mv_RX7_112 (tX7_refused hst ew4) rfl (by decide) (kfX7_refused ew4) ⟨rfl, rfl, (Nat.le_of_ble_eq_true rfl), (Nat.le_of_ble_eq_true rfl), (Nat.le_of_ble_eq_true rfl), (Nat.le_of_ble_eq_true rfl)⟩ rfl rfl (Nat.le_of_ble_eq_true rfl) dX7_without_30 ?_
    rcases zite hf with ⟨c6, hf⟩ | ⟨c6, hf⟩
    · refine z_if_eq B 38 dX7_without_33 (by decide) (fun _ => ?_) (fun e => absurd c6 e)
      refine z_aload_n B dX7_without_38 rfl 0 rfl ?_
      refine z_aload_n B dX7_without_39 rfl 0 rfl ?_
      obtain ⟨w7, ew7, hf⟩ := zbs hf
      refine z_gP B fl_RX7_56 ew7 rfl dX7_without_40 ?_
      refine z_iload_n B dX7_without_43 rfl 1 rfl ?_
      obtain ⟨h8, eh8, hf⟩ := zbs hf
      refine z_callVv B [.ref w7, .int a1] [] cw_X7_layTable mv_RX7_283 (tX7_layTable hst eh8) rfl (by decide) (kfX7_layTable eh8) ⟨rfl, rfl, (Nat.le_of_ble_eq_true rfl), (Nat.le_of_ble_eq_true rfl), (Nat.le_of_ble_eq_true rfl), (Nat.le_of_ble_eq_true rfl)⟩ rfl rfl (Nat.le_of_ble_eq_true rfl) dX7_without_44 ?_
      refine z_aload_n B dX7_without_47 rfl 0 rfl ?_
      refine z_iload_n B dX7_without_48 rfl 2 rfl ?_
      refine z_iload_n B dX7_without_49 rfl 3 rfl ?_
      obtain ⟨w9, h10, ew9, hf⟩ := zb2s hf
      refine z_callVi B [.int a2, .int a3] [] cw_X7_costOf mv_RX7_270 (tX7_costOf hst ew9) rfl (by decide) (kfX7_costOf ew9) ⟨rfl, rfl, (Nat.le_of_ble_eq_true rfl), (Nat.le_of_ble_eq_true rfl), (Nat.le_of_ble_eq_true rfl), (Nat.le_of_ble_eq_true rfl)⟩ rfl rfl (Nat.le_of_ble_eq_true rfl) dX7_without_50 ?_
      refine z_ldcw B dX7_without_53 kc_RX7_269 ?_
      rcases zite hf with ⟨c11, hf⟩ | ⟨c11, hf⟩
      · refine z_icmp_lt B 64 dX7_without_56 (by decide) (fun _ => ?_) (fun e => absurd c11 e)
        refine z_aload_n B dX7_without_64 rfl 0 rfl ?_
        refine z_iload_n B dX7_without_65 rfl 2 rfl ?_
        refine z_iload_n B dX7_without_66 rfl 3 rfl ?_
        obtain ⟨w12, h13, ew12, hf⟩ := zb2s hf
        refine z_callVi B [.int a2, .int a3] [] cw_X7_costOf mv_RX7_270 (tX7_costOf hst ew12) rfl (by decide) (kfX7_costOf ew12) ⟨rfl, rfl, (Nat.le_of_ble_eq_true rfl), (Nat.le_of_ble_eq_true rfl), (Nat.le_of_ble_eq_true rfl), (Nat.le_of_ble_eq_true rfl)⟩ rfl rfl (Nat.le_of_ble_eq_true rfl) dX7_without_67 ?_
        refine z_bipush (v := 16) B dX7_without_70 (by decide) ?_
        refine z_idiv B dX7_without_72 (by decide) ?_
        cases hf
        exact z_iret B dX7_without_73 (Nat.le_of_ble_eq_true rfl) (Nat.le_of_ble_eq_true rfl)
      refine z_icmp_lt B 64 dX7_without_56 (by decide) (fun e => absurd e c11) (fun _ => ?_)
      refine z_bipush (v := (-9)) B dX7_without_59 (by decide) ?_
      refine z_goto B 73 dX7_without_61 (by decide) ?_
      cases hf
      exact z_iret B dX7_without_73 (Nat.le_of_ble_eq_true rfl) (Nat.le_of_ble_eq_true rfl)
    refine z_if_eq B 38 dX7_without_33 (by decide) (fun e => absurd e c6) (fun _ => ?_)
    refine z_iconst (v := 0) B dX7_without_36 (by decide) ?_
    cases hf
    exact z_iret B dX7_without_37 (Nat.le_of_ble_eq_true rfl) (Nat.le_of_ble_eq_true rfl)
  refine z_if_eq B 29 dX7_without_6 (by decide) (fun e => absurd e c3) (fun _ => ?_)
  refine z_aload_n B dX7_without_9 rfl 0 rfl ?_
  refine z_iload_n B dX7_without_10 rfl 2 rfl ?_
  obtain ⟨w14, h15, ew14, hf⟩ := zb2s hf
  refine z_callVi B [.int a2] [.ref a0] cw_X7_isFormat mv_RX7_214 (tX7_isFormat hst ew14) rfl (by decide) (kfX7_isFormat ew14) ⟨rfl, rfl, (Nat.le_of_ble_eq_true rfl), (Nat.le_of_ble_eq_true rfl), (Nat.le_of_ble_eq_true rfl), (Nat.le_of_ble_eq_true rfl)⟩ rfl rfl (Nat.le_of_ble_eq_true rfl) dX7_without_11 ?_
  rcases zite hf with ⟨c16, hf⟩ | ⟨c16, hf⟩
  · refine z_if_eq B 29 dX7_without_14 (by decide) (fun _ => ?_) (fun e => absurd c16 e)
    refine z_iconst (v := 1) B dX7_without_29 (by decide) ?_
    obtain ⟨w17, h18, ew17, hf⟩ := zb2s hf
    refine z_callVi B [.int 1] [] cw_X7_refused mv_RX7_112 (tX7_refused hst ew17) rfl (by decide) (kfX7_refused ew17) ⟨rfl, rfl, (Nat.le_of_ble_eq_true rfl), (Nat.le_of_ble_eq_true rfl), (Nat.le_of_ble_eq_true rfl), (Nat.le_of_ble_eq_true rfl)⟩ rfl rfl (Nat.le_of_ble_eq_true rfl) dX7_without_30 ?_
    rcases zite hf with ⟨c19, hf⟩ | ⟨c19, hf⟩
    · refine z_if_eq B 38 dX7_without_33 (by decide) (fun _ => ?_) (fun e => absurd c19 e)
      refine z_aload_n B dX7_without_38 rfl 0 rfl ?_
      refine z_aload_n B dX7_without_39 rfl 0 rfl ?_
      obtain ⟨w20, ew20, hf⟩ := zbs hf
      refine z_gP B fl_RX7_56 ew20 rfl dX7_without_40 ?_
      refine z_iload_n B dX7_without_43 rfl 1 rfl ?_
      obtain ⟨h21, eh21, hf⟩ := zbs hf
      refine z_callVv B [.ref w20, .int a1] [] cw_X7_layTable mv_RX7_283 (tX7_layTable hst eh21) rfl (by decide) (kfX7_layTable eh21) ⟨rfl, rfl, (Nat.le_of_ble_eq_true rfl), (Nat.le_of_ble_eq_true rfl), (Nat.le_of_ble_eq_true rfl), (Nat.le_of_ble_eq_true rfl)⟩ rfl rfl (Nat.le_of_ble_eq_true rfl) dX7_without_44 ?_
      refine z_aload_n B dX7_without_47 rfl 0 rfl ?_
      refine z_iload_n B dX7_without_48 rfl 2 rfl ?_
      refine z_iload_n B dX7_without_49 rfl 3 rfl ?_
      obtain ⟨w22, h23, ew22, hf⟩ := zb2s hf
      refine z_callVi B [.int a2, .int a3] [] cw_X7_costOf mv_RX7_270 (tX7_costOf hst ew22) rfl (by decide) (kfX7_costOf ew22) ⟨rfl, rfl, (Nat.le_of_ble_eq_true rfl), (Nat.le_of_ble_eq_true rfl), (Nat.le_of_ble_eq_true rfl), (Nat.le_of_ble_eq_true rfl)⟩ rfl rfl (Nat.le_of_ble_eq_true rfl) dX7_without_50 ?_
      refine z_ldcw B dX7_without_53 kc_RX7_269 ?_
      rcases zite hf with ⟨c24, hf⟩ | ⟨c24, hf⟩
      · refine z_icmp_lt B 64 dX7_without_56 (by decide) (fun _ => ?_) (fun e => absurd c24 e)
        refine z_aload_n B dX7_without_64 rfl 0 rfl ?_
        refine z_iload_n B dX7_without_65 rfl 2 rfl ?_
        refine z_iload_n B dX7_without_66 rfl 3 rfl ?_
        obtain ⟨w25, h26, ew25, hf⟩ := zb2s hf
        refine z_callVi B [.int a2, .int a3] [] cw_X7_costOf mv_RX7_270 (tX7_costOf hst ew25) rfl (by decide) (kfX7_costOf ew25) ⟨rfl, rfl, (Nat.le_of_ble_eq_true rfl), (Nat.le_of_ble_eq_true rfl), (Nat.le_of_ble_eq_true rfl), (Nat.le_of_ble_eq_true rfl)⟩ rfl rfl (Nat.le_of_ble_eq_true rfl) dX7_without_67 ?_
        refine z_bipush (v := 16) B dX7_without_70 (by decide) ?_
        refine z_idiv B dX7_without_72 (by decide) ?_
        cases hf
        exact z_iret B dX7_without_73 (Nat.le_of_ble_eq_true rfl) (Nat.le_of_ble_eq_true rfl)
      refine z_icmp_lt B 64 dX7_without_56 (by decide) (fun e => absurd e c24) (fun _ => ?_)
      refine z_bipush (v := (-9)) B dX7_without_59 (by decide) ?_
      refine z_goto B 73 dX7_without_61 (by decide) ?_
      cases hf
      exact z_iret B dX7_without_73 (Nat.le_of_ble_eq_true rfl) (Nat.le_of_ble_eq_true rfl)
    refine z_if_eq B 38 dX7_without_33 (by decide) (fun e => absurd e c19) (fun _ => ?_)
    refine z_iconst (v := 0) B dX7_without_36 (by decide) ?_
    cases hf
    exact z_iret B dX7_without_37 (Nat.le_of_ble_eq_true rfl) (Nat.le_of_ble_eq_true rfl)
  refine z_if_eq B 29 dX7_without_14 (by decide) (fun e => absurd e c16) (fun _ => ?_)
  refine z_aload_n B dX7_without_17 rfl 0 rfl ?_
  refine z_iload_n B dX7_without_18 rfl 3 rfl ?_
  obtain ⟨w27, h28, ew27, hf⟩ := zb2s hf
  refine z_callVi B [.int a3] [.ref a0] cw_X7_isFormat mv_RX7_214 (tX7_isFormat hst ew27) rfl (by decide) (kfX7_isFormat ew27) ⟨rfl, rfl, (Nat.le_of_ble_eq_true rfl), (Nat.le_of_ble_eq_true rfl), (Nat.le_of_ble_eq_true rfl), (Nat.le_of_ble_eq_true rfl)⟩ rfl rfl (Nat.le_of_ble_eq_true rfl) dX7_without_19 ?_
  rcases zite hf with ⟨c29, hf⟩ | ⟨c29, hf⟩
  · refine z_if_eq B 29 dX7_without_22 (by decide) (fun _ => ?_) (fun e => absurd c29 e)
    refine z_iconst (v := 1) B dX7_without_29 (by decide) ?_
    obtain ⟨w30, h31, ew30, hf⟩ := zb2s hf
    refine z_callVi B [.int 1] [] cw_X7_refused mv_RX7_112 (tX7_refused hst ew30) rfl (by decide) (kfX7_refused ew30) ⟨rfl, rfl, (Nat.le_of_ble_eq_true rfl), (Nat.le_of_ble_eq_true rfl), (Nat.le_of_ble_eq_true rfl), (Nat.le_of_ble_eq_true rfl)⟩ rfl rfl (Nat.le_of_ble_eq_true rfl) dX7_without_30 ?_
    rcases zite hf with ⟨c32, hf⟩ | ⟨c32, hf⟩
    · refine z_if_eq B 38 dX7_without_33 (by decide) (fun _ => ?_) (fun e => absurd c32 e)
      refine z_aload_n B dX7_without_38 rfl 0 rfl ?_
      refine z_aload_n B dX7_without_39 rfl 0 rfl ?_
      obtain ⟨w33, ew33, hf⟩ := zbs hf
      refine z_gP B fl_RX7_56 ew33 rfl dX7_without_40 ?_
      refine z_iload_n B dX7_without_43 rfl 1 rfl ?_
      obtain ⟨h34, eh34, hf⟩ := zbs hf
      refine z_callVv B [.ref w33, .int a1] [] cw_X7_layTable mv_RX7_283 (tX7_layTable hst eh34) rfl (by decide) (kfX7_layTable eh34) ⟨rfl, rfl, (Nat.le_of_ble_eq_true rfl), (Nat.le_of_ble_eq_true rfl), (Nat.le_of_ble_eq_true rfl), (Nat.le_of_ble_eq_true rfl)⟩ rfl rfl (Nat.le_of_ble_eq_true rfl) dX7_without_44 ?_
      refine z_aload_n B dX7_without_47 rfl 0 rfl ?_
      refine z_iload_n B dX7_without_48 rfl 2 rfl ?_
      refine z_iload_n B dX7_without_49 rfl 3 rfl ?_
      obtain ⟨w35, h36, ew35, hf⟩ := zb2s hf
      refine z_callVi B [.int a2, .int a3] [] cw_X7_costOf mv_RX7_270 (tX7_costOf hst ew35) rfl (by decide) (kfX7_costOf ew35) ⟨rfl, rfl, (Nat.le_of_ble_eq_true rfl), (Nat.le_of_ble_eq_true rfl), (Nat.le_of_ble_eq_true rfl), (Nat.le_of_ble_eq_true rfl)⟩ rfl rfl (Nat.le_of_ble_eq_true rfl) dX7_without_50 ?_
      refine z_ldcw B dX7_without_53 kc_RX7_269 ?_
      rcases zite hf with ⟨c37, hf⟩ | ⟨c37, hf⟩
      · refine z_icmp_lt B 64 dX7_without_56 (by decide) (fun _ => ?_) (fun e => absurd c37 e)
        refine z_aload_n B dX7_without_64 rfl 0 rfl ?_
        refine z_iload_n B dX7_without_65 rfl 2 rfl ?_
        refine z_iload_n B dX7_without_66 rfl 3 rfl ?_
        obtain ⟨w38, h39, ew38, hf⟩ := zb2s hf
        refine z_callVi B [.int a2, .int a3] [] cw_X7_costOf mv_RX7_270 (tX7_costOf hst ew38) rfl (by decide) (kfX7_costOf ew38) ⟨rfl, rfl, (Nat.le_of_ble_eq_true rfl), (Nat.le_of_ble_eq_true rfl), (Nat.le_of_ble_eq_true rfl), (Nat.le_of_ble_eq_true rfl)⟩ rfl rfl (Nat.le_of_ble_eq_true rfl) dX7_without_67 ?_
        refine z_bipush (v := 16) B dX7_without_70 (by decide) ?_
        refine z_idiv B dX7_without_72 (by decide) ?_
        cases hf
        exact z_iret B dX7_without_73 (Nat.le_of_ble_eq_true rfl) (Nat.le_of_ble_eq_true rfl)
      refine z_icmp_lt B 64 dX7_without_56 (by decide) (fun e => absurd e c37) (fun _ => ?_)
      refine z_bipush (v := (-9)) B dX7_without_59 (by decide) ?_
      refine z_goto B 73 dX7_without_61 (by decide) ?_
      cases hf
      exact z_iret B dX7_without_73 (Nat.le_of_ble_eq_true rfl) (Nat.le_of_ble_eq_true rfl)
    refine z_if_eq B 38 dX7_without_33 (by decide) (fun e => absurd e c32) (fun _ => ?_)
    refine z_iconst (v := 0) B dX7_without_36 (by decide) ?_
    cases hf
    exact z_iret B dX7_without_37 (Nat.le_of_ble_eq_true rfl) (Nat.le_of_ble_eq_true rfl)
  refine z_if_eq B 29 dX7_without_22 (by decide) (fun e => absurd e c29) (fun _ => ?_)
  refine z_iconst (v := 0) B dX7_without_25 (by decide) ?_
  refine z_goto B 30 dX7_without_26 (by decide) ?_
  obtain ⟨w40, h41, ew40, hf⟩ := zb2s hf
  refine z_callVi B [.int 0] [] cw_X7_refused mv_RX7_112 (tX7_refused hst ew40) rfl (by decide) (kfX7_refused ew40) ⟨rfl, rfl, (Nat.le_of_ble_eq_true rfl), (Nat.le_of_ble_eq_true rfl), (Nat.le_of_ble_eq_true rfl), (Nat.le_of_ble_eq_true rfl)⟩ rfl rfl (Nat.le_of_ble_eq_true rfl) dX7_without_30 ?_
  rcases zite hf with ⟨c42, hf⟩ | ⟨c42, hf⟩
  · refine z_if_eq B 38 dX7_without_33 (by decide) (fun _ => ?_) (fun e => absurd c42 e)
    refine z_aload_n B dX7_without_38 rfl 0 rfl ?_
    refine z_aload_n B dX7_without_39 rfl 0 rfl ?_
    obtain ⟨w43, ew43, hf⟩ := zbs hf
    refine z_gP B fl_RX7_56 ew43 rfl dX7_without_40 ?_
    refine z_iload_n B dX7_without_43 rfl 1 rfl ?_
    obtain ⟨h44, eh44, hf⟩ := zbs hf
    refine z_callVv B [.ref w43, .int a1] [] cw_X7_layTable mv_RX7_283 (tX7_layTable hst eh44) rfl (by decide) (kfX7_layTable eh44) ⟨rfl, rfl, (Nat.le_of_ble_eq_true rfl), (Nat.le_of_ble_eq_true rfl), (Nat.le_of_ble_eq_true rfl), (Nat.le_of_ble_eq_true rfl)⟩ rfl rfl (Nat.le_of_ble_eq_true rfl) dX7_without_44 ?_
    refine z_aload_n B dX7_without_47 rfl 0 rfl ?_
    refine z_iload_n B dX7_without_48 rfl 2 rfl ?_
    refine z_iload_n B dX7_without_49 rfl 3 rfl ?_
    obtain ⟨w45, h46, ew45, hf⟩ := zb2s hf
    refine z_callVi B [.int a2, .int a3] [] cw_X7_costOf mv_RX7_270 (tX7_costOf hst ew45) rfl (by decide) (kfX7_costOf ew45) ⟨rfl, rfl, (Nat.le_of_ble_eq_true rfl), (Nat.le_of_ble_eq_true rfl), (Nat.le_of_ble_eq_true rfl), (Nat.le_of_ble_eq_true rfl)⟩ rfl rfl (Nat.le_of_ble_eq_true rfl) dX7_without_50 ?_
    refine z_ldcw B dX7_without_53 kc_RX7_269 ?_
    rcases zite hf with ⟨c47, hf⟩ | ⟨c47, hf⟩
    · refine z_icmp_lt B 64 dX7_without_56 (by decide) (fun _ => ?_) (fun e => absurd c47 e)
      refine z_aload_n B dX7_without_64 rfl 0 rfl ?_
      refine z_iload_n B dX7_without_65 rfl 2 rfl ?_
      refine z_iload_n B dX7_without_66 rfl 3 rfl ?_
      obtain ⟨w48, h49, ew48, hf⟩ := zb2s hf
      refine z_callVi B [.int a2, .int a3] [] cw_X7_costOf mv_RX7_270 (tX7_costOf hst ew48) rfl (by decide) (kfX7_costOf ew48) ⟨rfl, rfl, (Nat.le_of_ble_eq_true rfl), (Nat.le_of_ble_eq_true rfl), (Nat.le_of_ble_eq_true rfl), (Nat.le_of_ble_eq_true rfl)⟩ rfl rfl (Nat.le_of_ble_eq_true rfl) dX7_without_67 ?_
      refine z_bipush (v := 16) B dX7_without_70 (by decide) ?_
      refine z_idiv B dX7_without_72 (by decide) ?_
      cases hf
      exact z_iret B dX7_without_73 (Nat.le_of_ble_eq_true rfl) (Nat.le_of_ble_eq_true rfl)
    refine z_icmp_lt B 64 dX7_without_56 (by decide) (fun e => absurd e c47) (fun _ => ?_)
    refine z_bipush (v := (-9)) B dX7_without_59 (by decide) ?_
    refine z_goto B 73 dX7_without_61 (by decide) ?_
    cases hf
    exact z_iret B dX7_without_73 (Nat.le_of_ble_eq_true rfl) (Nat.le_of_ble_eq_true rfl)
  refine z_if_eq B 38 dX7_without_33 (by decide) (fun e => absurd e c42) (fun _ => ?_)
  refine z_iconst (v := 0) B dX7_without_36 (by decide) ?_
  cases hf
  exact z_iret B dX7_without_37 (Nat.le_of_ble_eq_true rfl) (Nat.le_of_ble_eq_true rfl)
abbrev rm_X7_worthOf : Room := { frames := 1, cells := 0, slots := 0, locals := 26 }
set_option maxRecDepth 100000 in
set_option maxHeartbeats 4000000 in
theorem tX7_worthOf {l : Launch} {G : zG} (hst : l.stackTraces = false) {h : zH} {a0 : Nat} {a1 : Int32} {r : Int32 × zH} (hf : fX7_worthOf h a0 a1 = some r) : zMet l G yX7_worthOf (.code yX7_worthOf cX7_worthOf 3 (some .int)) rm_X7_worthOf 0 0 [.ref a0, .int a1] h (zoi r) := by
  unfold fX7_worthOf at hf
  obtain ⟨-, hf⟩ := zck hf
  refine z_enter (by decide) (Nat.le_of_ble_eq_true rfl) hst (fun x hx B hE => ?_)
  subst hx
  have B : zB G x cX7_worthOf 3 RX7 "worthOf" rm_X7_worthOf (some .int) := B
  show zV G x 3 (zQ G x (zoi r) 0 0) h 0 0 0 [(0, .ref a0), (1, .int a1)] []
  refine z_aload_n B dX7_worthOf_0 rfl 0 rfl ?_
  refine z_aload_n B dX7_worthOf_1 rfl 0 rfl ?_
  obtain ⟨w1, ew1, hf⟩ := zbs hf
  refine z_gP B fl_RX7_56 ew1 rfl dX7_worthOf_2 ?_
  refine z_iload_n B dX7_worthOf_5 rfl 1 rfl ?_
  obtain ⟨h2, eh2, hf⟩ := zbs hf
  refine z_callVv B [.ref w1, .int a1] [] cw_X7_layTable mv_RX7_283 (tX7_layTable hst eh2) rfl (by decide) (kfX7_layTable eh2) ⟨rfl, rfl, (Nat.le_of_ble_eq_true rfl), (Nat.le_of_ble_eq_true rfl), (Nat.le_of_ble_eq_true rfl), (Nat.le_of_ble_eq_true rfl)⟩ rfl rfl (Nat.le_of_ble_eq_true rfl) dX7_worthOf_6 ?_
  refine z_aload_n B dX7_worthOf_9 rfl 0 rfl ?_
  refine z_aload_n B dX7_worthOf_10 rfl 0 rfl ?_
  obtain ⟨w3, ew3, hf⟩ := zbs hf
  refine z_gP B fl_RX7_17 ew3 rfl dX7_worthOf_11 ?_
  refine z_iload_n B dX7_worthOf_14 rfl 1 rfl ?_
  obtain ⟨w4, ew4, hf⟩ := zbs hf
  refine z_aI B ew4 dX7_worthOf_15 ?_
  refine z_aload_n B dX7_worthOf_16 rfl 0 rfl ?_
  obtain ⟨w5, ew5, hf⟩ := zbs hf
  refine z_gP B fl_RX7_20 ew5 rfl dX7_worthOf_17 ?_
  refine z_iload_n B dX7_worthOf_20 rfl 1 rfl ?_
  obtain ⟨w6, ew6, hf⟩ := zbs hf
  refine z_aI B ew6 dX7_worthOf_21 ?_
  obtain ⟨w7, h8, ew7, hf⟩ := zb2s hf
  refine z_callVi B [.int w4, .int w6] [] cw_X7_costOf mv_RX7_270 (tX7_costOf hst ew7) rfl (by decide) (kfX7_costOf ew7) ⟨rfl, rfl, (Nat.le_of_ble_eq_true rfl), (Nat.le_of_ble_eq_true rfl), (Nat.le_of_ble_eq_true rfl), (Nat.le_of_ble_eq_true rfl)⟩ rfl rfl (Nat.le_of_ble_eq_true rfl) dX7_worthOf_22 ?_
  refine z_istore_n (lv' := [(2, .int w7), (0, .ref a0), (1, .int a1)]) B dX7_worthOf_25 rfl (by decide) rfl ?_
  refine z_iload_n B dX7_worthOf_26 rfl 0 rfl ?_
  refine z_ldcw B dX7_worthOf_27 kc_RX7_269 ?_
  rcases zite hf with ⟨c9, hf⟩ | ⟨c9, hf⟩
  · refine z_icmp_ge B 42 dX7_worthOf_30 (by decide) (fun _ => ?_) (fun e => absurd c9 e)
    refine z_bipush (v := 99) B dX7_worthOf_42 (by decide) ?_
    refine z_goto B 51 dX7_worthOf_44 (by decide) ?_
    cases hf
    exact z_iret B dX7_worthOf_51 (Nat.le_of_ble_eq_true rfl) (Nat.le_of_ble_eq_true rfl)
  refine z_icmp_ge B 42 dX7_worthOf_30 (by decide) (fun e => absurd e c9) (fun _ => ?_)
  refine z_iload_n B dX7_worthOf_33 rfl 0 rfl ?_
  refine z_bipush (v := 16) B dX7_worthOf_34 (by decide) ?_
  refine z_idiv B dX7_worthOf_36 (by decide) ?_
  refine z_bipush (v := 99) B dX7_worthOf_37 (by decide) ?_
  rcases zite hf with ⟨c10, hf⟩ | ⟨c10, hf⟩
  · refine z_icmp_le B 47 dX7_worthOf_39 (by decide) (fun _ => ?_) (fun e => absurd c10 e)
    refine z_iload_n B dX7_worthOf_47 rfl 0 rfl ?_
    refine z_bipush (v := 16) B dX7_worthOf_48 (by decide) ?_
    refine z_idiv B dX7_worthOf_50 (by decide) ?_
    cases hf
    exact z_iret B dX7_worthOf_51 (Nat.le_of_ble_eq_true rfl) (Nat.le_of_ble_eq_true rfl)
  refine z_icmp_le B 47 dX7_worthOf_39 (by decide) (fun e => absurd e c10) (fun _ => ?_)
  refine z_bipush (v := 99) B dX7_worthOf_42 (by decide) ?_
  refine z_goto B 51 dX7_worthOf_44 (by decide) ?_
  cases hf
  exact z_iret B dX7_worthOf_51 (Nat.le_of_ble_eq_true rfl) (Nat.le_of_ble_eq_true rfl)
abbrev rm_X7_worth : Room := { frames := 2, cells := 0, slots := 0, locals := 48 }
set_option maxRecDepth 100000 in
set_option maxHeartbeats 4000000 in
theorem tX7_worth {l : Launch} {G : zG} (hst : l.stackTraces = false) {h : zH} {a0 : Nat} {a1 : Int32} {r : Int32 × zH} (hf : fX7_worth h a0 a1 = some r) : zMet l G yX7_worth (.code yX7_worth cX7_worth 2 (some .int)) rm_X7_worth 0 0 [.ref a0, .int a1] h (zoi r) := by
  unfold fX7_worth at hf
  obtain ⟨-, hf⟩ := zck hf
  refine z_enter (by decide) (Nat.le_of_ble_eq_true rfl) hst (fun x hx B hE => ?_)
  subst hx
  have B : zB G x cX7_worth 2 RX7 "worth" rm_X7_worth (some .int) := B
  show zV G x 2 (zQ G x (zoi r) 0 0) h 0 0 0 [(0, .ref a0), (1, .int a1)] []
  refine z_aload_n B dX7_worth_0 rfl 0 rfl ?_
  refine z_aload_n B dX7_worth_1 rfl 0 rfl ?_
  refine z_iload_n B dX7_worth_2 rfl 1 rfl ?_
  obtain ⟨w1, h2, ew1, hf⟩ := zb2s hf
  refine z_callVi B [.int a1] [.ref a0] cw_X7_isConversion mv_RX7_196 (tX7_isConversion hst ew1) rfl (by decide) (kfX7_isConversion ew1) ⟨rfl, rfl, (Nat.le_of_ble_eq_true rfl), (Nat.le_of_ble_eq_true rfl), (Nat.le_of_ble_eq_true rfl), (Nat.le_of_ble_eq_true rfl)⟩ rfl rfl (Nat.le_of_ble_eq_true rfl) dX7_worth_3 ?_
  rcases zite hf with ⟨c3, hf⟩ | ⟨c3, hf⟩
  · refine z_if_eq B 13 dX7_worth_6 (by decide) (fun _ => ?_) (fun e => absurd c3 e)
    refine z_iconst (v := 1) B dX7_worth_13 (by decide) ?_
    obtain ⟨w4, h5, ew4, hf⟩ := zb2s hf
    refine z_callVi B [.int 1] [] cw_X7_refused mv_RX7_112 (tX7_refused hst ew4) rfl (by decide) (kfX7_refused ew4) ⟨rfl, rfl, (Nat.le_of_ble_eq_true rfl), (Nat.le_of_ble_eq_true rfl), (Nat.le_of_ble_eq_true rfl), (Nat.le_of_ble_eq_true rfl)⟩ rfl rfl (Nat.le_of_ble_eq_true rfl) dX7_worth_14 ?_
    rcases zite hf with ⟨c6, hf⟩ | ⟨c6, hf⟩
    · refine z_if_eq B 22 dX7_worth_17 (by decide) (fun _ => ?_) (fun e => absurd c6 e)
      refine z_aload_n B dX7_worth_22 rfl 0 rfl ?_
      refine z_iload_n B dX7_worth_23 rfl 1 rfl ?_
      obtain ⟨w7, h8, ew7, hf⟩ := zb2s hf
      refine z_callVi B [.int a1] [] cw_X7_worthOf mv_RX7_293 (tX7_worthOf hst ew7) rfl (by decide) (kfX7_worthOf ew7) ⟨rfl, rfl, (Nat.le_of_ble_eq_true rfl), (Nat.le_of_ble_eq_true rfl), (Nat.le_of_ble_eq_true rfl), (Nat.le_of_ble_eq_true rfl)⟩ rfl rfl (Nat.le_of_ble_eq_true rfl) dX7_worth_24 ?_
      cases hf
      exact z_iret B dX7_worth_27 (Nat.le_of_ble_eq_true rfl) (Nat.le_of_ble_eq_true rfl)
    refine z_if_eq B 22 dX7_worth_17 (by decide) (fun e => absurd e c6) (fun _ => ?_)
    refine z_iconst (v := 0) B dX7_worth_20 (by decide) ?_
    cases hf
    exact z_iret B dX7_worth_21 (Nat.le_of_ble_eq_true rfl) (Nat.le_of_ble_eq_true rfl)
  refine z_if_eq B 13 dX7_worth_6 (by decide) (fun e => absurd e c3) (fun _ => ?_)
  refine z_iconst (v := 0) B dX7_worth_9 (by decide) ?_
  refine z_goto B 14 dX7_worth_10 (by decide) ?_
  obtain ⟨w9, h10, ew9, hf⟩ := zb2s hf
  refine z_callVi B [.int 0] [] cw_X7_refused mv_RX7_112 (tX7_refused hst ew9) rfl (by decide) (kfX7_refused ew9) ⟨rfl, rfl, (Nat.le_of_ble_eq_true rfl), (Nat.le_of_ble_eq_true rfl), (Nat.le_of_ble_eq_true rfl), (Nat.le_of_ble_eq_true rfl)⟩ rfl rfl (Nat.le_of_ble_eq_true rfl) dX7_worth_14 ?_
  rcases zite hf with ⟨c11, hf⟩ | ⟨c11, hf⟩
  · refine z_if_eq B 22 dX7_worth_17 (by decide) (fun _ => ?_) (fun e => absurd c11 e)
    refine z_aload_n B dX7_worth_22 rfl 0 rfl ?_
    refine z_iload_n B dX7_worth_23 rfl 1 rfl ?_
    obtain ⟨w12, h13, ew12, hf⟩ := zb2s hf
    refine z_callVi B [.int a1] [] cw_X7_worthOf mv_RX7_293 (tX7_worthOf hst ew12) rfl (by decide) (kfX7_worthOf ew12) ⟨rfl, rfl, (Nat.le_of_ble_eq_true rfl), (Nat.le_of_ble_eq_true rfl), (Nat.le_of_ble_eq_true rfl), (Nat.le_of_ble_eq_true rfl)⟩ rfl rfl (Nat.le_of_ble_eq_true rfl) dX7_worth_24 ?_
    cases hf
    exact z_iret B dX7_worth_27 (Nat.le_of_ble_eq_true rfl) (Nat.le_of_ble_eq_true rfl)
  refine z_if_eq B 22 dX7_worth_17 (by decide) (fun e => absurd e c11) (fun _ => ?_)
  refine z_iconst (v := 0) B dX7_worth_20 (by decide) ?_
  cases hf
  exact z_iret B dX7_worth_21 (Nat.le_of_ble_eq_true rfl) (Nat.le_of_ble_eq_true rfl)
abbrev rm_X7_idle : Room := { frames := 2, cells := 0, slots := 0, locals := 48 }
set_option maxRecDepth 100000 in
set_option maxHeartbeats 4000000 in
theorem fX7_idle_L9_ok {G : zG} {x : zX} (B : zB G x cX7_idle 3 RX7 "idle" rm_X7_idle (some .int)) (hst : (zl x).stackTraces = false) (hE : ∀ e ∈ (zc x).exceptionTable.toList, False) {r : Int32 × zH} {k : zH → Int32 → Int32 → Option (Int32 × zH)} {u0 : Nat} (hk : ∀ h v1 v2, k h v1 v2 = some r → zV G x 3 (zQ G x (zoi r) 0 0) h 0 0 49 [(0, .ref u0), (1, .int v1), (2, .int v2)] []) : ∀ n h v1 v2, fX7_idle_L9 k u0 n h v1 v2 = some r → zV G x 3 (zQ G x (zoi r) 0 0) h 0 0 9 [(0, .ref u0), (1, .int v1), (2, .int v2)] [] := by
  intro n
  induction n with
  | zero =>
    intro h v1 v2 hf
    have hf : (none : Option (Int32 × zH)) = some r := hf
    cases hf
  | succ n ih =>
    intro h v1 v2 hf
    rw [fX7_idle_L9] at hf
    refine z_iload_n B dX7_idle_9 rfl 2 rfl ?_
    refine z_aload_n B dX7_idle_10 rfl 0 rfl ?_
    obtain ⟨w1, ew1, hf⟩ := zbs hf
    refine z_gI B fl_RX7_101 ew1 rfl dX7_idle_11 ?_
    rcases zite hf with ⟨c2, hf⟩ | ⟨c2, hf⟩
    · refine z_icmp_ge B 49 dX7_idle_14 (by decide) (fun _ => ?_) (fun e => absurd c2 e)
      exact hk _ _ _ hf
    refine z_icmp_ge B 49 dX7_idle_14 (by decide) (fun e => absurd e c2) (fun _ => ?_)
    refine z_iload_n B dX7_idle_17 rfl 1 rfl ?_
    refine z_aload_n B dX7_idle_18 rfl 0 rfl ?_
    obtain ⟨w3, ew3, hf⟩ := zbs hf
    refine z_gP B fl_RX7_56 ew3 rfl dX7_idle_19 ?_
    refine z_iconst (v := 4) B dX7_idle_22 (by decide) ?_
    refine z_iload_n B dX7_idle_23 rfl 2 rfl ?_
    refine z_iadd B dX7_idle_24 ?_
    obtain ⟨w4, ew4, hf⟩ := zbs hf
    refine z_aI B ew4 dX7_idle_25 ?_
    refine z_aload_n B dX7_idle_26 rfl 0 rfl ?_
    refine z_iload_n B dX7_idle_27 rfl 2 rfl ?_
    obtain ⟨w5, h6, ew5, hf⟩ := zb2s hf
    refine z_callVi B [.int v2] [.int w4, .int v1] cw_X7_worthOf mv_RX7_293 (tX7_worthOf hst ew5) rfl (by decide) (kfX7_worthOf ew5) ⟨rfl, rfl, (Nat.le_of_ble_eq_true rfl), (Nat.le_of_ble_eq_true rfl), (Nat.le_of_ble_eq_true rfl), (Nat.le_of_ble_eq_true rfl)⟩ rfl rfl (Nat.le_of_ble_eq_true rfl) dX7_idle_28 ?_
    rcases zite hf with ⟨c7, hf⟩ | ⟨c7, hf⟩
    · refine z_icmp_le B 40 dX7_idle_31 (by decide) (fun _ => ?_) (fun e => absurd c7 e)
      refine z_iconst (v := 0) B dX7_idle_40 (by decide) ?_
      refine z_ior B dX7_idle_41 ?_
      refine z_istore_n (lv' := [(1, .int ((v1 : Int32) ||| 0)), (0, .ref u0), (2, .int v2)]) B dX7_idle_42 rfl (by decide) rfl ?_
      refine z_iinc (v' := (v2 + 1)) (lv' := [(2, .int (v2 + 1)), (1, .int ((v1 : Int32) ||| 0)), (0, .ref u0)]) B dX7_idle_43 2 rfl rfl (by decide) rfl ?_
      refine z_goto B 9 dX7_idle_46 (by decide) ?_
      refine zV.sub [2, 1, 0] rfl ?_
      exact ih _ _ _ hf
    refine z_icmp_le B 40 dX7_idle_31 (by decide) (fun e => absurd e c7) (fun _ => ?_)
    refine z_iconst (v := 1) B dX7_idle_34 (by decide) ?_
    refine z_iload_n B dX7_idle_35 rfl 2 rfl ?_
    refine z_ishl B dX7_idle_36 ?_
    refine z_goto B 41 dX7_idle_37 (by decide) ?_
    refine z_ior B dX7_idle_41 ?_
    refine z_istore_n (lv' := [(1, .int ((v1 : Int32) ||| ((1 : Int32) <<< (v2 &&& 31)))), (0, .ref u0), (2, .int v2)]) B dX7_idle_42 rfl (by decide) rfl ?_
    refine z_iinc (v' := (v2 + 1)) (lv' := [(2, .int (v2 + 1)), (1, .int ((v1 : Int32) ||| ((1 : Int32) <<< (v2 &&& 31)))), (0, .ref u0)]) B dX7_idle_43 2 rfl rfl (by decide) rfl ?_
    refine z_goto B 9 dX7_idle_46 (by decide) ?_
    refine zV.sub [2, 1, 0] rfl ?_
    exact ih _ _ _ hf
set_option maxRecDepth 100000 in
set_option maxHeartbeats 4000000 in
theorem tX7_idle {l : Launch} {G : zG} (hst : l.stackTraces = false) {h : zH} {a0 : Nat} {r : Int32 × zH} (hf : fX7_idle h a0 = some r) : zMet l G yX7_idle (.code yX7_idle cX7_idle 3 (some .int)) rm_X7_idle 0 0 [.ref a0] h (zoi r) := by
  unfold fX7_idle at hf
  obtain ⟨-, hf⟩ := zck hf
  refine z_enter (by decide) (Nat.le_of_ble_eq_true rfl) hst (fun x hx B hE => ?_)
  subst hx
  have B : zB G x cX7_idle 3 RX7 "idle" rm_X7_idle (some .int) := B
  show zV G x 3 (zQ G x (zoi r) 0 0) h 0 0 0 [(0, .ref a0)] []
  refine z_aload_n B dX7_idle_0 rfl 0 rfl ?_
  refine z_iconst (v := 0) B dX7_idle_1 (by decide) ?_
  obtain ⟨h1, eh1, hf⟩ := zbs hf
  refine z_pI B fl_RX7_84 eh1 rfl dX7_idle_2 ?_
  refine z_iconst (v := 0) B dX7_idle_5 (by decide) ?_
  refine z_istore_n (lv' := [(1, .int 0), (0, .ref a0)]) B dX7_idle_6 rfl (by decide) rfl ?_
  refine z_iconst (v := 0) B dX7_idle_7 (by decide) ?_
  refine z_istore_n (lv' := [(2, .int 0), (1, .int 0), (0, .ref a0)]) B dX7_idle_8 rfl (by decide) rfl ?_
  refine zV.sub [2, 1, 0] rfl ?_
  refine fX7_idle_L9_ok B hst hE (fun h2 y3 y4 hf => ?_) _ _ _ _ hf
  refine z_iload_n B dX7_idle_49 rfl 1 rfl ?_
  cases hf
  exact z_iret B dX7_idle_50 (Nat.le_of_ble_eq_true rfl) (Nat.le_of_ble_eq_true rfl)
abbrev rm_X7_passesBy : Room := { frames := 2, cells := 0, slots := 0, locals := 45 }
set_option maxRecDepth 100000 in
set_option maxHeartbeats 4000000 in
theorem fX7_passesBy_L6_ok {G : zG} {x : zX} (B : zB G x cX7_passesBy 6 RX7 "passesBy" rm_X7_passesBy (some .boolean)) (hst : (zl x).stackTraces = false) (hE : ∀ e ∈ (zc x).exceptionTable.toList, False) {r : Int32 × zH} {k : zH → Int32 → Int32 → Option (Int32 × zH)} {u0 : Nat} {u1 : Int32} {u2 : Int32} {u3 : Int32} (hk : ∀ h v4 v5, k h v4 v5 = some r → zV G x 6 (zQ G x (zoi r) 0 0) h 0 0 42 [(0, .ref u0), (1, .int u1), (2, .int u2), (3, .int u3), (4, .int v4), (5, .int v5)] []) : ∀ n h v4 v5, fX7_passesBy_L6 k u0 u1 u2 u3 n h v4 v5 = some r → zV G x 6 (zQ G x (zoi r) 0 0) h 0 0 6 [(0, .ref u0), (1, .int u1), (2, .int u2), (3, .int u3), (4, .int v4), (5, .int v5)] [] := by
  intro n
  induction n with
  | zero =>
    intro h v4 v5 hf
    have hf : (none : Option (Int32 × zH)) = some r := hf
    cases hf
  | succ n ih =>
    intro h v4 v5 hf
    rw [fX7_passesBy_L6] at hf
    refine z_iload B dX7_passesBy_6 4 rfl ?_
    refine z_iload_n B dX7_passesBy_8 rfl 2 rfl ?_
    rcases zite hf with ⟨c1, hf⟩ | ⟨c1, hf⟩
    · refine z_icmp_eq B 42 dX7_passesBy_9 (by decide) (fun _ => ?_) (fun e => absurd c1 e)
      exact hk _ _ _ hf
    refine z_icmp_eq B 42 dX7_passesBy_9 (by decide) (fun e => absurd e c1) (fun _ => ?_)
    refine z_aload_n B dX7_passesBy_12 rfl 0 rfl ?_
    refine z_iload B dX7_passesBy_13 4 rfl ?_
    refine z_iload_n B dX7_passesBy_15 rfl 2 rfl ?_
    obtain ⟨w2, h3, ew2, hf⟩ := zb2s hf
    refine z_callVi B [.int v4, .int u2] [] cw_X7_nextOn mv_RX7_274 (tX7_nextOn hst ew2) rfl (by decide) (kfX7_nextOn ew2) ⟨rfl, rfl, (Nat.le_of_ble_eq_true rfl), (Nat.le_of_ble_eq_true rfl), (Nat.le_of_ble_eq_true rfl), (Nat.le_of_ble_eq_true rfl)⟩ rfl rfl (Nat.le_of_ble_eq_true rfl) dX7_passesBy_16 ?_
    refine z_istore (lv' := [(4, .int w2), (0, .ref u0), (1, .int u1), (2, .int u2), (3, .int u3), (5, .int v5)]) B dX7_passesBy_19 (by decide) rfl ?_
    refine z_iload B dX7_passesBy_21 5 rfl ?_
    rcases zite hf with ⟨c4, hf⟩ | ⟨c4, hf⟩
    · refine z_if_ne B 32 dX7_passesBy_23 (by decide) (fun e => absurd c4 e) (fun _ => ?_)
      refine z_iload B dX7_passesBy_26 0 rfl ?_
      refine z_iload_n B dX7_passesBy_28 rfl 4 rfl ?_
      rcases zite hf with ⟨c5, hf⟩ | ⟨c5, hf⟩
      · refine z_icmp_ne B 36 dX7_passesBy_29 (by decide) (fun e => absurd c5 e) (fun _ => ?_)
        refine z_iconst (v := 1) B dX7_passesBy_32 (by decide) ?_
        refine z_goto B 37 dX7_passesBy_33 (by decide) ?_
        refine z_istore (lv' := [(5, .int 1), (4, .int w2), (0, .ref u0), (1, .int u1), (2, .int u2), (3, .int u3)]) B dX7_passesBy_37 (by decide) rfl ?_
        refine z_goto B 6 dX7_passesBy_39 (by decide) ?_
        refine zV.sub [2, 3, 4, 5, 1, 0] rfl ?_
        exact ih _ _ _ hf
      refine z_icmp_ne B 36 dX7_passesBy_29 (by decide) (fun _ => ?_) (fun e => absurd e c5)
      refine z_iconst (v := 0) B dX7_passesBy_36 (by decide) ?_
      refine z_istore (lv' := [(5, .int 0), (4, .int w2), (0, .ref u0), (1, .int u1), (2, .int u2), (3, .int u3)]) B dX7_passesBy_37 (by decide) rfl ?_
      refine z_goto B 6 dX7_passesBy_39 (by decide) ?_
      refine zV.sub [2, 3, 4, 5, 1, 0] rfl ?_
      exact ih _ _ _ hf
    refine z_if_ne B 32 dX7_passesBy_23 (by decide) (fun _ => ?_) (fun e => absurd e c4)
    refine z_iconst (v := 1) B dX7_passesBy_32 (by decide) ?_
    refine z_goto B 37 dX7_passesBy_33 (by decide) ?_
    refine z_istore (lv' := [(5, .int 1), (4, .int w2), (0, .ref u0), (1, .int u1), (2, .int u2), (3, .int u3)]) B dX7_passesBy_37 (by decide) rfl ?_
    refine z_goto B 6 dX7_passesBy_39 (by decide) ?_
    refine zV.sub [2, 3, 4, 5, 1, 0] rfl ?_
    exact ih _ _ _ hf
set_option maxRecDepth 100000 in
set_option maxHeartbeats 4000000 in
theorem tX7_passesBy {l : Launch} {G : zG} (hst : l.stackTraces = false) {h : zH} {a0 : Nat} {a1 : Int32} {a2 : Int32} {a3 : Int32} {r : Int32 × zH} (hf : fX7_passesBy h a0 a1 a2 a3 = some r) : zMet l G yX7_passesBy (.code yX7_passesBy cX7_passesBy 6 (some .boolean)) rm_X7_passesBy 0 0 [.ref a0, .int a1, .int a2, .int a3] h (zoi r) := by
  unfold fX7_passesBy at hf
  obtain ⟨-, hf⟩ := zck hf
  refine z_enter (by decide) (Nat.le_of_ble_eq_true rfl) hst (fun x hx B hE => ?_)
  subst hx
  have B : zB G x cX7_passesBy 6 RX7 "passesBy" rm_X7_passesBy (some .boolean) := B
  show zV G x 6 (zQ G x (zoi r) 0 0) h 0 0 0 [(0, .ref a0), (1, .int a1), (2, .int a2), (3, .int a3)] []
  refine z_iload_n B dX7_passesBy_0 rfl 1 rfl ?_
  refine z_istore (lv' := [(4, .int a1), (0, .ref a0), (1, .int a1), (2, .int a2), (3, .int a3)]) B dX7_passesBy_1 (by decide) rfl ?_
  refine z_iconst (v := 0) B dX7_passesBy_3 (by decide) ?_
  refine z_istore (lv' := [(5, .int 0), (4, .int a1), (0, .ref a0), (1, .int a1), (2, .int a2), (3, .int a3)]) B dX7_passesBy_4 (by decide) rfl ?_
  refine zV.sub [2, 3, 4, 5, 1, 0] rfl ?_
  refine fX7_passesBy_L6_ok B hst hE (fun h1 y2 y3 hf => ?_) _ _ _ _ hf
  refine z_iload B dX7_passesBy_42 5 rfl ?_
  rcases zite hf with ⟨c4, hf⟩ | ⟨c4, hf⟩
  · cases hf
    exact z_zret B dX7_passesBy_44 c4 (Nat.le_of_ble_eq_true rfl) (Nat.le_of_ble_eq_true rfl)
  cases hf
abbrev rm_X7_between : Room := { frames := 3, cells := 0, slots := 0, locals := 70 }
set_option maxRecDepth 100000 in
set_option maxHeartbeats 4000000 in
theorem fX7_between_L47_ok {G : zG} {x : zX} (B : zB G x cX7_between 6 RX7 "between" rm_X7_between (some .int)) (hst : (zl x).stackTraces = false) (hE : ∀ e ∈ (zc x).exceptionTable.toList, False) {r : Int32 × zH} {k : zH → Int32 → Int32 → Option (Int32 × zH)} {u0 : Nat} {u1 : Int32} {u3 : Int32} (hk : ∀ h v2 v4, k h v2 v4 = some r → zV G x 6 (zQ G x (zoi r) 0 0) h 0 0 128 [(0, .ref u0), (1, .int u1), (2, .int v2), (3, .int u3), (4, .int v4)] []) : ∀ n h v2 v4, fX7_between_L47 k u0 u1 u3 n h v2 v4 = some r → zV G x 6 (zQ G x (zoi r) 0 0) h 0 0 47 [(0, .ref u0), (1, .int u1), (2, .int v2), (3, .int u3), (4, .int v4)] [] := by
  intro n
  induction n with
  | zero =>
    intro h v2 v4 hf
    have hf : (none : Option (Int32 × zH)) = some r := hf
    cases hf
  | succ n ih =>
    intro h v2 v4 hf
    rw [fX7_between_L47] at hf
    refine z_iload B dX7_between_47 4 rfl ?_
    refine z_aload_n B dX7_between_49 rfl 0 rfl ?_
    obtain ⟨w1, ew1, hf⟩ := zbs hf
    refine z_gI B fl_RX7_13 ew1 rfl dX7_between_50 ?_
    rcases zite hf with ⟨c2, hf⟩ | ⟨c2, hf⟩
    · refine z_icmp_ge B 128 dX7_between_53 (by decide) (fun _ => ?_) (fun e => absurd c2 e)
      exact hk _ _ _ hf
    refine z_icmp_ge B 128 dX7_between_53 (by decide) (fun e => absurd e c2) (fun _ => ?_)
    refine z_iload_n B dX7_between_56 rfl 3 rfl ?_
    refine z_iload B dX7_between_57 4 rfl ?_
    rcases zite hf with ⟨c3, hf⟩ | ⟨c3, hf⟩
    · refine z_icmp_eq B 95 dX7_between_59 (by decide) (fun _ => ?_) (fun e => absurd c3 e)
      refine z_iconst (v := 0) B dX7_between_95 (by decide) ?_
      refine z_istore (lv' := [(5, .int 0), (0, .ref u0), (1, .int u1), (2, .int v2), (3, .int u3), (4, .int v4)]) B dX7_between_96 (by decide) rfl ?_
      refine z_iload_n B dX7_between_98 rfl 3 rfl ?_
      refine z_iload B dX7_between_99 0 rfl ?_
      refine z_if_eq B 119 dX7_between_101 (by decide) (fun _ => ?_) (fun e => absurd e (by decide))
      refine z_iconst (v := 0) B dX7_between_119 (by decide) ?_
      refine z_iadd B dX7_between_120 ?_
      refine z_istore_n (lv' := [(2, .int ((v2 : Int32) + 0)), (5, .int 0), (0, .ref u0), (1, .int u1), (3, .int u3), (4, .int v4)]) B dX7_between_121 rfl (by decide) rfl ?_
      refine z_iinc (v' := (v4 + 1)) (lv' := [(4, .int (v4 + 1)), (2, .int ((v2 : Int32) + 0)), (5, .int 0), (0, .ref u0), (1, .int u1), (3, .int u3)]) B dX7_between_122 5 rfl rfl (by decide) rfl ?_
      refine z_goto B 47 dX7_between_125 (by decide) ?_
      refine zV.sub [3, 4, 1, 5, 0] rfl ?_
      exact ih _ _ _ hf
    refine z_icmp_eq B 95 dX7_between_59 (by decide) (fun e => absurd e c3) (fun _ => ?_)
    refine z_iload_n B dX7_between_62 rfl 3 rfl ?_
    refine z_iload_n B dX7_between_63 rfl 1 rfl ?_
    rcases zite hf with ⟨c4, hf⟩ | ⟨c4, hf⟩
    · refine z_icmp_eq B 95 dX7_between_64 (by decide) (fun _ => ?_) (fun e => absurd c4 e)
      refine z_iconst (v := 0) B dX7_between_95 (by decide) ?_
      refine z_istore (lv' := [(5, .int 0), (0, .ref u0), (1, .int u1), (2, .int v2), (3, .int u3), (4, .int v4)]) B dX7_between_96 (by decide) rfl ?_
      refine z_iload_n B dX7_between_98 rfl 3 rfl ?_
      refine z_iload B dX7_between_99 0 rfl ?_
      refine z_if_eq B 119 dX7_between_101 (by decide) (fun _ => ?_) (fun e => absurd e (by decide))
      refine z_iconst (v := 0) B dX7_between_119 (by decide) ?_
      refine z_iadd B dX7_between_120 ?_
      refine z_istore_n (lv' := [(2, .int ((v2 : Int32) + 0)), (5, .int 0), (0, .ref u0), (1, .int u1), (3, .int u3), (4, .int v4)]) B dX7_between_121 rfl (by decide) rfl ?_
      refine z_iinc (v' := (v4 + 1)) (lv' := [(4, .int (v4 + 1)), (2, .int ((v2 : Int32) + 0)), (5, .int 0), (0, .ref u0), (1, .int u1), (3, .int u3)]) B dX7_between_122 5 rfl rfl (by decide) rfl ?_
      refine z_goto B 47 dX7_between_125 (by decide) ?_
      refine zV.sub [3, 4, 1, 5, 0] rfl ?_
      exact ih _ _ _ hf
    refine z_icmp_eq B 95 dX7_between_64 (by decide) (fun e => absurd e c4) (fun _ => ?_)
    refine z_iload B dX7_between_67 4 rfl ?_
    refine z_iload_n B dX7_between_69 rfl 1 rfl ?_
    rcases zite hf with ⟨c5, hf⟩ | ⟨c5, hf⟩
    · refine z_icmp_eq B 95 dX7_between_70 (by decide) (fun _ => ?_) (fun e => absurd c5 e)
      refine z_iconst (v := 0) B dX7_between_95 (by decide) ?_
      refine z_istore (lv' := [(5, .int 0), (0, .ref u0), (1, .int u1), (2, .int v2), (3, .int u3), (4, .int v4)]) B dX7_between_96 (by decide) rfl ?_
      refine z_iload_n B dX7_between_98 rfl 3 rfl ?_
      refine z_iload B dX7_between_99 0 rfl ?_
      refine z_if_eq B 119 dX7_between_101 (by decide) (fun _ => ?_) (fun e => absurd e (by decide))
      refine z_iconst (v := 0) B dX7_between_119 (by decide) ?_
      refine z_iadd B dX7_between_120 ?_
      refine z_istore_n (lv' := [(2, .int ((v2 : Int32) + 0)), (5, .int 0), (0, .ref u0), (1, .int u1), (3, .int u3), (4, .int v4)]) B dX7_between_121 rfl (by decide) rfl ?_
      refine z_iinc (v' := (v4 + 1)) (lv' := [(4, .int (v4 + 1)), (2, .int ((v2 : Int32) + 0)), (5, .int 0), (0, .ref u0), (1, .int u1), (3, .int u3)]) B dX7_between_122 5 rfl rfl (by decide) rfl ?_
      refine z_goto B 47 dX7_between_125 (by decide) ?_
      refine zV.sub [3, 4, 1, 5, 0] rfl ?_
      exact ih _ _ _ hf
    refine z_icmp_eq B 95 dX7_between_70 (by decide) (fun e => absurd e c5) (fun _ => ?_)
    refine z_aload_n B dX7_between_73 rfl 0 rfl ?_
    obtain ⟨w6, ew6, hf⟩ := zbs hf
    refine z_gP B fl_RX7_75 ew6 rfl dX7_between_74 ?_
    refine z_bipush (v := 8) B dX7_between_77 (by decide) ?_
    refine z_iload_n B dX7_between_79 rfl 3 rfl ?_
    refine z_imul B dX7_between_80 ?_
    refine z_iload B dX7_between_81 4 rfl ?_
    refine z_iadd B dX7_between_83 ?_
    obtain ⟨w7, ew7, hf⟩ := zbs hf
    refine z_aI B ew7 dX7_between_84 ?_
    refine z_ldcw B dX7_between_85 kc_RX7_269 ?_
    rcases zite hf with ⟨c8, hf⟩ | ⟨c8, hf⟩
    · refine z_icmp_ge B 95 dX7_between_88 (by decide) (fun _ => ?_) (fun e => absurd c8 e)
      refine z_iconst (v := 0) B dX7_between_95 (by decide) ?_
      refine z_istore (lv' := [(5, .int 0), (0, .ref u0), (1, .int u1), (2, .int v2), (3, .int u3), (4, .int v4)]) B dX7_between_96 (by decide) rfl ?_
      refine z_iload_n B dX7_between_98 rfl 3 rfl ?_
      refine z_iload B dX7_between_99 0 rfl ?_
      refine z_if_eq B 119 dX7_between_101 (by decide) (fun _ => ?_) (fun e => absurd e (by decide))
      refine z_iconst (v := 0) B dX7_between_119 (by decide) ?_
      refine z_iadd B dX7_between_120 ?_
      refine z_istore_n (lv' := [(2, .int ((v2 : Int32) + 0)), (5, .int 0), (0, .ref u0), (1, .int u1), (3, .int u3), (4, .int v4)]) B dX7_between_121 rfl (by decide) rfl ?_
      refine z_iinc (v' := (v4 + 1)) (lv' := [(4, .int (v4 + 1)), (2, .int ((v2 : Int32) + 0)), (5, .int 0), (0, .ref u0), (1, .int u1), (3, .int u3)]) B dX7_between_122 5 rfl rfl (by decide) rfl ?_
      refine z_goto B 47 dX7_between_125 (by decide) ?_
      refine zV.sub [3, 4, 1, 5, 0] rfl ?_
      exact ih _ _ _ hf
    refine z_icmp_ge B 95 dX7_between_88 (by decide) (fun e => absurd e c8) (fun _ => ?_)
    refine z_iconst (v := 1) B dX7_between_91 (by decide) ?_
    refine z_goto B 96 dX7_between_92 (by decide) ?_
    refine z_istore (lv' := [(5, .int 1), (0, .ref u0), (1, .int u1), (2, .int v2), (3, .int u3), (4, .int v4)]) B dX7_between_96 (by decide) rfl ?_
    refine z_iload_n B dX7_between_98 rfl 3 rfl ?_
    refine z_iload B dX7_between_99 0 rfl ?_
    refine z_if_eq B 119 dX7_between_101 (by decide) (fun e => absurd e (by decide)) (fun _ => ?_)
    refine z_aload_n B dX7_between_104 rfl 1 rfl ?_
    refine z_iload_n B dX7_between_105 rfl 4 rfl ?_
    refine z_iload B dX7_between_106 5 rfl ?_
    refine z_iload_n B dX7_between_108 rfl 2 rfl ?_
    obtain ⟨w9, h10, ew9, hf⟩ := zb2s hf
    refine z_callVi B [.int u3, .int v4, .int u1] [.int v2] cw_X7_passesBy mv_RX7_296 (tX7_passesBy hst ew9) rfl (by decide) (kfX7_passesBy ew9) ⟨rfl, rfl, (Nat.le_of_ble_eq_true rfl), (Nat.le_of_ble_eq_true rfl), (Nat.le_of_ble_eq_true rfl), (Nat.le_of_ble_eq_true rfl)⟩ rfl rfl (Nat.le_of_ble_eq_true rfl) dX7_between_109 ?_
    rcases zite hf with ⟨c11, hf⟩ | ⟨c11, hf⟩
    · refine z_if_eq B 119 dX7_between_112 (by decide) (fun _ => ?_) (fun e => absurd c11 e)
      refine z_iconst (v := 0) B dX7_between_119 (by decide) ?_
      refine z_iadd B dX7_between_120 ?_
      refine z_istore_n (lv' := [(2, .int ((v2 : Int32) + 0)), (5, .int 1), (0, .ref u0), (1, .int u1), (3, .int u3), (4, .int v4)]) B dX7_between_121 rfl (by decide) rfl ?_
      refine z_iinc (v' := (v4 + 1)) (lv' := [(4, .int (v4 + 1)), (2, .int ((v2 : Int32) + 0)), (5, .int 1), (0, .ref u0), (1, .int u1), (3, .int u3)]) B dX7_between_122 5 rfl rfl (by decide) rfl ?_
      refine z_goto B 47 dX7_between_125 (by decide) ?_
      refine zV.sub [3, 4, 1, 5, 0] rfl ?_
      exact ih _ _ _ hf
    refine z_if_eq B 119 dX7_between_112 (by decide) (fun e => absurd e c11) (fun _ => ?_)
    refine z_iconst (v := 1) B dX7_between_115 (by decide) ?_
    refine z_goto B 120 dX7_between_116 (by decide) ?_
    refine z_iadd B dX7_between_120 ?_
    refine z_istore_n (lv' := [(2, .int ((v2 : Int32) + 1)), (5, .int 1), (0, .ref u0), (1, .int u1), (3, .int u3), (4, .int v4)]) B dX7_between_121 rfl (by decide) rfl ?_
    refine z_iinc (v' := (v4 + 1)) (lv' := [(4, .int (v4 + 1)), (2, .int ((v2 : Int32) + 1)), (5, .int 1), (0, .ref u0), (1, .int u1), (3, .int u3)]) B dX7_between_122 5 rfl rfl (by decide) rfl ?_
    refine z_goto B 47 dX7_between_125 (by decide) ?_
    refine zV.sub [3, 4, 1, 5, 0] rfl ?_
    exact ih _ _ _ hf
set_option maxRecDepth 100000 in
set_option maxHeartbeats 4000000 in
theorem fX7_between_L36_ok {G : zG} {x : zX} (B : zB G x cX7_between 6 RX7 "between" rm_X7_between (some .int)) (hst : (zl x).stackTraces = false) (hE : ∀ e ∈ (zc x).exceptionTable.toList, False) {r : Int32 × zH} {k : zH → Int32 → Int32 → Option (Int32 × zH)} {u0 : Nat} {u1 : Int32} (hk : ∀ h v2 v3, k h v2 v3 = some r → zV G x 6 (zQ G x (zoi r) 0 0) h 0 0 134 [(0, .ref u0), (1, .int u1), (2, .int v2), (3, .int v3)] []) : ∀ n h v2 v3, fX7_between_L36 k u0 u1 n h v2 v3 = some r → zV G x 6 (zQ G x (zoi r) 0 0) h 0 0 36 [(0, .ref u0), (1, .int u1), (2, .int v2), (3, .int v3)] [] := by
  intro n
  induction n with
  | zero =>
    intro h v2 v3 hf
    have hf : (none : Option (Int32 × zH)) = some r := hf
    cases hf
  | succ n ih =>
    intro h v2 v3 hf
    rw [fX7_between_L36] at hf
    refine z_iload_n B dX7_between_36 rfl 3 rfl ?_
    refine z_aload_n B dX7_between_37 rfl 0 rfl ?_
    obtain ⟨w1, ew1, hf⟩ := zbs hf
    refine z_gI B fl_RX7_13 ew1 rfl dX7_between_38 ?_
    rcases zite hf with ⟨c2, hf⟩ | ⟨c2, hf⟩
    · refine z_icmp_ge B 134 dX7_between_41 (by decide) (fun _ => ?_) (fun e => absurd c2 e)
      exact hk _ _ _ hf
    refine z_icmp_ge B 134 dX7_between_41 (by decide) (fun e => absurd e c2) (fun _ => ?_)
    refine z_iconst (v := 0) B dX7_between_44 (by decide) ?_
    refine z_istore (lv' := [(4, .int 0), (0, .ref u0), (1, .int u1), (2, .int v2), (3, .int v3)]) B dX7_between_45 (by decide) rfl ?_
    refine zV.sub [1, 2, 3, 4, 0] rfl ?_
    refine fX7_between_L47_ok B hst hE (fun h3 y4 y5 hf => ?_) _ _ _ _ hf
    refine z_iinc (v' := (v3 + 1)) (lv' := [(3, .int (v3 + 1)), (0, .ref u0), (1, .int u1), (2, .int y4), (4, .int y5)]) B dX7_between_128 3 rfl rfl (by decide) rfl ?_
    refine z_goto B 36 dX7_between_131 (by decide) ?_
    refine zV.sub [1, 2, 3, 0] rfl ?_
    exact ih _ _ _ hf
set_option maxRecDepth 100000 in
set_option maxHeartbeats 4000000 in
theorem tX7_between {l : Launch} {G : zG} (hst : l.stackTraces = false) {h : zH} {a0 : Nat} {a1 : Int32} {r : Int32 × zH} (hf : fX7_between h a0 a1 = some r) : zMet l G yX7_between (.code yX7_between cX7_between 6 (some .int)) rm_X7_between 0 0 [.ref a0, .int a1] h (zoi r) := by
  unfold fX7_between at hf
  obtain ⟨-, hf⟩ := zck hf
  refine z_enter (by decide) (Nat.le_of_ble_eq_true rfl) hst (fun x hx B hE => ?_)
  subst hx
  have B : zB G x cX7_between 6 RX7 "between" rm_X7_between (some .int) := B
  show zV G x 6 (zQ G x (zoi r) 0 0) h 0 0 0 [(0, .ref a0), (1, .int a1)] []
  refine z_aload_n B dX7_between_0 rfl 0 rfl ?_
  refine z_aload_n B dX7_between_1 rfl 0 rfl ?_
  refine z_iload_n B dX7_between_2 rfl 1 rfl ?_
  obtain ⟨w1, h2, ew1, hf⟩ := zb2s hf
  refine z_callVi B [.int a1] [.ref a0] cw_X7_isFormat mv_RX7_214 (tX7_isFormat hst ew1) rfl (by decide) (kfX7_isFormat ew1) ⟨rfl, rfl, (Nat.le_of_ble_eq_true rfl), (Nat.le_of_ble_eq_true rfl), (Nat.le_of_ble_eq_true rfl), (Nat.le_of_ble_eq_true rfl)⟩ rfl rfl (Nat.le_of_ble_eq_true rfl) dX7_between_3 ?_
  rcases zite hf with ⟨c3, hf⟩ | ⟨c3, hf⟩
  · refine z_if_eq B 13 dX7_between_6 (by decide) (fun _ => ?_) (fun e => absurd c3 e)
    refine z_iconst (v := 1) B dX7_between_13 (by decide) ?_
    obtain ⟨w4, h5, ew4, hf⟩ := zb2s hf
    refine z_callVi B [.int 1] [] cw_X7_refused mv_RX7_112 (tX7_refused hst ew4) rfl (by decide) (kfX7_refused ew4) ⟨rfl, rfl, (Nat.le_of_ble_eq_true rfl), (Nat.le_of_ble_eq_true rfl), (Nat.le_of_ble_eq_true rfl), (Nat.le_of_ble_eq_true rfl)⟩ rfl rfl (Nat.le_of_ble_eq_true rfl) dX7_between_14 ?_
    rcases zite hf with ⟨c6, hf⟩ | ⟨c6, hf⟩
    · refine z_if_eq B 22 dX7_between_17 (by decide) (fun _ => ?_) (fun e => absurd c6 e)
      refine z_aload_n B dX7_between_22 rfl 0 rfl ?_
      refine z_aload_n B dX7_between_23 rfl 0 rfl ?_
      obtain ⟨w7, ew7, hf⟩ := zbs hf
      refine z_gP B fl_RX7_56 ew7 rfl dX7_between_24 ?_
      refine z_bipush (v := (-9)) B dX7_between_27 (by decide) ?_
      obtain ⟨h8, eh8, hf⟩ := zbs hf
      refine z_callVv B [.ref w7, .int (-9)] [] cw_X7_layTable mv_RX7_283 (tX7_layTable hst eh8) rfl (by decide) (kfX7_layTable eh8) ⟨rfl, rfl, (Nat.le_of_ble_eq_true rfl), (Nat.le_of_ble_eq_true rfl), (Nat.le_of_ble_eq_true rfl), (Nat.le_of_ble_eq_true rfl)⟩ rfl rfl (Nat.le_of_ble_eq_true rfl) dX7_between_29 ?_
      refine z_iconst (v := 0) B dX7_between_32 (by decide) ?_
      refine z_istore_n (lv' := [(2, .int 0), (0, .ref a0), (1, .int a1)]) B dX7_between_33 rfl (by decide) rfl ?_
      refine z_iconst (v := 0) B dX7_between_34 (by decide) ?_
      refine z_istore_n (lv' := [(3, .int 0), (2, .int 0), (0, .ref a0), (1, .int a1)]) B dX7_between_35 rfl (by decide) rfl ?_
      refine zV.sub [2, 3, 1, 0] rfl ?_
      refine fX7_between_L36_ok B hst hE (fun h9 y10 y11 hf => ?_) _ _ _ _ hf
      refine z_iload_n B dX7_between_134 rfl 2 rfl ?_
      cases hf
      exact z_iret B dX7_between_135 (Nat.le_of_ble_eq_true rfl) (Nat.le_of_ble_eq_true rfl)
    refine z_if_eq B 22 dX7_between_17 (by decide) (fun e => absurd e c6) (fun _ => ?_)
    refine z_iconst (v := 0) B dX7_between_20 (by decide) ?_
    cases hf
    exact z_iret B dX7_between_21 (Nat.le_of_ble_eq_true rfl) (Nat.le_of_ble_eq_true rfl)
  refine z_if_eq B 13 dX7_between_6 (by decide) (fun e => absurd e c3) (fun _ => ?_)
  refine z_iconst (v := 0) B dX7_between_9 (by decide) ?_
  refine z_goto B 14 dX7_between_10 (by decide) ?_
  obtain ⟨w12, h13, ew12, hf⟩ := zb2s hf
  refine z_callVi B [.int 0] [] cw_X7_refused mv_RX7_112 (tX7_refused hst ew12) rfl (by decide) (kfX7_refused ew12) ⟨rfl, rfl, (Nat.le_of_ble_eq_true rfl), (Nat.le_of_ble_eq_true rfl), (Nat.le_of_ble_eq_true rfl), (Nat.le_of_ble_eq_true rfl)⟩ rfl rfl (Nat.le_of_ble_eq_true rfl) dX7_between_14 ?_
  rcases zite hf with ⟨c14, hf⟩ | ⟨c14, hf⟩
  · refine z_if_eq B 22 dX7_between_17 (by decide) (fun _ => ?_) (fun e => absurd c14 e)
    refine z_aload_n B dX7_between_22 rfl 0 rfl ?_
    refine z_aload_n B dX7_between_23 rfl 0 rfl ?_
    obtain ⟨w15, ew15, hf⟩ := zbs hf
    refine z_gP B fl_RX7_56 ew15 rfl dX7_between_24 ?_
    refine z_bipush (v := (-9)) B dX7_between_27 (by decide) ?_
    obtain ⟨h16, eh16, hf⟩ := zbs hf
    refine z_callVv B [.ref w15, .int (-9)] [] cw_X7_layTable mv_RX7_283 (tX7_layTable hst eh16) rfl (by decide) (kfX7_layTable eh16) ⟨rfl, rfl, (Nat.le_of_ble_eq_true rfl), (Nat.le_of_ble_eq_true rfl), (Nat.le_of_ble_eq_true rfl), (Nat.le_of_ble_eq_true rfl)⟩ rfl rfl (Nat.le_of_ble_eq_true rfl) dX7_between_29 ?_
    refine z_iconst (v := 0) B dX7_between_32 (by decide) ?_
    refine z_istore_n (lv' := [(2, .int 0), (0, .ref a0), (1, .int a1)]) B dX7_between_33 rfl (by decide) rfl ?_
    refine z_iconst (v := 0) B dX7_between_34 (by decide) ?_
    refine z_istore_n (lv' := [(3, .int 0), (2, .int 0), (0, .ref a0), (1, .int a1)]) B dX7_between_35 rfl (by decide) rfl ?_
    refine zV.sub [2, 3, 1, 0] rfl ?_
    refine fX7_between_L36_ok B hst hE (fun h17 y18 y19 hf => ?_) _ _ _ _ hf
    refine z_iload_n B dX7_between_134 rfl 2 rfl ?_
    cases hf
    exact z_iret B dX7_between_135 (Nat.le_of_ble_eq_true rfl) (Nat.le_of_ble_eq_true rfl)
  refine z_if_eq B 22 dX7_between_17 (by decide) (fun e => absurd e c14) (fun _ => ?_)
  refine z_iconst (v := 0) B dX7_between_20 (by decide) ?_
  cases hf
  exact z_iret B dX7_between_21 (Nat.le_of_ble_eq_true rfl) (Nat.le_of_ble_eq_true rfl)
abbrev rm_X7_way : Room := { frames := 4, cells := 0, slots := 0, locals := 98 }
set_option maxRecDepth 100000 in
set_option maxHeartbeats 4000000 in
theorem tX7_way {l : Launch} {G : zG} (hst : l.stackTraces = false) {h : zH} {a0 : Nat} {a1 : Int32} {a2 : Int32} {a3 : Int32} {r : Int32 × zH} (hf : fX7_way h a0 a1 a2 a3 = some r) : zMet l G yX7_way (.code yX7_way cX7_way 4 (some .int)) rm_X7_way 0 0 [.ref a0, .int a1, .int a2, .int a3] h (zoi r) := by
  unfold fX7_way at hf
  obtain ⟨-, hf⟩ := zck hf
  refine z_enter (by decide) (Nat.le_of_ble_eq_true rfl) hst (fun x hx B hE => ?_)
  subst hx
  have B : zB G x cX7_way 4 RX7 "way" rm_X7_way (some .int) := B
  show zV G x 4 (zQ G x (zoi r) 0 0) h 0 0 0 [(0, .ref a0), (1, .int a1), (2, .int a2), (3, .int a3)] []
  refine z_aload_n B dX7_way_0 rfl 0 rfl ?_
  refine z_aload_n B dX7_way_1 rfl 0 rfl ?_
  obtain ⟨w1, ew1, hf⟩ := zbs hf
  refine z_gP B fl_RX7_56 ew1 rfl dX7_way_2 ?_
  refine z_iload_n B dX7_way_5 rfl 1 rfl ?_
  obtain ⟨w2, h3, ew2, hf⟩ := zb2s hf
  refine z_callSi B [.ref w1, .int a1] [.ref a0] cw_X7_isEntry mt_RX7_204 (tX7_isEntry hst ew2) ⟨rfl, rfl, (Nat.le_of_ble_eq_true rfl), (Nat.le_of_ble_eq_true rfl), (Nat.le_of_ble_eq_true rfl), (Nat.le_of_ble_eq_true rfl)⟩ rfl rfl (Nat.le_of_ble_eq_true rfl) dX7_way_6 ?_
  rcases zite hf with ⟨c4, hf⟩ | ⟨c4, hf⟩
  · refine z_if_eq B 20 dX7_way_9 (by decide) (fun _ => ?_) (fun e => absurd c4 e)
    refine z_iconst (v := 1) B dX7_way_20 (by decide) ?_
    refine z_goto B 41 dX7_way_21 (by decide) ?_
    obtain ⟨w5, h6, ew5, hf⟩ := zb2s hf
    refine z_callVi B [.int 1] [] cw_X7_refused mv_RX7_112 (tX7_refused hst ew5) rfl (by decide) (kfX7_refused ew5) ⟨rfl, rfl, (Nat.le_of_ble_eq_true rfl), (Nat.le_of_ble_eq_true rfl), (Nat.le_of_ble_eq_true rfl), (Nat.le_of_ble_eq_true rfl)⟩ rfl rfl (Nat.le_of_ble_eq_true rfl) dX7_way_41 ?_
    rcases zite hf with ⟨c7, hf⟩ | ⟨c7, hf⟩
    · refine z_if_eq B 49 dX7_way_44 (by decide) (fun _ => ?_) (fun e => absurd c7 e)
      refine z_aload_n B dX7_way_49 rfl 0 rfl ?_
      refine z_aload_n B dX7_way_50 rfl 0 rfl ?_
      obtain ⟨w8, ew8, hf⟩ := zbs hf
      refine z_gP B fl_RX7_56 ew8 rfl dX7_way_51 ?_
      refine z_iload_n B dX7_way_54 rfl 1 rfl ?_
      refine z_iload_n B dX7_way_55 rfl 2 rfl ?_
      obtain ⟨w9, h10, ew9, hf⟩ := zb2s hf
      refine z_callVi B [.ref w8, .int a1, .int a2] [] cw_X7_findWay mv_RX7_231 (tX7_findWay hst ew9) rfl (by decide) (kfX7_findWay ew9) ⟨rfl, rfl, (Nat.le_of_ble_eq_true rfl), (Nat.le_of_ble_eq_true rfl), (Nat.le_of_ble_eq_true rfl), (Nat.le_of_ble_eq_true rfl)⟩ rfl rfl (Nat.le_of_ble_eq_true rfl) dX7_way_56 ?_
      rcases zite hf with ⟨c11, hf⟩ | ⟨c11, hf⟩
      · refine z_if_ne B 65 dX7_way_59 (by decide) (fun e => absurd c11 e) (fun _ => ?_)
        refine z_bipush (v := (-9)) B dX7_way_62 (by decide) ?_
        cases hf
        exact z_iret B dX7_way_64 (Nat.le_of_ble_eq_true rfl) (Nat.le_of_ble_eq_true rfl)
      refine z_if_ne B 65 dX7_way_59 (by decide) (fun _ => ?_) (fun e => absurd e c11)
      refine z_iload_n B dX7_way_65 rfl 3 rfl ?_
      rcases zite hf with ⟨c12, hf⟩ | ⟨c12, hf⟩
      · refine z_if_ne B 76 dX7_way_66 (by decide) (fun e => absurd c12 e) (fun _ => ?_)
        refine z_aload_n B dX7_way_69 rfl 0 rfl ?_
        obtain ⟨w13, ew13, hf⟩ := zbs hf
        refine z_gI B fl_RX7_235 ew13 rfl dX7_way_70 ?_
        refine z_goto B 116 dX7_way_73 (by decide) ?_
        cases hf
        exact z_iret B dX7_way_116 (Nat.le_of_ble_eq_true rfl) (Nat.le_of_ble_eq_true rfl)
      refine z_if_ne B 76 dX7_way_66 (by decide) (fun _ => ?_) (fun e => absurd e c12)
      refine z_iload_n B dX7_way_76 rfl 3 rfl ?_
      refine z_iconst (v := 1) B dX7_way_77 (by decide) ?_
      rcases zite hf with ⟨c14, hf⟩ | ⟨c14, hf⟩
      · refine z_icmp_ne B 88 dX7_way_78 (by decide) (fun e => absurd c14 e) (fun _ => ?_)
        refine z_aload_n B dX7_way_81 rfl 0 rfl ?_
        obtain ⟨w15, ew15, hf⟩ := zbs hf
        refine z_gI B fl_RX7_300 ew15 rfl dX7_way_82 ?_
        refine z_goto B 116 dX7_way_85 (by decide) ?_
        cases hf
        exact z_iret B dX7_way_116 (Nat.le_of_ble_eq_true rfl) (Nat.le_of_ble_eq_true rfl)
      refine z_icmp_ne B 88 dX7_way_78 (by decide) (fun _ => ?_) (fun e => absurd e c14)
      refine z_iload_n B dX7_way_88 rfl 3 rfl ?_
      refine z_iconst (v := 2) B dX7_way_89 (by decide) ?_
      rcases zite hf with ⟨c16, hf⟩ | ⟨c16, hf⟩
      · refine z_icmp_ne B 100 dX7_way_90 (by decide) (fun e => absurd c16 e) (fun _ => ?_)
        refine z_aload_n B dX7_way_93 rfl 0 rfl ?_
        obtain ⟨w17, ew17, hf⟩ := zbs hf
        refine z_gI B fl_RX7_238 ew17 rfl dX7_way_94 ?_
        refine z_goto B 116 dX7_way_97 (by decide) ?_
        cases hf
        exact z_iret B dX7_way_116 (Nat.le_of_ble_eq_true rfl) (Nat.le_of_ble_eq_true rfl)
      refine z_icmp_ne B 100 dX7_way_90 (by decide) (fun _ => ?_) (fun e => absurd e c16)
      refine z_iload_n B dX7_way_100 rfl 3 rfl ?_
      refine z_iconst (v := 3) B dX7_way_101 (by decide) ?_
      rcases zite hf with ⟨c18, hf⟩ | ⟨c18, hf⟩
      · refine z_icmp_ne B 112 dX7_way_102 (by decide) (fun e => absurd c18 e) (fun _ => ?_)
        refine z_aload_n B dX7_way_105 rfl 0 rfl ?_
        obtain ⟨w19, ew19, hf⟩ := zbs hf
        refine z_gI B fl_RX7_241 ew19 rfl dX7_way_106 ?_
        refine z_goto B 116 dX7_way_109 (by decide) ?_
        cases hf
        exact z_iret B dX7_way_116 (Nat.le_of_ble_eq_true rfl) (Nat.le_of_ble_eq_true rfl)
      refine z_icmp_ne B 112 dX7_way_102 (by decide) (fun _ => ?_) (fun e => absurd e c18)
      refine z_aload_n B dX7_way_112 rfl 0 rfl ?_
      obtain ⟨w20, ew20, hf⟩ := zbs hf
      refine z_gI B fl_RX7_244 ew20 rfl dX7_way_113 ?_
      cases hf
      exact z_iret B dX7_way_116 (Nat.le_of_ble_eq_true rfl) (Nat.le_of_ble_eq_true rfl)
    refine z_if_eq B 49 dX7_way_44 (by decide) (fun e => absurd e c7) (fun _ => ?_)
    refine z_iconst (v := 0) B dX7_way_47 (by decide) ?_
    cases hf
    exact z_iret B dX7_way_48 (Nat.le_of_ble_eq_true rfl) (Nat.le_of_ble_eq_true rfl)
  refine z_if_eq B 20 dX7_way_9 (by decide) (fun e => absurd e c4) (fun _ => ?_)
  refine z_aload_n B dX7_way_12 rfl 0 rfl ?_
  refine z_iload_n B dX7_way_13 rfl 2 rfl ?_
  obtain ⟨w21, h22, ew21, hf⟩ := zb2s hf
  refine z_callVi B [.int a2] [.ref a0] cw_X7_isPlace mv_RX7_201 (tX7_isPlace hst ew21) rfl (by decide) (kfX7_isPlace ew21) ⟨rfl, rfl, (Nat.le_of_ble_eq_true rfl), (Nat.le_of_ble_eq_true rfl), (Nat.le_of_ble_eq_true rfl), (Nat.le_of_ble_eq_true rfl)⟩ rfl rfl (Nat.le_of_ble_eq_true rfl) dX7_way_14 ?_
  rcases zite hf with ⟨c23, hf⟩ | ⟨c23, hf⟩
  · refine z_if_ne B 24 dX7_way_17 (by decide) (fun e => absurd c23 e) (fun _ => ?_)
    refine z_iconst (v := 1) B dX7_way_20 (by decide) ?_
    refine z_goto B 41 dX7_way_21 (by decide) ?_
    obtain ⟨w24, h25, ew24, hf⟩ := zb2s hf
    refine z_callVi B [.int 1] [] cw_X7_refused mv_RX7_112 (tX7_refused hst ew24) rfl (by decide) (kfX7_refused ew24) ⟨rfl, rfl, (Nat.le_of_ble_eq_true rfl), (Nat.le_of_ble_eq_true rfl), (Nat.le_of_ble_eq_true rfl), (Nat.le_of_ble_eq_true rfl)⟩ rfl rfl (Nat.le_of_ble_eq_true rfl) dX7_way_41 ?_
    rcases zite hf with ⟨c26, hf⟩ | ⟨c26, hf⟩
    · refine z_if_eq B 49 dX7_way_44 (by decide) (fun _ => ?_) (fun e => absurd c26 e)
      refine z_aload_n B dX7_way_49 rfl 0 rfl ?_
      refine z_aload_n B dX7_way_50 rfl 0 rfl ?_
      obtain ⟨w27, ew27, hf⟩ := zbs hf
      refine z_gP B fl_RX7_56 ew27 rfl dX7_way_51 ?_
      refine z_iload_n B dX7_way_54 rfl 1 rfl ?_
      refine z_iload_n B dX7_way_55 rfl 2 rfl ?_
      obtain ⟨w28, h29, ew28, hf⟩ := zb2s hf
      refine z_callVi B [.ref w27, .int a1, .int a2] [] cw_X7_findWay mv_RX7_231 (tX7_findWay hst ew28) rfl (by decide) (kfX7_findWay ew28) ⟨rfl, rfl, (Nat.le_of_ble_eq_true rfl), (Nat.le_of_ble_eq_true rfl), (Nat.le_of_ble_eq_true rfl), (Nat.le_of_ble_eq_true rfl)⟩ rfl rfl (Nat.le_of_ble_eq_true rfl) dX7_way_56 ?_
      rcases zite hf with ⟨c30, hf⟩ | ⟨c30, hf⟩
      · refine z_if_ne B 65 dX7_way_59 (by decide) (fun e => absurd c30 e) (fun _ => ?_)
        refine z_bipush (v := (-9)) B dX7_way_62 (by decide) ?_
        cases hf
        exact z_iret B dX7_way_64 (Nat.le_of_ble_eq_true rfl) (Nat.le_of_ble_eq_true rfl)
      refine z_if_ne B 65 dX7_way_59 (by decide) (fun _ => ?_) (fun e => absurd e c30)
      refine z_iload_n B dX7_way_65 rfl 3 rfl ?_
      rcases zite hf with ⟨c31, hf⟩ | ⟨c31, hf⟩
      · refine z_if_ne B 76 dX7_way_66 (by decide) (fun e => absurd c31 e) (fun _ => ?_)
        refine z_aload_n B dX7_way_69 rfl 0 rfl ?_
        obtain ⟨w32, ew32, hf⟩ := zbs hf
        refine z_gI B fl_RX7_235 ew32 rfl dX7_way_70 ?_
        refine z_goto B 116 dX7_way_73 (by decide) ?_
        cases hf
        exact z_iret B dX7_way_116 (Nat.le_of_ble_eq_true rfl) (Nat.le_of_ble_eq_true rfl)
      refine z_if_ne B 76 dX7_way_66 (by decide) (fun _ => ?_) (fun e => absurd e c31)
      refine z_iload_n B dX7_way_76 rfl 3 rfl ?_
      refine z_iconst (v := 1) B dX7_way_77 (by decide) ?_
      rcases zite hf with ⟨c33, hf⟩ | ⟨c33, hf⟩
      · refine z_icmp_ne B 88 dX7_way_78 (by decide) (fun e => absurd c33 e) (fun _ => ?_)
        refine z_aload_n B dX7_way_81 rfl 0 rfl ?_
        obtain ⟨w34, ew34, hf⟩ := zbs hf
        refine z_gI B fl_RX7_300 ew34 rfl dX7_way_82 ?_
        refine z_goto B 116 dX7_way_85 (by decide) ?_
        cases hf
        exact z_iret B dX7_way_116 (Nat.le_of_ble_eq_true rfl) (Nat.le_of_ble_eq_true rfl)
      refine z_icmp_ne B 88 dX7_way_78 (by decide) (fun _ => ?_) (fun e => absurd e c33)
      refine z_iload_n B dX7_way_88 rfl 3 rfl ?_
      refine z_iconst (v := 2) B dX7_way_89 (by decide) ?_
      rcases zite hf with ⟨c35, hf⟩ | ⟨c35, hf⟩
      · refine z_icmp_ne B 100 dX7_way_90 (by decide) (fun e => absurd c35 e) (fun _ => ?_)
        refine z_aload_n B dX7_way_93 rfl 0 rfl ?_
        obtain ⟨w36, ew36, hf⟩ := zbs hf
        refine z_gI B fl_RX7_238 ew36 rfl dX7_way_94 ?_
        refine z_goto B 116 dX7_way_97 (by decide) ?_
        cases hf
        exact z_iret B dX7_way_116 (Nat.le_of_ble_eq_true rfl) (Nat.le_of_ble_eq_true rfl)
      refine z_icmp_ne B 100 dX7_way_90 (by decide) (fun _ => ?_) (fun e => absurd e c35)
      refine z_iload_n B dX7_way_100 rfl 3 rfl ?_
      refine z_iconst (v := 3) B dX7_way_101 (by decide) ?_
      rcases zite hf with ⟨c37, hf⟩ | ⟨c37, hf⟩
      · refine z_icmp_ne B 112 dX7_way_102 (by decide) (fun e => absurd c37 e) (fun _ => ?_)
        refine z_aload_n B dX7_way_105 rfl 0 rfl ?_
        obtain ⟨w38, ew38, hf⟩ := zbs hf
        refine z_gI B fl_RX7_241 ew38 rfl dX7_way_106 ?_
        refine z_goto B 116 dX7_way_109 (by decide) ?_
        cases hf
        exact z_iret B dX7_way_116 (Nat.le_of_ble_eq_true rfl) (Nat.le_of_ble_eq_true rfl)
      refine z_icmp_ne B 112 dX7_way_102 (by decide) (fun _ => ?_) (fun e => absurd e c37)
      refine z_aload_n B dX7_way_112 rfl 0 rfl ?_
      obtain ⟨w39, ew39, hf⟩ := zbs hf
      refine z_gI B fl_RX7_244 ew39 rfl dX7_way_113 ?_
      cases hf
      exact z_iret B dX7_way_116 (Nat.le_of_ble_eq_true rfl) (Nat.le_of_ble_eq_true rfl)
    refine z_if_eq B 49 dX7_way_44 (by decide) (fun e => absurd e c26) (fun _ => ?_)
    refine z_iconst (v := 0) B dX7_way_47 (by decide) ?_
    cases hf
    exact z_iret B dX7_way_48 (Nat.le_of_ble_eq_true rfl) (Nat.le_of_ble_eq_true rfl)
  refine z_if_ne B 24 dX7_way_17 (by decide) (fun _ => ?_) (fun e => absurd e c23)
  refine z_iload_n B dX7_way_24 rfl 3 rfl ?_
  refine z_i2l B dX7_way_25 ?_
  refine z_lconst (v := 0) B dX7_way_26 (by decide) ?_
  refine z_ldc2 B dX7_way_27 kl_RX7_199 ?_
  obtain ⟨w40, h41, ew40, hf⟩ := zb2s hf
  refine z_callSi B [.long (a3 : Int32).toInt64, .long 0, .long 4] [.ref a0] cw_X7_in mt_RX7_97 (tX7_in hst ew40) ⟨rfl, rfl, (Nat.le_of_ble_eq_true rfl), (Nat.le_of_ble_eq_true rfl), (Nat.le_of_ble_eq_true rfl), (Nat.le_of_ble_eq_true rfl)⟩ rfl rfl (Nat.le_of_ble_eq_true rfl) dX7_way_30 ?_
  rcases zite hf with ⟨c42, hf⟩ | ⟨c42, hf⟩
  · refine z_if_ne B 40 dX7_way_33 (by decide) (fun e => absurd c42 e) (fun _ => ?_)
    refine z_iconst (v := 2) B dX7_way_36 (by decide) ?_
    refine z_goto B 41 dX7_way_37 (by decide) ?_
    obtain ⟨w43, h44, ew43, hf⟩ := zb2s hf
    refine z_callVi B [.int 2] [] cw_X7_refused mv_RX7_112 (tX7_refused hst ew43) rfl (by decide) (kfX7_refused ew43) ⟨rfl, rfl, (Nat.le_of_ble_eq_true rfl), (Nat.le_of_ble_eq_true rfl), (Nat.le_of_ble_eq_true rfl), (Nat.le_of_ble_eq_true rfl)⟩ rfl rfl (Nat.le_of_ble_eq_true rfl) dX7_way_41 ?_
    rcases zite hf with ⟨c45, hf⟩ | ⟨c45, hf⟩
    · refine z_if_eq B 49 dX7_way_44 (by decide) (fun _ => ?_) (fun e => absurd c45 e)
      refine z_aload_n B dX7_way_49 rfl 0 rfl ?_
      refine z_aload_n B dX7_way_50 rfl 0 rfl ?_
      obtain ⟨w46, ew46, hf⟩ := zbs hf
      refine z_gP B fl_RX7_56 ew46 rfl dX7_way_51 ?_
      refine z_iload_n B dX7_way_54 rfl 1 rfl ?_
      refine z_iload_n B dX7_way_55 rfl 2 rfl ?_
      obtain ⟨w47, h48, ew47, hf⟩ := zb2s hf
      refine z_callVi B [.ref w46, .int a1, .int a2] [] cw_X7_findWay mv_RX7_231 (tX7_findWay hst ew47) rfl (by decide) (kfX7_findWay ew47) ⟨rfl, rfl, (Nat.le_of_ble_eq_true rfl), (Nat.le_of_ble_eq_true rfl), (Nat.le_of_ble_eq_true rfl), (Nat.le_of_ble_eq_true rfl)⟩ rfl rfl (Nat.le_of_ble_eq_true rfl) dX7_way_56 ?_
      rcases zite hf with ⟨c49, hf⟩ | ⟨c49, hf⟩
      · refine z_if_ne B 65 dX7_way_59 (by decide) (fun e => absurd c49 e) (fun _ => ?_)
        refine z_bipush (v := (-9)) B dX7_way_62 (by decide) ?_
        cases hf
        exact z_iret B dX7_way_64 (Nat.le_of_ble_eq_true rfl) (Nat.le_of_ble_eq_true rfl)
      refine z_if_ne B 65 dX7_way_59 (by decide) (fun _ => ?_) (fun e => absurd e c49)
      refine z_iload_n B dX7_way_65 rfl 3 rfl ?_
      rcases zite hf with ⟨c50, hf⟩ | ⟨c50, hf⟩
      · refine z_if_ne B 76 dX7_way_66 (by decide) (fun e => absurd c50 e) (fun _ => ?_)
        refine z_aload_n B dX7_way_69 rfl 0 rfl ?_
        obtain ⟨w51, ew51, hf⟩ := zbs hf
        refine z_gI B fl_RX7_235 ew51 rfl dX7_way_70 ?_
        refine z_goto B 116 dX7_way_73 (by decide) ?_
        cases hf
        exact z_iret B dX7_way_116 (Nat.le_of_ble_eq_true rfl) (Nat.le_of_ble_eq_true rfl)
      refine z_if_ne B 76 dX7_way_66 (by decide) (fun _ => ?_) (fun e => absurd e c50)
      refine z_iload_n B dX7_way_76 rfl 3 rfl ?_
      refine z_iconst (v := 1) B dX7_way_77 (by decide) ?_
      rcases zite hf with ⟨c52, hf⟩ | ⟨c52, hf⟩
      · refine z_icmp_ne B 88 dX7_way_78 (by decide) (fun e => absurd c52 e) (fun _ => ?_)
        refine z_aload_n B dX7_way_81 rfl 0 rfl ?_
        obtain ⟨w53, ew53, hf⟩ := zbs hf
        refine z_gI B fl_RX7_300 ew53 rfl dX7_way_82 ?_
        refine z_goto B 116 dX7_way_85 (by decide) ?_
        cases hf
        exact z_iret B dX7_way_116 (Nat.le_of_ble_eq_true rfl) (Nat.le_of_ble_eq_true rfl)
      refine z_icmp_ne B 88 dX7_way_78 (by decide) (fun _ => ?_) (fun e => absurd e c52)
      refine z_iload_n B dX7_way_88 rfl 3 rfl ?_
      refine z_iconst (v := 2) B dX7_way_89 (by decide) ?_
      rcases zite hf with ⟨c54, hf⟩ | ⟨c54, hf⟩
      · refine z_icmp_ne B 100 dX7_way_90 (by decide) (fun e => absurd c54 e) (fun _ => ?_)
        refine z_aload_n B dX7_way_93 rfl 0 rfl ?_
        obtain ⟨w55, ew55, hf⟩ := zbs hf
        refine z_gI B fl_RX7_238 ew55 rfl dX7_way_94 ?_
        refine z_goto B 116 dX7_way_97 (by decide) ?_
        cases hf
        exact z_iret B dX7_way_116 (Nat.le_of_ble_eq_true rfl) (Nat.le_of_ble_eq_true rfl)
      refine z_icmp_ne B 100 dX7_way_90 (by decide) (fun _ => ?_) (fun e => absurd e c54)
      refine z_iload_n B dX7_way_100 rfl 3 rfl ?_
      refine z_iconst (v := 3) B dX7_way_101 (by decide) ?_
      rcases zite hf with ⟨c56, hf⟩ | ⟨c56, hf⟩
      · refine z_icmp_ne B 112 dX7_way_102 (by decide) (fun e => absurd c56 e) (fun _ => ?_)
        refine z_aload_n B dX7_way_105 rfl 0 rfl ?_
        obtain ⟨w57, ew57, hf⟩ := zbs hf
        refine z_gI B fl_RX7_241 ew57 rfl dX7_way_106 ?_
        refine z_goto B 116 dX7_way_109 (by decide) ?_
        cases hf
        exact z_iret B dX7_way_116 (Nat.le_of_ble_eq_true rfl) (Nat.le_of_ble_eq_true rfl)
      refine z_icmp_ne B 112 dX7_way_102 (by decide) (fun _ => ?_) (fun e => absurd e c56)
      refine z_aload_n B dX7_way_112 rfl 0 rfl ?_
      obtain ⟨w58, ew58, hf⟩ := zbs hf
      refine z_gI B fl_RX7_244 ew58 rfl dX7_way_113 ?_
      cases hf
      exact z_iret B dX7_way_116 (Nat.le_of_ble_eq_true rfl) (Nat.le_of_ble_eq_true rfl)
    refine z_if_eq B 49 dX7_way_44 (by decide) (fun e => absurd e c45) (fun _ => ?_)
    refine z_iconst (v := 0) B dX7_way_47 (by decide) ?_
    cases hf
    exact z_iret B dX7_way_48 (Nat.le_of_ble_eq_true rfl) (Nat.le_of_ble_eq_true rfl)
  refine z_if_ne B 40 dX7_way_33 (by decide) (fun _ => ?_) (fun e => absurd e c42)
  refine z_iconst (v := 0) B dX7_way_40 (by decide) ?_
  obtain ⟨w59, h60, ew59, hf⟩ := zb2s hf
  refine z_callVi B [.int 0] [] cw_X7_refused mv_RX7_112 (tX7_refused hst ew59) rfl (by decide) (kfX7_refused ew59) ⟨rfl, rfl, (Nat.le_of_ble_eq_true rfl), (Nat.le_of_ble_eq_true rfl), (Nat.le_of_ble_eq_true rfl), (Nat.le_of_ble_eq_true rfl)⟩ rfl rfl (Nat.le_of_ble_eq_true rfl) dX7_way_41 ?_
  rcases zite hf with ⟨c61, hf⟩ | ⟨c61, hf⟩
  · refine z_if_eq B 49 dX7_way_44 (by decide) (fun _ => ?_) (fun e => absurd c61 e)
    refine z_aload_n B dX7_way_49 rfl 0 rfl ?_
    refine z_aload_n B dX7_way_50 rfl 0 rfl ?_
    obtain ⟨w62, ew62, hf⟩ := zbs hf
    refine z_gP B fl_RX7_56 ew62 rfl dX7_way_51 ?_
    refine z_iload_n B dX7_way_54 rfl 1 rfl ?_
    refine z_iload_n B dX7_way_55 rfl 2 rfl ?_
    obtain ⟨w63, h64, ew63, hf⟩ := zb2s hf
    refine z_callVi B [.ref w62, .int a1, .int a2] [] cw_X7_findWay mv_RX7_231 (tX7_findWay hst ew63) rfl (by decide) (kfX7_findWay ew63) ⟨rfl, rfl, (Nat.le_of_ble_eq_true rfl), (Nat.le_of_ble_eq_true rfl), (Nat.le_of_ble_eq_true rfl), (Nat.le_of_ble_eq_true rfl)⟩ rfl rfl (Nat.le_of_ble_eq_true rfl) dX7_way_56 ?_
    rcases zite hf with ⟨c65, hf⟩ | ⟨c65, hf⟩
    · refine z_if_ne B 65 dX7_way_59 (by decide) (fun e => absurd c65 e) (fun _ => ?_)
      refine z_bipush (v := (-9)) B dX7_way_62 (by decide) ?_
      cases hf
      exact z_iret B dX7_way_64 (Nat.le_of_ble_eq_true rfl) (Nat.le_of_ble_eq_true rfl)
    refine z_if_ne B 65 dX7_way_59 (by decide) (fun _ => ?_) (fun e => absurd e c65)
    refine z_iload_n B dX7_way_65 rfl 3 rfl ?_
    rcases zite hf with ⟨c66, hf⟩ | ⟨c66, hf⟩
    · refine z_if_ne B 76 dX7_way_66 (by decide) (fun e => absurd c66 e) (fun _ => ?_)
      refine z_aload_n B dX7_way_69 rfl 0 rfl ?_
      obtain ⟨w67, ew67, hf⟩ := zbs hf
      refine z_gI B fl_RX7_235 ew67 rfl dX7_way_70 ?_
      refine z_goto B 116 dX7_way_73 (by decide) ?_
      cases hf
      exact z_iret B dX7_way_116 (Nat.le_of_ble_eq_true rfl) (Nat.le_of_ble_eq_true rfl)
    refine z_if_ne B 76 dX7_way_66 (by decide) (fun _ => ?_) (fun e => absurd e c66)
    refine z_iload_n B dX7_way_76 rfl 3 rfl ?_
    refine z_iconst (v := 1) B dX7_way_77 (by decide) ?_
    rcases zite hf with ⟨c68, hf⟩ | ⟨c68, hf⟩
    · refine z_icmp_ne B 88 dX7_way_78 (by decide) (fun e => absurd c68 e) (fun _ => ?_)
      refine z_aload_n B dX7_way_81 rfl 0 rfl ?_
      obtain ⟨w69, ew69, hf⟩ := zbs hf
      refine z_gI B fl_RX7_300 ew69 rfl dX7_way_82 ?_
      refine z_goto B 116 dX7_way_85 (by decide) ?_
      cases hf
      exact z_iret B dX7_way_116 (Nat.le_of_ble_eq_true rfl) (Nat.le_of_ble_eq_true rfl)
    refine z_icmp_ne B 88 dX7_way_78 (by decide) (fun _ => ?_) (fun e => absurd e c68)
    refine z_iload_n B dX7_way_88 rfl 3 rfl ?_
    refine z_iconst (v := 2) B dX7_way_89 (by decide) ?_
    rcases zite hf with ⟨c70, hf⟩ | ⟨c70, hf⟩
    · refine z_icmp_ne B 100 dX7_way_90 (by decide) (fun e => absurd c70 e) (fun _ => ?_)
      refine z_aload_n B dX7_way_93 rfl 0 rfl ?_
      obtain ⟨w71, ew71, hf⟩ := zbs hf
      refine z_gI B fl_RX7_238 ew71 rfl dX7_way_94 ?_
      refine z_goto B 116 dX7_way_97 (by decide) ?_
      cases hf
      exact z_iret B dX7_way_116 (Nat.le_of_ble_eq_true rfl) (Nat.le_of_ble_eq_true rfl)
    refine z_icmp_ne B 100 dX7_way_90 (by decide) (fun _ => ?_) (fun e => absurd e c70)
    refine z_iload_n B dX7_way_100 rfl 3 rfl ?_
    refine z_iconst (v := 3) B dX7_way_101 (by decide) ?_
    rcases zite hf with ⟨c72, hf⟩ | ⟨c72, hf⟩
    · refine z_icmp_ne B 112 dX7_way_102 (by decide) (fun e => absurd c72 e) (fun _ => ?_)
      refine z_aload_n B dX7_way_105 rfl 0 rfl ?_
      obtain ⟨w73, ew73, hf⟩ := zbs hf
      refine z_gI B fl_RX7_241 ew73 rfl dX7_way_106 ?_
      refine z_goto B 116 dX7_way_109 (by decide) ?_
      cases hf
      exact z_iret B dX7_way_116 (Nat.le_of_ble_eq_true rfl) (Nat.le_of_ble_eq_true rfl)
    refine z_icmp_ne B 112 dX7_way_102 (by decide) (fun _ => ?_) (fun e => absurd e c72)
    refine z_aload_n B dX7_way_112 rfl 0 rfl ?_
    obtain ⟨w74, ew74, hf⟩ := zbs hf
    refine z_gI B fl_RX7_244 ew74 rfl dX7_way_113 ?_
    cases hf
    exact z_iret B dX7_way_116 (Nat.le_of_ble_eq_true rfl) (Nat.le_of_ble_eq_true rfl)
  refine z_if_eq B 49 dX7_way_44 (by decide) (fun e => absurd e c61) (fun _ => ?_)
  refine z_iconst (v := 0) B dX7_way_47 (by decide) ?_
  cases hf
  exact z_iret B dX7_way_48 (Nat.le_of_ble_eq_true rfl) (Nat.le_of_ble_eq_true rfl)
abbrev rm_X7_bestFor : Room := { frames := 4, cells := 0, slots := 0, locals := 98 }
set_option maxRecDepth 100000 in
set_option maxHeartbeats 4000000 in
theorem fX7_bestFor_L33_ok {G : zG} {x : zX} (B : zB G x cX7_bestFor 6 RX7 "bestFor" rm_X7_bestFor (some .int)) (hst : (zl x).stackTraces = false) (hE : ∀ e ∈ (zc x).exceptionTable.toList, False) {r : Int32 × zH} {k : zH → Int32 → Int32 → Int32 → Int32 → Option (Int32 × zH)} {u0 : Nat} {u1 : Int32} (hk : ∀ h v2 v3 v4 v5, k h v2 v3 v4 v5 = some r → zV G x 6 (zQ G x (zoi r) 0 0) h 0 0 107 [(0, .ref u0), (1, .int u1), (2, .int v2), (3, .int v3), (4, .int v4), (5, .int v5)] []) : ∀ n h v2 v3 v4 v5, fX7_bestFor_L33 k u0 u1 n h v2 v3 v4 v5 = some r → zV G x 6 (zQ G x (zoi r) 0 0) h 0 0 33 [(0, .ref u0), (1, .int u1), (2, .int v2), (3, .int v3), (4, .int v4), (5, .int v5)] [] := by
  intro n
  induction n with
  | zero =>
    intro h v2 v3 v4 v5 hf
    have hf : (none : Option (Int32 × zH)) = some r := hf
    cases hf
  | succ n ih =>
    intro h v2 v3 v4 v5 hf
    rw [fX7_bestFor_L33] at hf
    refine z_iload B dX7_bestFor_33 5 rfl ?_
    refine z_aload_n B dX7_bestFor_35 rfl 0 rfl ?_
    obtain ⟨w1, ew1, hf⟩ := zbs hf
    refine z_gP B fl_RX7_56 ew1 rfl dX7_bestFor_36 ?_
    refine z_iconst (v := 0) B dX7_bestFor_39 (by decide) ?_
    obtain ⟨w2, ew2, hf⟩ := zbs hf
    refine z_aI B ew2 dX7_bestFor_40 ?_
    rcases zite hf with ⟨c3, hf⟩ | ⟨c3, hf⟩
    · refine z_icmp_ge B 107 dX7_bestFor_41 (by decide) (fun _ => ?_) (fun e => absurd c3 e)
      exact hk _ _ _ _ _ hf
    refine z_icmp_ge B 107 dX7_bestFor_41 (by decide) (fun e => absurd e c3) (fun _ => ?_)
    refine z_aload_n B dX7_bestFor_44 rfl 0 rfl ?_
    refine z_aload_n B dX7_bestFor_45 rfl 0 rfl ?_
    obtain ⟨w4, ew4, hf⟩ := zbs hf
    refine z_gP B fl_RX7_56 ew4 rfl dX7_bestFor_46 ?_
    refine z_iload B dX7_bestFor_49 5 rfl ?_
    refine z_iload_n B dX7_bestFor_51 rfl 1 rfl ?_
    obtain ⟨w5, h6, ew5, hf⟩ := zb2s hf
    refine z_callVi B [.ref w4, .int v5, .int u1] [] cw_X7_findWay mv_RX7_231 (tX7_findWay hst ew5) rfl (by decide) (kfX7_findWay ew5) ⟨rfl, rfl, (Nat.le_of_ble_eq_true rfl), (Nat.le_of_ble_eq_true rfl), (Nat.le_of_ble_eq_true rfl), (Nat.le_of_ble_eq_true rfl)⟩ rfl rfl (Nat.le_of_ble_eq_true rfl) dX7_bestFor_52 ?_
    rcases zite hf with ⟨c7, hf⟩ | ⟨c7, hf⟩
    · refine z_if_eq B 101 dX7_bestFor_55 (by decide) (fun _ => ?_) (fun e => absurd c7 e)
      refine z_iinc (v' := (v5 + 1)) (lv' := [(5, .int (v5 + 1)), (0, .ref u0), (1, .int u1), (2, .int v2), (3, .int v3), (4, .int v4)]) B dX7_bestFor_101 5 rfl rfl (by decide) rfl ?_
      refine z_goto B 33 dX7_bestFor_104 (by decide) ?_
      refine zV.sub [1, 2, 3, 4, 5, 0] rfl ?_
      exact ih _ _ _ _ _ hf
    refine z_if_eq B 101 dX7_bestFor_55 (by decide) (fun e => absurd e c7) (fun _ => ?_)
    refine z_iload_n B dX7_bestFor_58 rfl 2 rfl ?_
    rcases zite hf with ⟨c8, hf⟩ | ⟨c8, hf⟩
    · refine z_if_lt B 87 dX7_bestFor_59 (by decide) (fun _ => ?_) (fun e => absurd c8 e)
      refine z_iload B dX7_bestFor_87 5 rfl ?_
      refine z_istore_n (lv' := [(2, .int v5), (0, .ref u0), (1, .int u1), (3, .int v3), (4, .int v4), (5, .int v5)]) B dX7_bestFor_89 rfl (by decide) rfl ?_
      refine z_aload_n B dX7_bestFor_90 rfl 1 rfl ?_
      obtain ⟨w9, ew9, hf⟩ := zbs hf
      refine z_gI B fl_RX7_235 ew9 rfl dX7_bestFor_91 ?_
      refine z_istore_n (lv' := [(3, .int w9), (2, .int v5), (0, .ref u0), (1, .int u1), (4, .int v4), (5, .int v5)]) B dX7_bestFor_94 rfl (by decide) rfl ?_
      refine z_aload_n B dX7_bestFor_95 rfl 2 rfl ?_
      obtain ⟨w10, ew10, hf⟩ := zbs hf
      refine z_gI B fl_RX7_244 ew10 rfl dX7_bestFor_96 ?_
      refine z_istore (lv' := [(4, .int w10), (3, .int w9), (2, .int v5), (0, .ref u0), (1, .int u1), (5, .int v5)]) B dX7_bestFor_99 (by decide) rfl ?_
      refine z_iinc (v' := (v5 + 1)) (lv' := [(5, .int (v5 + 1)), (4, .int w10), (3, .int w9), (2, .int v5), (0, .ref u0), (1, .int u1)]) B dX7_bestFor_101 5 rfl rfl (by decide) rfl ?_
      refine z_goto B 33 dX7_bestFor_104 (by decide) ?_
      refine zV.sub [4, 5, 3, 2, 1, 0] rfl ?_
      exact ih _ _ _ _ _ hf
    refine z_if_lt B 87 dX7_bestFor_59 (by decide) (fun e => absurd e c8) (fun _ => ?_)
    refine z_aload_n B dX7_bestFor_62 rfl 0 rfl ?_
    obtain ⟨w11, ew11, hf⟩ := zbs hf
    refine z_gI B fl_RX7_235 ew11 rfl dX7_bestFor_63 ?_
    refine z_iload_n B dX7_bestFor_66 rfl 3 rfl ?_
    rcases zite hf with ⟨c12, hf⟩ | ⟨c12, hf⟩
    · refine z_icmp_lt B 87 dX7_bestFor_67 (by decide) (fun _ => ?_) (fun e => absurd c12 e)
      refine z_iload B dX7_bestFor_87 5 rfl ?_
      refine z_istore_n (lv' := [(2, .int v5), (0, .ref u0), (1, .int u1), (3, .int v3), (4, .int v4), (5, .int v5)]) B dX7_bestFor_89 rfl (by decide) rfl ?_
      refine z_aload_n B dX7_bestFor_90 rfl 1 rfl ?_
      obtain ⟨w13, ew13, hf⟩ := zbs hf
      refine z_gI B fl_RX7_235 ew13 rfl dX7_bestFor_91 ?_
      refine z_istore_n (lv' := [(3, .int w13), (2, .int v5), (0, .ref u0), (1, .int u1), (4, .int v4), (5, .int v5)]) B dX7_bestFor_94 rfl (by decide) rfl ?_
      refine z_aload_n B dX7_bestFor_95 rfl 2 rfl ?_
      obtain ⟨w14, ew14, hf⟩ := zbs hf
      refine z_gI B fl_RX7_244 ew14 rfl dX7_bestFor_96 ?_
      refine z_istore (lv' := [(4, .int w14), (3, .int w13), (2, .int v5), (0, .ref u0), (1, .int u1), (5, .int v5)]) B dX7_bestFor_99 (by decide) rfl ?_
      refine z_iinc (v' := (v5 + 1)) (lv' := [(5, .int (v5 + 1)), (4, .int w14), (3, .int w13), (2, .int v5), (0, .ref u0), (1, .int u1)]) B dX7_bestFor_101 5 rfl rfl (by decide) rfl ?_
      refine z_goto B 33 dX7_bestFor_104 (by decide) ?_
      refine zV.sub [4, 5, 3, 2, 1, 0] rfl ?_
      exact ih _ _ _ _ _ hf
    refine z_icmp_lt B 87 dX7_bestFor_67 (by decide) (fun e => absurd e c12) (fun _ => ?_)
    refine z_aload_n B dX7_bestFor_70 rfl 0 rfl ?_
    obtain ⟨w15, ew15, hf⟩ := zbs hf
    refine z_gI B fl_RX7_235 ew15 rfl dX7_bestFor_71 ?_
    refine z_iload_n B dX7_bestFor_74 rfl 3 rfl ?_
    rcases zite hf with ⟨c16, hf⟩ | ⟨c16, hf⟩
    · refine z_icmp_ne B 101 dX7_bestFor_75 (by decide) (fun e => absurd c16 e) (fun _ => ?_)
      refine z_aload_n B dX7_bestFor_78 rfl 0 rfl ?_
      obtain ⟨w17, ew17, hf⟩ := zbs hf
      refine z_gI B fl_RX7_244 ew17 rfl dX7_bestFor_79 ?_
      refine z_iload B dX7_bestFor_82 4 rfl ?_
      rcases zite hf with ⟨c18, hf⟩ | ⟨c18, hf⟩
      · refine z_icmp_ge B 101 dX7_bestFor_84 (by decide) (fun _ => ?_) (fun e => absurd c18 e)
        refine z_iinc (v' := (v5 + 1)) (lv' := [(5, .int (v5 + 1)), (0, .ref u0), (1, .int u1), (2, .int v2), (3, .int v3), (4, .int v4)]) B dX7_bestFor_101 5 rfl rfl (by decide) rfl ?_
        refine z_goto B 33 dX7_bestFor_104 (by decide) ?_
        refine zV.sub [1, 2, 3, 4, 5, 0] rfl ?_
        exact ih _ _ _ _ _ hf
      refine z_icmp_ge B 101 dX7_bestFor_84 (by decide) (fun e => absurd e c18) (fun _ => ?_)
      refine z_iload B dX7_bestFor_87 5 rfl ?_
      refine z_istore_n (lv' := [(2, .int v5), (0, .ref u0), (1, .int u1), (3, .int v3), (4, .int v4), (5, .int v5)]) B dX7_bestFor_89 rfl (by decide) rfl ?_
      refine z_aload_n B dX7_bestFor_90 rfl 1 rfl ?_
      obtain ⟨w19, ew19, hf⟩ := zbs hf
      refine z_gI B fl_RX7_235 ew19 rfl dX7_bestFor_91 ?_
      refine z_istore_n (lv' := [(3, .int w19), (2, .int v5), (0, .ref u0), (1, .int u1), (4, .int v4), (5, .int v5)]) B dX7_bestFor_94 rfl (by decide) rfl ?_
      refine z_aload_n B dX7_bestFor_95 rfl 2 rfl ?_
      obtain ⟨w20, ew20, hf⟩ := zbs hf
      refine z_gI B fl_RX7_244 ew20 rfl dX7_bestFor_96 ?_
      refine z_istore (lv' := [(4, .int w20), (3, .int w19), (2, .int v5), (0, .ref u0), (1, .int u1), (5, .int v5)]) B dX7_bestFor_99 (by decide) rfl ?_
      refine z_iinc (v' := (v5 + 1)) (lv' := [(5, .int (v5 + 1)), (4, .int w20), (3, .int w19), (2, .int v5), (0, .ref u0), (1, .int u1)]) B dX7_bestFor_101 5 rfl rfl (by decide) rfl ?_
      refine z_goto B 33 dX7_bestFor_104 (by decide) ?_
      refine zV.sub [4, 5, 3, 2, 1, 0] rfl ?_
      exact ih _ _ _ _ _ hf
    refine z_icmp_ne B 101 dX7_bestFor_75 (by decide) (fun _ => ?_) (fun e => absurd e c16)
    refine z_iinc (v' := (v5 + 1)) (lv' := [(5, .int (v5 + 1)), (0, .ref u0), (1, .int u1), (2, .int v2), (3, .int v3), (4, .int v4)]) B dX7_bestFor_101 5 rfl rfl (by decide) rfl ?_
    refine z_goto B 33 dX7_bestFor_104 (by decide) ?_
    refine zV.sub [1, 2, 3, 4, 5, 0] rfl ?_
    exact ih _ _ _ _ _ hf
set_option maxRecDepth 100000 in
set_option maxHeartbeats 4000000 in
theorem tX7_bestFor {l : Launch} {G : zG} (hst : l.stackTraces = false) {h : zH} {a0 : Nat} {a1 : Int32} {r : Int32 × zH} (hf : fX7_bestFor h a0 a1 = some r) : zMet l G yX7_bestFor (.code yX7_bestFor cX7_bestFor 6 (some .int)) rm_X7_bestFor 0 0 [.ref a0, .int a1] h (zoi r) := by
  unfold fX7_bestFor at hf
  obtain ⟨-, hf⟩ := zck hf
  refine z_enter (by decide) (Nat.le_of_ble_eq_true rfl) hst (fun x hx B hE => ?_)
  subst hx
  have B : zB G x cX7_bestFor 6 RX7 "bestFor" rm_X7_bestFor (some .int) := B
  show zV G x 6 (zQ G x (zoi r) 0 0) h 0 0 0 [(0, .ref a0), (1, .int a1)] []
  refine z_aload_n B dX7_bestFor_0 rfl 0 rfl ?_
  refine z_aload_n B dX7_bestFor_1 rfl 0 rfl ?_
  refine z_iload_n B dX7_bestFor_2 rfl 1 rfl ?_
  obtain ⟨w1, h2, ew1, hf⟩ := zb2s hf
  refine z_callVi B [.int a1] [.ref a0] cw_X7_isPlace mv_RX7_201 (tX7_isPlace hst ew1) rfl (by decide) (kfX7_isPlace ew1) ⟨rfl, rfl, (Nat.le_of_ble_eq_true rfl), (Nat.le_of_ble_eq_true rfl), (Nat.le_of_ble_eq_true rfl), (Nat.le_of_ble_eq_true rfl)⟩ rfl rfl (Nat.le_of_ble_eq_true rfl) dX7_bestFor_3 ?_
  rcases zite hf with ⟨c3, hf⟩ | ⟨c3, hf⟩
  · refine z_if_eq B 13 dX7_bestFor_6 (by decide) (fun _ => ?_) (fun e => absurd c3 e)
    refine z_iconst (v := 1) B dX7_bestFor_13 (by decide) ?_
    obtain ⟨w4, h5, ew4, hf⟩ := zb2s hf
    refine z_callVi B [.int 1] [] cw_X7_refused mv_RX7_112 (tX7_refused hst ew4) rfl (by decide) (kfX7_refused ew4) ⟨rfl, rfl, (Nat.le_of_ble_eq_true rfl), (Nat.le_of_ble_eq_true rfl), (Nat.le_of_ble_eq_true rfl), (Nat.le_of_ble_eq_true rfl)⟩ rfl rfl (Nat.le_of_ble_eq_true rfl) dX7_bestFor_14 ?_
    rcases zite hf with ⟨c6, hf⟩ | ⟨c6, hf⟩
    · refine z_if_eq B 22 dX7_bestFor_17 (by decide) (fun _ => ?_) (fun e => absurd c6 e)
      refine z_bipush (v := (-9)) B dX7_bestFor_22 (by decide) ?_
      refine z_istore_n (lv' := [(2, .int (-9)), (0, .ref a0), (1, .int a1)]) B dX7_bestFor_24 rfl (by decide) rfl ?_
      refine z_iconst (v := 0) B dX7_bestFor_25 (by decide) ?_
      refine z_istore_n (lv' := [(3, .int 0), (2, .int (-9)), (0, .ref a0), (1, .int a1)]) B dX7_bestFor_26 rfl (by decide) rfl ?_
      refine z_iconst (v := 0) B dX7_bestFor_27 (by decide) ?_
      refine z_istore (lv' := [(4, .int 0), (3, .int 0), (2, .int (-9)), (0, .ref a0), (1, .int a1)]) B dX7_bestFor_28 (by decide) rfl ?_
      refine z_iconst (v := 0) B dX7_bestFor_30 (by decide) ?_
      refine z_istore (lv' := [(5, .int 0), (4, .int 0), (3, .int 0), (2, .int (-9)), (0, .ref a0), (1, .int a1)]) B dX7_bestFor_31 (by decide) rfl ?_
      refine zV.sub [4, 5, 3, 2, 1, 0] rfl ?_
      refine fX7_bestFor_L33_ok B hst hE (fun h7 y8 y9 y10 y11 hf => ?_) _ _ _ _ _ _ hf
      refine z_iload_n B dX7_bestFor_107 rfl 2 rfl ?_
      cases hf
      exact z_iret B dX7_bestFor_108 (Nat.le_of_ble_eq_true rfl) (Nat.le_of_ble_eq_true rfl)
    refine z_if_eq B 22 dX7_bestFor_17 (by decide) (fun e => absurd e c6) (fun _ => ?_)
    refine z_iconst (v := 0) B dX7_bestFor_20 (by decide) ?_
    cases hf
    exact z_iret B dX7_bestFor_21 (Nat.le_of_ble_eq_true rfl) (Nat.le_of_ble_eq_true rfl)
  refine z_if_eq B 13 dX7_bestFor_6 (by decide) (fun e => absurd e c3) (fun _ => ?_)
  refine z_iconst (v := 0) B dX7_bestFor_9 (by decide) ?_
  refine z_goto B 14 dX7_bestFor_10 (by decide) ?_
  obtain ⟨w12, h13, ew12, hf⟩ := zb2s hf
  refine z_callVi B [.int 0] [] cw_X7_refused mv_RX7_112 (tX7_refused hst ew12) rfl (by decide) (kfX7_refused ew12) ⟨rfl, rfl, (Nat.le_of_ble_eq_true rfl), (Nat.le_of_ble_eq_true rfl), (Nat.le_of_ble_eq_true rfl), (Nat.le_of_ble_eq_true rfl)⟩ rfl rfl (Nat.le_of_ble_eq_true rfl) dX7_bestFor_14 ?_
  rcases zite hf with ⟨c14, hf⟩ | ⟨c14, hf⟩
  · refine z_if_eq B 22 dX7_bestFor_17 (by decide) (fun _ => ?_) (fun e => absurd c14 e)
    refine z_bipush (v := (-9)) B dX7_bestFor_22 (by decide) ?_
    refine z_istore_n (lv' := [(2, .int (-9)), (0, .ref a0), (1, .int a1)]) B dX7_bestFor_24 rfl (by decide) rfl ?_
    refine z_iconst (v := 0) B dX7_bestFor_25 (by decide) ?_
    refine z_istore_n (lv' := [(3, .int 0), (2, .int (-9)), (0, .ref a0), (1, .int a1)]) B dX7_bestFor_26 rfl (by decide) rfl ?_
    refine z_iconst (v := 0) B dX7_bestFor_27 (by decide) ?_
    refine z_istore (lv' := [(4, .int 0), (3, .int 0), (2, .int (-9)), (0, .ref a0), (1, .int a1)]) B dX7_bestFor_28 (by decide) rfl ?_
    refine z_iconst (v := 0) B dX7_bestFor_30 (by decide) ?_
    refine z_istore (lv' := [(5, .int 0), (4, .int 0), (3, .int 0), (2, .int (-9)), (0, .ref a0), (1, .int a1)]) B dX7_bestFor_31 (by decide) rfl ?_
    refine zV.sub [4, 5, 3, 2, 1, 0] rfl ?_
    refine fX7_bestFor_L33_ok B hst hE (fun h15 y16 y17 y18 y19 hf => ?_) _ _ _ _ _ _ hf
    refine z_iload_n B dX7_bestFor_107 rfl 2 rfl ?_
    cases hf
    exact z_iret B dX7_bestFor_108 (Nat.le_of_ble_eq_true rfl) (Nat.le_of_ble_eq_true rfl)
  refine z_if_eq B 22 dX7_bestFor_17 (by decide) (fun e => absurd e c14) (fun _ => ?_)
  refine z_iconst (v := 0) B dX7_bestFor_20 (by decide) ?_
  cases hf
  exact z_iret B dX7_bestFor_21 (Nat.le_of_ble_eq_true rfl) (Nat.le_of_ble_eq_true rfl)
abbrev rm_X7_victimsOf : Room := { frames := 6, cells := 0, slots := 0, locals := 139 }
set_option maxRecDepth 100000 in
set_option maxHeartbeats 4000000 in
theorem fX7_victimsOf_L36_ok {G : zG} {x : zX} (B : zB G x cX7_victimsOf 5 RX7 "victimsOf" rm_X7_victimsOf (some .int)) (hst : (zl x).stackTraces = false) (hE : ∀ e ∈ (zc x).exceptionTable.toList, False) {r : Int32 × zH} {k : zH → Int32 → Int32 → Option (Int32 × zH)} {u0 : Nat} {u1 : Int32} {u2 : Int32} (hk : ∀ h v3 v4, k h v3 v4 = some r → zV G x 5 (zQ G x (zoi r) 0 0) h 0 0 73 [(0, .ref u0), (1, .int u1), (2, .int u2), (3, .int v3), (4, .int v4)] []) : ∀ n h v3 v4, fX7_victimsOf_L36 k u0 u1 u2 n h v3 v4 = some r → zV G x 5 (zQ G x (zoi r) 0 0) h 0 0 36 [(0, .ref u0), (1, .int u1), (2, .int u2), (3, .int v3), (4, .int v4)] [] := by
  intro n
  induction n with
  | zero =>
    intro h v3 v4 hf
    have hf : (none : Option (Int32 × zH)) = some r := hf
    cases hf
  | succ n ih =>
    intro h v3 v4 hf
    rw [fX7_victimsOf_L36] at hf
    refine z_iload B dX7_victimsOf_36 4 rfl ?_
    refine z_aload_n B dX7_victimsOf_38 rfl 0 rfl ?_
    obtain ⟨w1, ew1, hf⟩ := zbs hf
    refine z_gP B fl_RX7_59 ew1 rfl dX7_victimsOf_39 ?_
    refine z_iconst (v := 0) B dX7_victimsOf_42 (by decide) ?_
    obtain ⟨w2, ew2, hf⟩ := zbs hf
    refine z_aI B ew2 dX7_victimsOf_43 ?_
    rcases zite hf with ⟨c3, hf⟩ | ⟨c3, hf⟩
    · refine z_icmp_ge B 73 dX7_victimsOf_44 (by decide) (fun _ => ?_) (fun e => absurd c3 e)
      exact hk _ _ _ hf
    refine z_icmp_ge B 73 dX7_victimsOf_44 (by decide) (fun e => absurd e c3) (fun _ => ?_)
    refine z_iload_n B dX7_victimsOf_47 rfl 3 rfl ?_
    refine z_iconst (v := 1) B dX7_victimsOf_48 (by decide) ?_
    refine z_aload_n B dX7_victimsOf_49 rfl 0 rfl ?_
    obtain ⟨w4, ew4, hf⟩ := zbs hf
    refine z_gP B fl_RX7_59 ew4 rfl dX7_victimsOf_50 ?_
    refine z_iload B dX7_victimsOf_53 4 rfl ?_
    obtain ⟨w5, h6, ew5, hf⟩ := zb2s hf
    refine z_callSi B [.int v4] [.ref w4, .int 1, .int v3] cw_X7_at mt_RX7_163 (tX7_at hst ew5) ⟨rfl, rfl, (Nat.le_of_ble_eq_true rfl), (Nat.le_of_ble_eq_true rfl), (Nat.le_of_ble_eq_true rfl), (Nat.le_of_ble_eq_true rfl)⟩ rfl rfl (Nat.le_of_ble_eq_true rfl) dX7_victimsOf_55 ?_
    refine z_bipush (v := 27) B dX7_victimsOf_58 (by decide) ?_
    refine z_iadd B dX7_victimsOf_60 ?_
    obtain ⟨w7, ew7, hf⟩ := zbs hf
    refine z_aI B ew7 dX7_victimsOf_61 ?_
    refine z_ishl B dX7_victimsOf_62 ?_
    refine z_iconst (v := (-1)) B dX7_victimsOf_63 (by decide) ?_
    refine z_ixor B dX7_victimsOf_64 ?_
    refine z_iand B dX7_victimsOf_65 ?_
    refine z_istore_n (lv' := [(3, .int ((v3 : Int32) &&& ((((1 : Int32) <<< (w7 &&& 31)) : Int32) ^^^ (-1)))), (0, .ref u0), (1, .int u1), (2, .int u2), (4, .int v4)]) B dX7_victimsOf_66 rfl (by decide) rfl ?_
    refine z_iinc (v' := (v4 + 1)) (lv' := [(4, .int (v4 + 1)), (3, .int ((v3 : Int32) &&& ((((1 : Int32) <<< (w7 &&& 31)) : Int32) ^^^ (-1)))), (0, .ref u0), (1, .int u1), (2, .int u2)]) B dX7_victimsOf_67 4 rfl rfl (by decide) rfl ?_
    refine z_goto B 36 dX7_victimsOf_70 (by decide) ?_
    refine zV.sub [2, 3, 4, 1, 0] rfl ?_
    exact ih _ _ _ hf
set_option maxRecDepth 100000 in
set_option maxHeartbeats 4000000 in
theorem tX7_victimsOf {l : Launch} {G : zG} (hst : l.stackTraces = false) {h : zH} {a0 : Nat} {a1 : Int32} {r : Int32 × zH} (hf : fX7_victimsOf h a0 a1 = some r) : zMet l G yX7_victimsOf (.code yX7_victimsOf cX7_victimsOf 5 (some .int)) rm_X7_victimsOf 0 0 [.ref a0, .int a1] h (zoi r) := by
  unfold fX7_victimsOf at hf
  obtain ⟨-, hf⟩ := zck hf
  refine z_enter (by decide) (Nat.le_of_ble_eq_true rfl) hst (fun x hx B hE => ?_)
  subst hx
  have B : zB G x cX7_victimsOf 5 RX7 "victimsOf" rm_X7_victimsOf (some .int) := B
  show zV G x 5 (zQ G x (zoi r) 0 0) h 0 0 0 [(0, .ref a0), (1, .int a1)] []
  refine z_aload_n B dX7_victimsOf_0 rfl 0 rfl ?_
  obtain ⟨h1, eh1, hf⟩ := zbs hf
  refine z_callVv B [] [] cw_X7_tryNow mv_RX7_247 (tX7_tryNow hst eh1) rfl (by decide) (kfX7_tryNow eh1) ⟨rfl, rfl, (Nat.le_of_ble_eq_true rfl), (Nat.le_of_ble_eq_true rfl), (Nat.le_of_ble_eq_true rfl), (Nat.le_of_ble_eq_true rfl)⟩ rfl rfl (Nat.le_of_ble_eq_true rfl) dX7_victimsOf_1 ?_
  refine z_aload_n B dX7_victimsOf_4 rfl 0 rfl ?_
  obtain ⟨w2, ew2, hf⟩ := zbs hf
  refine z_gP B fl_RX7_56 ew2 rfl dX7_victimsOf_5 ?_
  refine z_iconst (v := 0) B dX7_victimsOf_8 (by decide) ?_
  obtain ⟨w3, ew3, hf⟩ := zbs hf
  refine z_aI B ew3 dX7_victimsOf_9 ?_
  refine z_istore_n (lv' := [(2, .int w3), (0, .ref a0), (1, .int a1)]) B dX7_victimsOf_10 rfl (by decide) rfl ?_
  refine z_aload_n B dX7_victimsOf_11 rfl 1 rfl ?_
  refine z_aload_n B dX7_victimsOf_12 rfl 1 rfl ?_
  obtain ⟨w4, ew4, hf⟩ := zbs hf
  refine z_gP B fl_RX7_59 ew4 rfl dX7_victimsOf_13 ?_
  refine z_iconst (v := 0) B dX7_victimsOf_16 (by decide) ?_
  refine z_iload_n B dX7_victimsOf_17 rfl 2 rfl ?_
  obtain ⟨w5, h6, ew5, hf⟩ := zb2s hf
  refine z_callVi B [.ref w4, .int 0, .int a1] [] cw_X7_copyOn mv_RX7_250 (tX7_copyOn hst ew5) rfl (by decide) (kfX7_copyOn ew5) ⟨rfl, rfl, (Nat.le_of_ble_eq_true rfl), (Nat.le_of_ble_eq_true rfl), (Nat.le_of_ble_eq_true rfl), (Nat.le_of_ble_eq_true rfl)⟩ rfl rfl (Nat.le_of_ble_eq_true rfl) dX7_victimsOf_18 ?_
  rcases zite hf with ⟨c7, hf⟩ | ⟨c7, hf⟩
  · refine z_if_le B 27 dX7_victimsOf_21 (by decide) (fun _ => ?_) (fun e => absurd c7 e)
    refine z_iconst (v := 1) B dX7_victimsOf_27 (by decide) ?_
    refine z_iload_n B dX7_victimsOf_28 rfl 0 rfl ?_
    refine z_ishl B dX7_victimsOf_29 ?_
    refine z_iconst (v := 1) B dX7_victimsOf_30 (by decide) ?_
    refine z_isub B dX7_victimsOf_31 ?_
    refine z_istore_n (lv' := [(3, .int ((((1 : Int32) <<< (w3 &&& 31)) : Int32) - 1)), (2, .int w3), (0, .ref a0), (1, .int a1)]) B dX7_victimsOf_32 rfl (by decide) rfl ?_
    refine z_iconst (v := 1) B dX7_victimsOf_33 (by decide) ?_
    refine z_istore (lv' := [(4, .int 1), (3, .int ((((1 : Int32) <<< (w3 &&& 31)) : Int32) - 1)), (2, .int w3), (0, .ref a0), (1, .int a1)]) B dX7_victimsOf_34 (by decide) rfl ?_
    refine zV.sub [3, 4, 2, 1, 0] rfl ?_
    refine fX7_victimsOf_L36_ok B hst hE (fun h8 y9 y10 hf => ?_) _ _ _ _ hf
    refine z_iload_n B dX7_victimsOf_73 rfl 3 rfl ?_
    cases hf
    exact z_iret B dX7_victimsOf_74 (Nat.le_of_ble_eq_true rfl) (Nat.le_of_ble_eq_true rfl)
  refine z_if_le B 27 dX7_victimsOf_21 (by decide) (fun e => absurd e c7) (fun _ => ?_)
  refine z_bipush (v := (-9)) B dX7_victimsOf_24 (by decide) ?_
  cases hf
  exact z_iret B dX7_victimsOf_26 (Nat.le_of_ble_eq_true rfl) (Nat.le_of_ble_eq_true rfl)
abbrev rm_X7_victims : Room := { frames := 7, cells := 0, slots := 0, locals := 163 }
set_option maxRecDepth 100000 in
set_option maxHeartbeats 4000000 in
theorem tX7_victims {l : Launch} {G : zG} (hst : l.stackTraces = false) {h : zH} {a0 : Nat} {a1 : Int32} {r : Int32 × zH} (hf : fX7_victims h a0 a1 = some r) : zMet l G yX7_victims (.code yX7_victims cX7_victims 2 (some .int)) rm_X7_victims 0 0 [.ref a0, .int a1] h (zoi r) := by
  unfold fX7_victims at hf
  obtain ⟨-, hf⟩ := zck hf
  refine z_enter (by decide) (Nat.le_of_ble_eq_true rfl) hst (fun x hx B hE => ?_)
  subst hx
  have B : zB G x cX7_victims 2 RX7 "victims" rm_X7_victims (some .int) := B
  show zV G x 2 (zQ G x (zoi r) 0 0) h 0 0 0 [(0, .ref a0), (1, .int a1)] []
  refine z_aload_n B dX7_victims_0 rfl 0 rfl ?_
  refine z_iload_n B dX7_victims_1 rfl 1 rfl ?_
  refine z_i2l B dX7_victims_2 ?_
  refine z_lconst (v := 1) B dX7_victims_3 (by decide) ?_
  refine z_ldc2 B dX7_victims_4 kl_RX7_217 ?_
  obtain ⟨w1, h2, ew1, hf⟩ := zb2s hf
  refine z_callSi B [.long (a1 : Int32).toInt64, .long 1, .long 9999] [.ref a0] cw_X7_in mt_RX7_97 (tX7_in hst ew1) ⟨rfl, rfl, (Nat.le_of_ble_eq_true rfl), (Nat.le_of_ble_eq_true rfl), (Nat.le_of_ble_eq_true rfl), (Nat.le_of_ble_eq_true rfl)⟩ rfl rfl (Nat.le_of_ble_eq_true rfl) dX7_victims_7 ?_
  rcases zite hf with ⟨c3, hf⟩ | ⟨c3, hf⟩
  · refine z_if_eq B 17 dX7_victims_10 (by decide) (fun _ => ?_) (fun e => absurd c3 e)
    refine z_iconst (v := 1) B dX7_victims_17 (by decide) ?_
    obtain ⟨w4, h5, ew4, hf⟩ := zb2s hf
    refine z_callVi B [.int 1] [] cw_X7_refused mv_RX7_112 (tX7_refused hst ew4) rfl (by decide) (kfX7_refused ew4) ⟨rfl, rfl, (Nat.le_of_ble_eq_true rfl), (Nat.le_of_ble_eq_true rfl), (Nat.le_of_ble_eq_true rfl), (Nat.le_of_ble_eq_true rfl)⟩ rfl rfl (Nat.le_of_ble_eq_true rfl) dX7_victims_18 ?_
    rcases zite hf with ⟨c6, hf⟩ | ⟨c6, hf⟩
    · refine z_if_eq B 26 dX7_victims_21 (by decide) (fun _ => ?_) (fun e => absurd c6 e)
      refine z_aload_n B dX7_victims_26 rfl 0 rfl ?_
      refine z_iload_n B dX7_victims_27 rfl 1 rfl ?_
      obtain ⟨w7, h8, ew7, hf⟩ := zb2s hf
      refine z_callVi B [.int a1] [] cw_X7_victimsOf mv_RX7_303 (tX7_victimsOf hst ew7) rfl (by decide) (kfX7_victimsOf ew7) ⟨rfl, rfl, (Nat.le_of_ble_eq_true rfl), (Nat.le_of_ble_eq_true rfl), (Nat.le_of_ble_eq_true rfl), (Nat.le_of_ble_eq_true rfl)⟩ rfl rfl (Nat.le_of_ble_eq_true rfl) dX7_victims_28 ?_
      cases hf
      exact z_iret B dX7_victims_31 (Nat.le_of_ble_eq_true rfl) (Nat.le_of_ble_eq_true rfl)
    refine z_if_eq B 26 dX7_victims_21 (by decide) (fun e => absurd e c6) (fun _ => ?_)
    refine z_iconst (v := 0) B dX7_victims_24 (by decide) ?_
    cases hf
    exact z_iret B dX7_victims_25 (Nat.le_of_ble_eq_true rfl) (Nat.le_of_ble_eq_true rfl)
  refine z_if_eq B 17 dX7_victims_10 (by decide) (fun e => absurd e c3) (fun _ => ?_)
  refine z_iconst (v := 0) B dX7_victims_13 (by decide) ?_
  refine z_goto B 18 dX7_victims_14 (by decide) ?_
  obtain ⟨w9, h10, ew9, hf⟩ := zb2s hf
  refine z_callVi B [.int 0] [] cw_X7_refused mv_RX7_112 (tX7_refused hst ew9) rfl (by decide) (kfX7_refused ew9) ⟨rfl, rfl, (Nat.le_of_ble_eq_true rfl), (Nat.le_of_ble_eq_true rfl), (Nat.le_of_ble_eq_true rfl), (Nat.le_of_ble_eq_true rfl)⟩ rfl rfl (Nat.le_of_ble_eq_true rfl) dX7_victims_18 ?_
  rcases zite hf with ⟨c11, hf⟩ | ⟨c11, hf⟩
  · refine z_if_eq B 26 dX7_victims_21 (by decide) (fun _ => ?_) (fun e => absurd c11 e)
    refine z_aload_n B dX7_victims_26 rfl 0 rfl ?_
    refine z_iload_n B dX7_victims_27 rfl 1 rfl ?_
    obtain ⟨w12, h13, ew12, hf⟩ := zb2s hf
    refine z_callVi B [.int a1] [] cw_X7_victimsOf mv_RX7_303 (tX7_victimsOf hst ew12) rfl (by decide) (kfX7_victimsOf ew12) ⟨rfl, rfl, (Nat.le_of_ble_eq_true rfl), (Nat.le_of_ble_eq_true rfl), (Nat.le_of_ble_eq_true rfl), (Nat.le_of_ble_eq_true rfl)⟩ rfl rfl (Nat.le_of_ble_eq_true rfl) dX7_victims_28 ?_
    cases hf
    exact z_iret B dX7_victims_31 (Nat.le_of_ble_eq_true rfl) (Nat.le_of_ble_eq_true rfl)
  refine z_if_eq B 26 dX7_victims_21 (by decide) (fun e => absurd e c11) (fun _ => ?_)
  refine z_iconst (v := 0) B dX7_victims_24 (by decide) ?_
  cases hf
  exact z_iret B dX7_victims_25 (Nat.le_of_ble_eq_true rfl) (Nat.le_of_ble_eq_true rfl)
abbrev rm_X7_room : Room := { frames := 3, cells := 0, slots := 0, locals := 65 }
set_option maxRecDepth 100000 in
set_option maxHeartbeats 4000000 in
theorem fX7_room_L21_ok {G : zG} {x : zX} (B : zB G x cX7_room 4 RX7 "room" rm_X7_room (some .int)) (hst : (zl x).stackTraces = false) (hE : ∀ e ∈ (zc x).exceptionTable.toList, False) {r : Int32 × zH} {k : zH → Int32 → Int32 → Option (Int32 × zH)} {u0 : Nat} {u2 : Int32} (hk : ∀ h v1 v3, k h v1 v3 = some r → zV G x 4 (zQ G x (zoi r) 0 0) h 0 0 71 [(0, .ref u0), (1, .int v1), (2, .int u2), (3, .int v3)] []) : ∀ n h v1 v3, fX7_room_L21 k u0 u2 n h v1 v3 = some r → zV G x 4 (zQ G x (zoi r) 0 0) h 0 0 21 [(0, .ref u0), (1, .int v1), (2, .int u2), (3, .int v3)] [] := by
  intro n
  induction n with
  | zero =>
    intro h v1 v3 hf
    have hf : (none : Option (Int32 × zH)) = some r := hf
    cases hf
  | succ n ih =>
    intro h v1 v3 hf
    rw [fX7_room_L21] at hf
    refine z_iload_n B dX7_room_21 rfl 3 rfl ?_
    refine z_bipush (v := 8) B dX7_room_22 (by decide) ?_
    rcases zite hf with ⟨c1, hf⟩ | ⟨c1, hf⟩
    · refine z_icmp_ge B 71 dX7_room_24 (by decide) (fun _ => ?_) (fun e => absurd c1 e)
      exact hk _ _ _ hf
    refine z_icmp_ge B 71 dX7_room_24 (by decide) (fun e => absurd e c1) (fun _ => ?_)
    refine z_iload_n B dX7_room_27 rfl 1 rfl ?_
    refine z_aload_n B dX7_room_28 rfl 0 rfl ?_
    obtain ⟨w2, ew2, hf⟩ := zbs hf
    refine z_gP B fl_RX7_56 ew2 rfl dX7_room_29 ?_
    refine z_iload_n B dX7_room_32 rfl 2 rfl ?_
    obtain ⟨w3, h4, ew3, hf⟩ := zb2s hf
    refine z_callSi B [.int u2] [.ref w2, .int v1] cw_X7_at mt_RX7_163 (tX7_at hst ew3) ⟨rfl, rfl, (Nat.le_of_ble_eq_true rfl), (Nat.le_of_ble_eq_true rfl), (Nat.le_of_ble_eq_true rfl), (Nat.le_of_ble_eq_true rfl)⟩ rfl rfl (Nat.le_of_ble_eq_true rfl) dX7_room_33 ?_
    refine z_bipush (v := 16) B dX7_room_36 (by decide) ?_
    refine z_iadd B dX7_room_38 ?_
    refine z_iload_n B dX7_room_39 rfl 3 rfl ?_
    refine z_iadd B dX7_room_40 ?_
    obtain ⟨w5, ew5, hf⟩ := zbs hf
    refine z_aI B ew5 dX7_room_41 ?_
    refine z_iconst (v := 2) B dX7_room_42 (by decide) ?_
    rcases zite hf with ⟨c6, hf⟩ | ⟨c6, hf⟩
    · refine z_icmp_ne B 62 dX7_room_43 (by decide) (fun e => absurd c6 e) (fun _ => ?_)
      refine z_aload_n B dX7_room_46 rfl 0 rfl ?_
      obtain ⟨w7, ew7, hf⟩ := zbs hf
      refine z_gP B fl_RX7_56 ew7 rfl dX7_room_47 ?_
      refine z_iload_n B dX7_room_50 rfl 2 rfl ?_
      obtain ⟨w8, h9, ew8, hf⟩ := zb2s hf
      refine z_callSi B [.int u2] [.ref w7, .int v1] cw_X7_at mt_RX7_163 (tX7_at hst ew8) ⟨rfl, rfl, (Nat.le_of_ble_eq_true rfl), (Nat.le_of_ble_eq_true rfl), (Nat.le_of_ble_eq_true rfl), (Nat.le_of_ble_eq_true rfl)⟩ rfl rfl (Nat.le_of_ble_eq_true rfl) dX7_room_51 ?_
      refine z_iconst (v := 0) B dX7_room_54 (by decide) ?_
      refine z_iadd B dX7_room_55 ?_
      refine z_iload_n B dX7_room_56 rfl 3 rfl ?_
      refine z_iadd B dX7_room_57 ?_
      obtain ⟨w10, ew10, hf⟩ := zbs hf
      refine z_aI B ew10 dX7_room_58 ?_
      refine z_goto B 63 dX7_room_59 (by decide) ?_
      refine z_iadd B dX7_room_63 ?_
      refine z_istore_n (lv' := [(1, .int ((v1 : Int32) + w10)), (0, .ref u0), (2, .int u2), (3, .int v3)]) B dX7_room_64 rfl (by decide) rfl ?_
      refine z_iinc (v' := (v3 + 1)) (lv' := [(3, .int (v3 + 1)), (1, .int ((v1 : Int32) + w10)), (0, .ref u0), (2, .int u2)]) B dX7_room_65 3 rfl rfl (by decide) rfl ?_
      refine z_goto B 21 dX7_room_68 (by decide) ?_
      refine zV.sub [2, 1, 3, 0] rfl ?_
      exact ih _ _ _ hf
    refine z_icmp_ne B 62 dX7_room_43 (by decide) (fun _ => ?_) (fun e => absurd e c6)
    refine z_iconst (v := 0) B dX7_room_62 (by decide) ?_
    refine z_iadd B dX7_room_63 ?_
    refine z_istore_n (lv' := [(1, .int ((v1 : Int32) + 0)), (0, .ref u0), (2, .int u2), (3, .int v3)]) B dX7_room_64 rfl (by decide) rfl ?_
    refine z_iinc (v' := (v3 + 1)) (lv' := [(3, .int (v3 + 1)), (1, .int ((v1 : Int32) + 0)), (0, .ref u0), (2, .int u2)]) B dX7_room_65 3 rfl rfl (by decide) rfl ?_
    refine z_goto B 21 dX7_room_68 (by decide) ?_
    refine zV.sub [2, 1, 3, 0] rfl ?_
    exact ih _ _ _ hf
set_option maxRecDepth 100000 in
set_option maxHeartbeats 4000000 in
theorem fX7_room_L9_ok {G : zG} {x : zX} (B : zB G x cX7_room 4 RX7 "room" rm_X7_room (some .int)) (hst : (zl x).stackTraces = false) (hE : ∀ e ∈ (zc x).exceptionTable.toList, False) {r : Int32 × zH} {k : zH → Int32 → Int32 → Option (Int32 × zH)} {u0 : Nat} (hk : ∀ h v1 v2, k h v1 v2 = some r → zV G x 4 (zQ G x (zoi r) 0 0) h 0 0 77 [(0, .ref u0), (1, .int v1), (2, .int v2)] []) : ∀ n h v1 v2, fX7_room_L9 k u0 n h v1 v2 = some r → zV G x 4 (zQ G x (zoi r) 0 0) h 0 0 9 [(0, .ref u0), (1, .int v1), (2, .int v2)] [] := by
  intro n
  induction n with
  | zero =>
    intro h v1 v2 hf
    have hf : (none : Option (Int32 × zH)) = some r := hf
    cases hf
  | succ n ih =>
    intro h v1 v2 hf
    rw [fX7_room_L9] at hf
    refine z_iload_n B dX7_room_9 rfl 2 rfl ?_
    refine z_aload_n B dX7_room_10 rfl 0 rfl ?_
    obtain ⟨w1, ew1, hf⟩ := zbs hf
    refine z_gP B fl_RX7_56 ew1 rfl dX7_room_11 ?_
    refine z_iconst (v := 0) B dX7_room_14 (by decide) ?_
    obtain ⟨w2, ew2, hf⟩ := zbs hf
    refine z_aI B ew2 dX7_room_15 ?_
    rcases zite hf with ⟨c3, hf⟩ | ⟨c3, hf⟩
    · refine z_icmp_ge B 77 dX7_room_16 (by decide) (fun _ => ?_) (fun e => absurd c3 e)
      exact hk _ _ _ hf
    refine z_icmp_ge B 77 dX7_room_16 (by decide) (fun e => absurd e c3) (fun _ => ?_)
    refine z_iconst (v := 0) B dX7_room_19 (by decide) ?_
    refine z_istore_n (lv' := [(3, .int 0), (0, .ref u0), (1, .int v1), (2, .int v2)]) B dX7_room_20 rfl (by decide) rfl ?_
    refine zV.sub [1, 2, 3, 0] rfl ?_
    refine fX7_room_L21_ok B hst hE (fun h4 y5 y6 hf => ?_) _ _ _ _ hf
    refine z_iinc (v' := (v2 + 1)) (lv' := [(2, .int (v2 + 1)), (0, .ref u0), (1, .int y5), (3, .int y6)]) B dX7_room_71 2 rfl rfl (by decide) rfl ?_
    refine z_goto B 9 dX7_room_74 (by decide) ?_
    refine zV.sub [1, 2, 0] rfl ?_
    exact ih _ _ _ hf
set_option maxRecDepth 100000 in
set_option maxHeartbeats 4000000 in
theorem tX7_room {l : Launch} {G : zG} (hst : l.stackTraces = false) {h : zH} {a0 : Nat} {r : Int32 × zH} (hf : fX7_room h a0 = some r) : zMet l G yX7_room (.code yX7_room cX7_room 4 (some .int)) rm_X7_room 0 0 [.ref a0] h (zoi r) := by
  unfold fX7_room at hf
  obtain ⟨-, hf⟩ := zck hf
  refine z_enter (by decide) (Nat.le_of_ble_eq_true rfl) hst (fun x hx B hE => ?_)
  subst hx
  have B : zB G x cX7_room 4 RX7 "room" rm_X7_room (some .int) := B
  show zV G x 4 (zQ G x (zoi r) 0 0) h 0 0 0 [(0, .ref a0)] []
  refine z_aload_n B dX7_room_0 rfl 0 rfl ?_
  refine z_iconst (v := 0) B dX7_room_1 (by decide) ?_
  obtain ⟨h1, eh1, hf⟩ := zbs hf
  refine z_pI B fl_RX7_84 eh1 rfl dX7_room_2 ?_
  refine z_iconst (v := 0) B dX7_room_5 (by decide) ?_
  refine z_istore_n (lv' := [(1, .int 0), (0, .ref a0)]) B dX7_room_6 rfl (by decide) rfl ?_
  refine z_iconst (v := 0) B dX7_room_7 (by decide) ?_
  refine z_istore_n (lv' := [(2, .int 0), (1, .int 0), (0, .ref a0)]) B dX7_room_8 rfl (by decide) rfl ?_
  refine zV.sub [2, 1, 0] rfl ?_
  refine fX7_room_L9_ok B hst hE (fun h2 y3 y4 hf => ?_) _ _ _ _ hf
  refine z_aload_n B dX7_room_77 rfl 0 rfl ?_
  obtain ⟨w5, ew5, hf⟩ := zbs hf
  refine z_gP B fl_RX7_56 ew5 rfl dX7_room_78 ?_
  refine z_iconst (v := 3) B dX7_room_81 (by decide) ?_
  obtain ⟨w6, ew6, hf⟩ := zbs hf
  refine z_aI B ew6 dX7_room_82 ?_
  refine z_aload_n B dX7_room_83 rfl 0 rfl ?_
  obtain ⟨w7, ew7, hf⟩ := zbs hf
  refine z_gP B fl_RX7_56 ew7 rfl dX7_room_84 ?_
  obtain ⟨w8, h9, ew8, hf⟩ := zb2s hf
  refine z_callSi B [.ref w7] [.int w6] cw_X7_used mt_RX7_176 (tX7_used hst ew8) ⟨rfl, rfl, (Nat.le_of_ble_eq_true rfl), (Nat.le_of_ble_eq_true rfl), (Nat.le_of_ble_eq_true rfl), (Nat.le_of_ble_eq_true rfl)⟩ rfl rfl (Nat.le_of_ble_eq_true rfl) dX7_room_87 ?_
  refine z_isub B dX7_room_90 ?_
  refine z_iload_n B dX7_room_91 rfl 1 rfl ?_
  refine z_iadd B dX7_room_92 ?_
  refine z_istore_n (lv' := [(2, .int ((((w6 : Int32) - w8) : Int32) + y3)), (0, .ref a0), (1, .int y3)]) B dX7_room_93 rfl (by decide) rfl ?_
  refine z_aload_n B dX7_room_94 rfl 1 rfl ?_
  obtain ⟨w10, ew10, hf⟩ := zbs hf
  refine z_gP B fl_RX7_56 ew10 rfl dX7_room_95 ?_
  refine z_iconst (v := 0) B dX7_room_98 (by decide) ?_
  obtain ⟨w11, ew11, hf⟩ := zbs hf
  refine z_aI B ew11 dX7_room_99 ?_
  refine z_bipush (v := 12) B dX7_room_100 (by decide) ?_
  rcases zite hf with ⟨c12, hf⟩ | ⟨c12, hf⟩
  · refine z_icmp_eq B 109 dX7_room_102 (by decide) (fun _ => ?_) (fun e => absurd c12 e)
    refine z_iconst (v := 0) B dX7_room_109 (by decide) ?_
    refine z_goto B 127 dX7_room_110 (by decide) ?_
    cases hf
    exact z_iret B dX7_room_127 (Nat.le_of_ble_eq_true rfl) (Nat.le_of_ble_eq_true rfl)
  refine z_icmp_eq B 109 dX7_room_102 (by decide) (fun e => absurd e c12) (fun _ => ?_)
  refine z_iload_n B dX7_room_105 rfl 0 rfl ?_
  rcases zite hf with ⟨c13, hf⟩ | ⟨c13, hf⟩
  · refine z_if_ge B 113 dX7_room_106 (by decide) (fun _ => ?_) (fun e => absurd c13 e)
    refine z_iload_n B dX7_room_113 rfl 0 rfl ?_
    refine z_sipush (v := 9999) B dX7_room_114 (by decide) ?_
    rcases zite hf with ⟨c14, hf⟩ | ⟨c14, hf⟩
    · refine z_icmp_le B 126 dX7_room_117 (by decide) (fun _ => ?_) (fun e => absurd c14 e)
      refine z_iload_n B dX7_room_126 rfl 0 rfl ?_
      cases hf
      exact z_iret B dX7_room_127 (Nat.le_of_ble_eq_true rfl) (Nat.le_of_ble_eq_true rfl)
    refine z_icmp_le B 126 dX7_room_117 (by decide) (fun e => absurd e c14) (fun _ => ?_)
    refine z_sipush (v := 9999) B dX7_room_120 (by decide) ?_
    refine z_goto B 127 dX7_room_123 (by decide) ?_
    cases hf
    exact z_iret B dX7_room_127 (Nat.le_of_ble_eq_true rfl) (Nat.le_of_ble_eq_true rfl)
  refine z_if_ge B 113 dX7_room_106 (by decide) (fun e => absurd e c13) (fun _ => ?_)
  refine z_iconst (v := 0) B dX7_room_109 (by decide) ?_
  refine z_goto B 127 dX7_room_110 (by decide) ?_
  cases hf
  exact z_iret B dX7_room_127 (Nat.le_of_ble_eq_true rfl) (Nat.le_of_ble_eq_true rfl)
abbrev rm_X7_ranked : Room := { frames := 3, cells := 0, slots := 0, locals := 66 }
set_option maxRecDepth 100000 in
set_option maxHeartbeats 4000000 in
theorem fX7_ranked_L45_ok {G : zG} {x : zX} (B : zB G x cX7_ranked 6 RX7 "ranked" rm_X7_ranked (some .int)) (hst : (zl x).stackTraces = false) (hE : ∀ e ∈ (zc x).exceptionTable.toList, False) {r : Int32 × zH} {k : zH → Int32 → Int32 → Option (Int32 × zH)} {u0 : Nat} {u1 : Int32} {u2 : Int32} {u3 : Int32} (hk : ∀ h v4 v5, k h v4 v5 = some r → zV G x 6 (zQ G x (zoi r) 0 0) h 0 0 118 [(0, .ref u0), (1, .int u1), (2, .int u2), (3, .int u3), (4, .int v4), (5, .int v5)] []) : ∀ n h v4 v5, fX7_ranked_L45 k u0 u1 u2 u3 n h v4 v5 = some r → zV G x 6 (zQ G x (zoi r) 0 0) h 0 0 45 [(0, .ref u0), (1, .int u1), (2, .int u2), (3, .int u3), (4, .int v4), (5, .int v5)] [] := by
  intro n
  induction n with
  | zero =>
    intro h v4 v5 hf
    have hf : (none : Option (Int32 × zH)) = some r := hf
    cases hf
  | succ n ih =>
    intro h v4 v5 hf
    rw [fX7_ranked_L45] at hf
    refine z_iload B dX7_ranked_45 5 rfl ?_
    refine z_aload_n B dX7_ranked_47 rfl 0 rfl ?_
    obtain ⟨w1, ew1, hf⟩ := zbs hf
    refine z_gP B fl_RX7_56 ew1 rfl dX7_ranked_48 ?_
    refine z_iconst (v := 0) B dX7_ranked_51 (by decide) ?_
    obtain ⟨w2, ew2, hf⟩ := zbs hf
    refine z_aI B ew2 dX7_ranked_52 ?_
    rcases zite hf with ⟨c3, hf⟩ | ⟨c3, hf⟩
    · refine z_icmp_ge B 118 dX7_ranked_53 (by decide) (fun _ => ?_) (fun e => absurd c3 e)
      exact hk _ _ _ hf
    refine z_icmp_ge B 118 dX7_ranked_53 (by decide) (fun e => absurd e c3) (fun _ => ?_)
    refine z_iload B dX7_ranked_56 4 rfl ?_
    refine z_aload_n B dX7_ranked_58 rfl 0 rfl ?_
    obtain ⟨w4, ew4, hf⟩ := zbs hf
    refine z_gP B fl_RX7_56 ew4 rfl dX7_ranked_59 ?_
    refine z_iload B dX7_ranked_62 5 rfl ?_
    obtain ⟨w5, h6, ew5, hf⟩ := zb2s hf
    refine z_callSi B [.ref w4, .int v5] [.int v4] cw_X7_weight mt_RX7_173 (tX7_weight hst ew5) ⟨rfl, rfl, (Nat.le_of_ble_eq_true rfl), (Nat.le_of_ble_eq_true rfl), (Nat.le_of_ble_eq_true rfl), (Nat.le_of_ble_eq_true rfl)⟩ rfl rfl (Nat.le_of_ble_eq_true rfl) dX7_ranked_64 ?_
    refine z_aload_n B dX7_ranked_67 rfl 0 rfl ?_
    obtain ⟨w7, ew7, hf⟩ := zbs hf
    refine z_gP B fl_RX7_56 ew7 rfl dX7_ranked_68 ?_
    refine z_iload_n B dX7_ranked_71 rfl 3 rfl ?_
    obtain ⟨w8, h9, ew8, hf⟩ := zb2s hf
    refine z_callSi B [.ref w7, .int u3] [.int w5, .int v4] cw_X7_weight mt_RX7_173 (tX7_weight hst ew8) ⟨rfl, rfl, (Nat.le_of_ble_eq_true rfl), (Nat.le_of_ble_eq_true rfl), (Nat.le_of_ble_eq_true rfl), (Nat.le_of_ble_eq_true rfl)⟩ rfl rfl (Nat.le_of_ble_eq_true rfl) dX7_ranked_72 ?_
    rcases zite hf with ⟨c10, hf⟩ | ⟨c10, hf⟩
    · refine z_icmp_gt B 104 dX7_ranked_75 (by decide) (fun _ => ?_) (fun e => absurd c10 e)
      refine z_iconst (v := 1) B dX7_ranked_104 (by decide) ?_
      refine z_goto B 109 dX7_ranked_105 (by decide) ?_
      refine z_iadd B dX7_ranked_109 ?_
      refine z_istore (lv' := [(4, .int ((v4 : Int32) + 1)), (0, .ref u0), (1, .int u1), (2, .int u2), (3, .int u3), (5, .int v5)]) B dX7_ranked_110 (by decide) rfl ?_
      refine z_iinc (v' := (v5 + 1)) (lv' := [(5, .int (v5 + 1)), (4, .int ((v4 : Int32) + 1)), (0, .ref u0), (1, .int u1), (2, .int u2), (3, .int u3)]) B dX7_ranked_112 5 rfl rfl (by decide) rfl ?_
      refine z_goto B 45 dX7_ranked_115 (by decide) ?_
      refine zV.sub [2, 3, 4, 5, 1, 0] rfl ?_
      exact ih _ _ _ hf
    refine z_icmp_gt B 104 dX7_ranked_75 (by decide) (fun e => absurd e c10) (fun _ => ?_)
    refine z_aload_n B dX7_ranked_78 rfl 0 rfl ?_
    obtain ⟨w11, ew11, hf⟩ := zbs hf
    refine z_gP B fl_RX7_56 ew11 rfl dX7_ranked_79 ?_
    refine z_iload B dX7_ranked_82 5 rfl ?_
    obtain ⟨w12, h13, ew12, hf⟩ := zb2s hf
    refine z_callSi B [.ref w11, .int v5] [.int v4] cw_X7_weight mt_RX7_173 (tX7_weight hst ew12) ⟨rfl, rfl, (Nat.le_of_ble_eq_true rfl), (Nat.le_of_ble_eq_true rfl), (Nat.le_of_ble_eq_true rfl), (Nat.le_of_ble_eq_true rfl)⟩ rfl rfl (Nat.le_of_ble_eq_true rfl) dX7_ranked_84 ?_
    refine z_aload_n B dX7_ranked_87 rfl 0 rfl ?_
    obtain ⟨w14, ew14, hf⟩ := zbs hf
    refine z_gP B fl_RX7_56 ew14 rfl dX7_ranked_88 ?_
    refine z_iload_n B dX7_ranked_91 rfl 3 rfl ?_
    obtain ⟨w15, h16, ew15, hf⟩ := zb2s hf
    refine z_callSi B [.ref w14, .int u3] [.int w12, .int v4] cw_X7_weight mt_RX7_173 (tX7_weight hst ew15) ⟨rfl, rfl, (Nat.le_of_ble_eq_true rfl), (Nat.le_of_ble_eq_true rfl), (Nat.le_of_ble_eq_true rfl), (Nat.le_of_ble_eq_true rfl)⟩ rfl rfl (Nat.le_of_ble_eq_true rfl) dX7_ranked_92 ?_
    rcases zite hf with ⟨c17, hf⟩ | ⟨c17, hf⟩
    · refine z_icmp_ne B 108 dX7_ranked_95 (by decide) (fun e => absurd c17 e) (fun _ => ?_)
      refine z_iload B dX7_ranked_98 5 rfl ?_
      refine z_iload_n B dX7_ranked_100 rfl 3 rfl ?_
      rcases zite hf with ⟨c18, hf⟩ | ⟨c18, hf⟩
      · refine z_icmp_le B 108 dX7_ranked_101 (by decide) (fun _ => ?_) (fun e => absurd c18 e)
        refine z_iconst (v := 0) B dX7_ranked_108 (by decide) ?_
        refine z_iadd B dX7_ranked_109 ?_
        refine z_istore (lv' := [(4, .int ((v4 : Int32) + 0)), (0, .ref u0), (1, .int u1), (2, .int u2), (3, .int u3), (5, .int v5)]) B dX7_ranked_110 (by decide) rfl ?_
        refine z_iinc (v' := (v5 + 1)) (lv' := [(5, .int (v5 + 1)), (4, .int ((v4 : Int32) + 0)), (0, .ref u0), (1, .int u1), (2, .int u2), (3, .int u3)]) B dX7_ranked_112 5 rfl rfl (by decide) rfl ?_
        refine z_goto B 45 dX7_ranked_115 (by decide) ?_
        refine zV.sub [2, 3, 4, 5, 1, 0] rfl ?_
        exact ih _ _ _ hf
      refine z_icmp_le B 108 dX7_ranked_101 (by decide) (fun e => absurd e c18) (fun _ => ?_)
      refine z_iconst (v := 1) B dX7_ranked_104 (by decide) ?_
      refine z_goto B 109 dX7_ranked_105 (by decide) ?_
      refine z_iadd B dX7_ranked_109 ?_
      refine z_istore (lv' := [(4, .int ((v4 : Int32) + 1)), (0, .ref u0), (1, .int u1), (2, .int u2), (3, .int u3), (5, .int v5)]) B dX7_ranked_110 (by decide) rfl ?_
      refine z_iinc (v' := (v5 + 1)) (lv' := [(5, .int (v5 + 1)), (4, .int ((v4 : Int32) + 1)), (0, .ref u0), (1, .int u1), (2, .int u2), (3, .int u3)]) B dX7_ranked_112 5 rfl rfl (by decide) rfl ?_
      refine z_goto B 45 dX7_ranked_115 (by decide) ?_
      refine zV.sub [2, 3, 4, 5, 1, 0] rfl ?_
      exact ih _ _ _ hf
    refine z_icmp_ne B 108 dX7_ranked_95 (by decide) (fun _ => ?_) (fun e => absurd e c17)
    refine z_iconst (v := 0) B dX7_ranked_108 (by decide) ?_
    refine z_iadd B dX7_ranked_109 ?_
    refine z_istore (lv' := [(4, .int ((v4 : Int32) + 0)), (0, .ref u0), (1, .int u1), (2, .int u2), (3, .int u3), (5, .int v5)]) B dX7_ranked_110 (by decide) rfl ?_
    refine z_iinc (v' := (v5 + 1)) (lv' := [(5, .int (v5 + 1)), (4, .int ((v4 : Int32) + 0)), (0, .ref u0), (1, .int u1), (2, .int u2), (3, .int u3)]) B dX7_ranked_112 5 rfl rfl (by decide) rfl ?_
    refine z_goto B 45 dX7_ranked_115 (by decide) ?_
    refine zV.sub [2, 3, 4, 5, 1, 0] rfl ?_
    exact ih _ _ _ hf
set_option maxRecDepth 100000 in
set_option maxHeartbeats 4000000 in
theorem fX7_ranked_L29_ok {G : zG} {x : zX} (B : zB G x cX7_ranked 6 RX7 "ranked" rm_X7_ranked (some .int)) (hst : (zl x).stackTraces = false) (hE : ∀ e ∈ (zc x).exceptionTable.toList, False) {r : Int32 × zH} {k : zH → Int32 → Int32 → Option (Int32 × zH)} {u0 : Nat} {u1 : Int32} (hk : ∀ h v2 v3, k h v2 v3 = some r → zV G x 6 (zQ G x (zoi r) 0 0) h 0 0 136 [(0, .ref u0), (1, .int u1), (2, .int v2), (3, .int v3)] []) : ∀ n h v2 v3, fX7_ranked_L29 k u0 u1 n h v2 v3 = some r → zV G x 6 (zQ G x (zoi r) 0 0) h 0 0 29 [(0, .ref u0), (1, .int u1), (2, .int v2), (3, .int v3)] [] := by
  intro n
  induction n with
  | zero =>
    intro h v2 v3 hf
    have hf : (none : Option (Int32 × zH)) = some r := hf
    cases hf
  | succ n ih =>
    intro h v2 v3 hf
    rw [fX7_ranked_L29] at hf
    refine z_iload_n B dX7_ranked_29 rfl 3 rfl ?_
    refine z_aload_n B dX7_ranked_30 rfl 0 rfl ?_
    obtain ⟨w1, ew1, hf⟩ := zbs hf
    refine z_gP B fl_RX7_56 ew1 rfl dX7_ranked_31 ?_
    refine z_iconst (v := 0) B dX7_ranked_34 (by decide) ?_
    obtain ⟨w2, ew2, hf⟩ := zbs hf
    refine z_aI B ew2 dX7_ranked_35 ?_
    rcases zite hf with ⟨c3, hf⟩ | ⟨c3, hf⟩
    · refine z_icmp_ge B 136 dX7_ranked_36 (by decide) (fun _ => ?_) (fun e => absurd c3 e)
      exact hk _ _ _ hf
    refine z_icmp_ge B 136 dX7_ranked_36 (by decide) (fun e => absurd e c3) (fun _ => ?_)
    refine z_iconst (v := 0) B dX7_ranked_39 (by decide) ?_
    refine z_istore (lv' := [(4, .int 0), (0, .ref u0), (1, .int u1), (2, .int v2), (3, .int v3)]) B dX7_ranked_40 (by decide) rfl ?_
    refine z_iconst (v := 0) B dX7_ranked_42 (by decide) ?_
    refine z_istore (lv' := [(5, .int 0), (4, .int 0), (0, .ref u0), (1, .int u1), (2, .int v2), (3, .int v3)]) B dX7_ranked_43 (by decide) rfl ?_
    refine zV.sub [2, 3, 4, 5, 1, 0] rfl ?_
    refine fX7_ranked_L45_ok B hst hE (fun h4 y5 y6 hf => ?_) _ _ _ _ hf
    refine z_iload B dX7_ranked_118 4 rfl ?_
    refine z_iload_n B dX7_ranked_120 rfl 1 rfl ?_
    rcases zite hf with ⟨c7, hf⟩ | ⟨c7, hf⟩
    · refine z_icmp_ne B 128 dX7_ranked_121 (by decide) (fun e => absurd c7 e) (fun _ => ?_)
      refine z_iload_n B dX7_ranked_124 rfl 3 rfl ?_
      refine z_goto B 129 dX7_ranked_125 (by decide) ?_
      refine z_istore_n (lv' := [(2, .int v3), (0, .ref u0), (1, .int u1), (3, .int v3), (4, .int y5), (5, .int y6)]) B dX7_ranked_129 rfl (by decide) rfl ?_
      refine z_iinc (v' := (v3 + 1)) (lv' := [(3, .int (v3 + 1)), (2, .int v3), (0, .ref u0), (1, .int u1), (4, .int y5), (5, .int y6)]) B dX7_ranked_130 3 rfl rfl (by decide) rfl ?_
      refine z_goto B 29 dX7_ranked_133 (by decide) ?_
      refine zV.sub [2, 3, 1, 0] rfl ?_
      exact ih _ _ _ hf
    refine z_icmp_ne B 128 dX7_ranked_121 (by decide) (fun _ => ?_) (fun e => absurd e c7)
    refine z_iload_n B dX7_ranked_128 rfl 2 rfl ?_
    refine z_istore_n (lv' := [(2, .int v2), (0, .ref u0), (1, .int u1), (3, .int v3), (4, .int y5), (5, .int y6)]) B dX7_ranked_129 rfl (by decide) rfl ?_
    refine z_iinc (v' := (v3 + 1)) (lv' := [(3, .int (v3 + 1)), (2, .int v2), (0, .ref u0), (1, .int u1), (4, .int y5), (5, .int y6)]) B dX7_ranked_130 3 rfl rfl (by decide) rfl ?_
    refine z_goto B 29 dX7_ranked_133 (by decide) ?_
    refine zV.sub [2, 3, 1, 0] rfl ?_
    exact ih _ _ _ hf
set_option maxRecDepth 100000 in
set_option maxHeartbeats 4000000 in
theorem tX7_ranked {l : Launch} {G : zG} (hst : l.stackTraces = false) {h : zH} {a0 : Nat} {a1 : Int32} {r : Int32 × zH} (hf : fX7_ranked h a0 a1 = some r) : zMet l G yX7_ranked (.code yX7_ranked cX7_ranked 6 (some .int)) rm_X7_ranked 0 0 [.ref a0, .int a1] h (zoi r) := by
  unfold fX7_ranked at hf
  obtain ⟨-, hf⟩ := zck hf
  refine z_enter (by decide) (Nat.le_of_ble_eq_true rfl) hst (fun x hx B hE => ?_)
  subst hx
  have B : zB G x cX7_ranked 6 RX7 "ranked" rm_X7_ranked (some .int) := B
  show zV G x 6 (zQ G x (zoi r) 0 0) h 0 0 0 [(0, .ref a0), (1, .int a1)] []
  refine z_aload_n B dX7_ranked_0 rfl 0 rfl ?_
  refine z_aload_n B dX7_ranked_1 rfl 0 rfl ?_
  obtain ⟨w1, ew1, hf⟩ := zbs hf
  refine z_gP B fl_RX7_56 ew1 rfl dX7_ranked_2 ?_
  refine z_iload_n B dX7_ranked_5 rfl 1 rfl ?_
  obtain ⟨w2, h3, ew2, hf⟩ := zb2s hf
  refine z_callSi B [.ref w1, .int a1] [.ref a0] cw_X7_isEntry mt_RX7_204 (tX7_isEntry hst ew2) ⟨rfl, rfl, (Nat.le_of_ble_eq_true rfl), (Nat.le_of_ble_eq_true rfl), (Nat.le_of_ble_eq_true rfl), (Nat.le_of_ble_eq_true rfl)⟩ rfl rfl (Nat.le_of_ble_eq_true rfl) dX7_ranked_6 ?_
  rcases zite hf with ⟨c4, hf⟩ | ⟨c4, hf⟩
  · refine z_if_eq B 16 dX7_ranked_9 (by decide) (fun _ => ?_) (fun e => absurd c4 e)
    refine z_iconst (v := 1) B dX7_ranked_16 (by decide) ?_
    obtain ⟨w5, h6, ew5, hf⟩ := zb2s hf
    refine z_callVi B [.int 1] [] cw_X7_refused mv_RX7_112 (tX7_refused hst ew5) rfl (by decide) (kfX7_refused ew5) ⟨rfl, rfl, (Nat.le_of_ble_eq_true rfl), (Nat.le_of_ble_eq_true rfl), (Nat.le_of_ble_eq_true rfl), (Nat.le_of_ble_eq_true rfl)⟩ rfl rfl (Nat.le_of_ble_eq_true rfl) dX7_ranked_17 ?_
    rcases zite hf with ⟨c7, hf⟩ | ⟨c7, hf⟩
    · refine z_if_eq B 25 dX7_ranked_20 (by decide) (fun _ => ?_) (fun e => absurd c7 e)
      refine z_iconst (v := 0) B dX7_ranked_25 (by decide) ?_
      refine z_istore_n (lv' := [(2, .int 0), (0, .ref a0), (1, .int a1)]) B dX7_ranked_26 rfl (by decide) rfl ?_
      refine z_iconst (v := 0) B dX7_ranked_27 (by decide) ?_
      refine z_istore_n (lv' := [(3, .int 0), (2, .int 0), (0, .ref a0), (1, .int a1)]) B dX7_ranked_28 rfl (by decide) rfl ?_
      refine zV.sub [2, 3, 1, 0] rfl ?_
      refine fX7_ranked_L29_ok B hst hE (fun h8 y9 y10 hf => ?_) _ _ _ _ hf
      refine z_iload_n B dX7_ranked_136 rfl 2 rfl ?_
      cases hf
      exact z_iret B dX7_ranked_137 (Nat.le_of_ble_eq_true rfl) (Nat.le_of_ble_eq_true rfl)
    refine z_if_eq B 25 dX7_ranked_20 (by decide) (fun e => absurd e c7) (fun _ => ?_)
    refine z_iconst (v := 0) B dX7_ranked_23 (by decide) ?_
    cases hf
    exact z_iret B dX7_ranked_24 (Nat.le_of_ble_eq_true rfl) (Nat.le_of_ble_eq_true rfl)
  refine z_if_eq B 16 dX7_ranked_9 (by decide) (fun e => absurd e c4) (fun _ => ?_)
  refine z_iconst (v := 0) B dX7_ranked_12 (by decide) ?_
  refine z_goto B 17 dX7_ranked_13 (by decide) ?_
  obtain ⟨w11, h12, ew11, hf⟩ := zb2s hf
  refine z_callVi B [.int 0] [] cw_X7_refused mv_RX7_112 (tX7_refused hst ew11) rfl (by decide) (kfX7_refused ew11) ⟨rfl, rfl, (Nat.le_of_ble_eq_true rfl), (Nat.le_of_ble_eq_true rfl), (Nat.le_of_ble_eq_true rfl), (Nat.le_of_ble_eq_true rfl)⟩ rfl rfl (Nat.le_of_ble_eq_true rfl) dX7_ranked_17 ?_
  rcases zite hf with ⟨c13, hf⟩ | ⟨c13, hf⟩
  · refine z_if_eq B 25 dX7_ranked_20 (by decide) (fun _ => ?_) (fun e => absurd c13 e)
    refine z_iconst (v := 0) B dX7_ranked_25 (by decide) ?_
    refine z_istore_n (lv' := [(2, .int 0), (0, .ref a0), (1, .int a1)]) B dX7_ranked_26 rfl (by decide) rfl ?_
    refine z_iconst (v := 0) B dX7_ranked_27 (by decide) ?_
    refine z_istore_n (lv' := [(3, .int 0), (2, .int 0), (0, .ref a0), (1, .int a1)]) B dX7_ranked_28 rfl (by decide) rfl ?_
    refine zV.sub [2, 3, 1, 0] rfl ?_
    refine fX7_ranked_L29_ok B hst hE (fun h14 y15 y16 hf => ?_) _ _ _ _ hf
    refine z_iload_n B dX7_ranked_136 rfl 2 rfl ?_
    cases hf
    exact z_iret B dX7_ranked_137 (Nat.le_of_ble_eq_true rfl) (Nat.le_of_ble_eq_true rfl)
  refine z_if_eq B 25 dX7_ranked_20 (by decide) (fun e => absurd e c13) (fun _ => ?_)
  refine z_iconst (v := 0) B dX7_ranked_23 (by decide) ?_
  cases hf
  exact z_iret B dX7_ranked_24 (Nat.le_of_ble_eq_true rfl) (Nat.le_of_ble_eq_true rfl)
abbrev rm_X7_tries : Room := { frames := 6, cells := 0, slots := 0, locals := 140 }
set_option maxRecDepth 100000 in
set_option maxHeartbeats 4000000 in
theorem tX7_tries {l : Launch} {G : zG} (hst : l.stackTraces = false) {h : zH} {a0 : Nat} {a1 : Int32} {a2 : Int32} {a3 : Int32} {r : Int32 × zH} (hf : fX7_tries h a0 a1 a2 a3 = some r) : zMet l G yX7_tries (.code yX7_tries cX7_tries 5 (some .boolean)) rm_X7_tries 0 0 [.ref a0, .int a1, .int a2, .int a3] h (zoi r) := by
  unfold fX7_tries at hf
  obtain ⟨-, hf⟩ := zck hf
  refine z_enter (by decide) (Nat.le_of_ble_eq_true rfl) hst (fun x hx B hE => ?_)
  subst hx
  have B : zB G x cX7_tries 5 RX7 "tries" rm_X7_tries (some .boolean) := B
  show zV G x 5 (zQ G x (zoi r) 0 0) h 0 0 0 [(0, .ref a0), (1, .int a1), (2, .int a2), (3, .int a3)] []
  refine z_aload_n B dX7_tries_0 rfl 0 rfl ?_
  obtain ⟨w1, ew1, hf⟩ := zbs hf
  refine z_gP B fl_RX7_59 ew1 rfl dX7_tries_1 ?_
  refine z_iconst (v := 0) B dX7_tries_4 (by decide) ?_
  refine z_aload_n B dX7_tries_5 rfl 0 rfl ?_
  obtain ⟨w2, ew2, hf⟩ := zbs hf
  refine z_gP B fl_RX7_81 ew2 rfl dX7_tries_6 ?_
  refine z_iconst (v := 0) B dX7_tries_9 (by decide) ?_
  refine z_sipush (v := 360) B dX7_tries_10 (by decide) ?_
  obtain ⟨h3, eh3, hf⟩ := zbs hf
  refine z_callSv B [.ref w1, .int 0, .ref w2, .int 0, .int 360] [] cw_X7_copyRow mt_RX7_90 (tX7_copyRow hst eh3) ⟨rfl, rfl, (Nat.le_of_ble_eq_true rfl), (Nat.le_of_ble_eq_true rfl), (Nat.le_of_ble_eq_true rfl), (Nat.le_of_ble_eq_true rfl)⟩ rfl rfl (Nat.le_of_ble_eq_true rfl) dX7_tries_13 ?_
  refine z_iload_n B dX7_tries_16 rfl 1 rfl ?_
  refine z_iconst (v := 1) B dX7_tries_17 (by decide) ?_
  rcases zite hf with ⟨c4, hf⟩ | ⟨c4, hf⟩
  · refine z_icmp_ne B 34 dX7_tries_18 (by decide) (fun e => absurd c4 e) (fun _ => ?_)
    refine z_aload_n B dX7_tries_21 rfl 0 rfl ?_
    refine z_aload_n B dX7_tries_22 rfl 0 rfl ?_
    obtain ⟨w5, ew5, hf⟩ := zbs hf
    refine z_gP B fl_RX7_59 ew5 rfl dX7_tries_23 ?_
    refine z_iload_n B dX7_tries_26 rfl 2 rfl ?_
    refine z_iload_n B dX7_tries_27 rfl 3 rfl ?_
    obtain ⟨w6, h7, ew6, hf⟩ := zb2s hf
    refine z_callVi B [.ref w5, .int a2, .int a3] [] cw_X7_copyOn mv_RX7_250 (tX7_copyOn hst ew6) rfl (by decide) (kfX7_copyOn ew6) ⟨rfl, rfl, (Nat.le_of_ble_eq_true rfl), (Nat.le_of_ble_eq_true rfl), (Nat.le_of_ble_eq_true rfl), (Nat.le_of_ble_eq_true rfl)⟩ rfl rfl (Nat.le_of_ble_eq_true rfl) dX7_tries_28 ?_
    refine z_goto B 62 dX7_tries_31 (by decide) ?_
    refine z_istore (lv' := [(4, .int w6), (0, .ref a0), (1, .int a1), (2, .int a2), (3, .int a3)]) B dX7_tries_62 (by decide) rfl ?_
    refine z_iload B dX7_tries_64 0 rfl ?_
    rcases zite hf with ⟨c8, hf⟩ | ⟨c8, hf⟩
    · refine z_if_le B 85 dX7_tries_66 (by decide) (fun _ => ?_) (fun e => absurd c8 e)
      refine z_iload B dX7_tries_85 0 rfl ?_
      rcases zite hf with ⟨c9, hf⟩ | ⟨c9, hf⟩
      · refine z_if_ne B 94 dX7_tries_87 (by decide) (fun e => absurd c9 e) (fun _ => ?_)
        refine z_iconst (v := 1) B dX7_tries_90 (by decide) ?_
        refine z_goto B 95 dX7_tries_91 (by decide) ?_
        cases hf
        exact z_zret B dX7_tries_95 (Or.inr rfl) (Nat.le_of_ble_eq_true rfl) (Nat.le_of_ble_eq_true rfl)
      refine z_if_ne B 94 dX7_tries_87 (by decide) (fun _ => ?_) (fun e => absurd e c9)
      refine z_iconst (v := 0) B dX7_tries_94 (by decide) ?_
      cases hf
      exact z_zret B dX7_tries_95 (Or.inl rfl) (Nat.le_of_ble_eq_true rfl) (Nat.le_of_ble_eq_true rfl)
    refine z_if_le B 85 dX7_tries_66 (by decide) (fun e => absurd e c8) (fun _ => ?_)
    refine z_aload_n B dX7_tries_69 rfl 1 rfl ?_
    obtain ⟨w10, ew10, hf⟩ := zbs hf
    refine z_gP B fl_RX7_81 ew10 rfl dX7_tries_70 ?_
    refine z_iconst (v := 0) B dX7_tries_73 (by decide) ?_
    refine z_aload_n B dX7_tries_74 rfl 1 rfl ?_
    obtain ⟨w11, ew11, hf⟩ := zbs hf
    refine z_gP B fl_RX7_59 ew11 rfl dX7_tries_75 ?_
    refine z_iconst (v := 0) B dX7_tries_78 (by decide) ?_
    refine z_sipush (v := 360) B dX7_tries_79 (by decide) ?_
    obtain ⟨h12, eh12, hf⟩ := zbs hf
    refine z_callSv B [.ref w10, .int 0, .ref w11, .int 0, .int 360] [] cw_X7_copyRow mt_RX7_90 (tX7_copyRow hst eh12) ⟨rfl, rfl, (Nat.le_of_ble_eq_true rfl), (Nat.le_of_ble_eq_true rfl), (Nat.le_of_ble_eq_true rfl), (Nat.le_of_ble_eq_true rfl)⟩ rfl rfl (Nat.le_of_ble_eq_true rfl) dX7_tries_82 ?_
    refine z_iload B dX7_tries_85 0 rfl ?_
    rcases zite hf with ⟨c13, hf⟩ | ⟨c13, hf⟩
    · refine z_if_ne B 94 dX7_tries_87 (by decide) (fun e => absurd c13 e) (fun _ => ?_)
      refine z_iconst (v := 1) B dX7_tries_90 (by decide) ?_
      refine z_goto B 95 dX7_tries_91 (by decide) ?_
      cases hf
      exact z_zret B dX7_tries_95 (Or.inr rfl) (Nat.le_of_ble_eq_true rfl) (Nat.le_of_ble_eq_true rfl)
    refine z_if_ne B 94 dX7_tries_87 (by decide) (fun _ => ?_) (fun e => absurd e c13)
    refine z_iconst (v := 0) B dX7_tries_94 (by decide) ?_
    cases hf
    exact z_zret B dX7_tries_95 (Or.inl rfl) (Nat.le_of_ble_eq_true rfl) (Nat.le_of_ble_eq_true rfl)
  refine z_icmp_ne B 34 dX7_tries_18 (by decide) (fun _ => ?_) (fun e => absurd e c4)
  refine z_iload_n B dX7_tries_34 rfl 1 rfl ?_
  refine z_iconst (v := 2) B dX7_tries_35 (by decide) ?_
  rcases zite hf with ⟨c14, hf⟩ | ⟨c14, hf⟩
  · refine z_icmp_ne B 52 dX7_tries_36 (by decide) (fun e => absurd c14 e) (fun _ => ?_)
    refine z_aload_n B dX7_tries_39 rfl 0 rfl ?_
    refine z_aload_n B dX7_tries_40 rfl 0 rfl ?_
    obtain ⟨w15, ew15, hf⟩ := zbs hf
    refine z_gP B fl_RX7_59 ew15 rfl dX7_tries_41 ?_
    refine z_iload_n B dX7_tries_44 rfl 2 rfl ?_
    refine z_iload_n B dX7_tries_45 rfl 3 rfl ?_
    obtain ⟨w16, h17, ew16, hf⟩ := zb2s hf
    refine z_callVi B [.ref w15, .int a2, .int a3] [] cw_X7_offerOn mv_RX7_256 (tX7_offerOn hst ew16) rfl (by decide) (kfX7_offerOn ew16) ⟨rfl, rfl, (Nat.le_of_ble_eq_true rfl), (Nat.le_of_ble_eq_true rfl), (Nat.le_of_ble_eq_true rfl), (Nat.le_of_ble_eq_true rfl)⟩ rfl rfl (Nat.le_of_ble_eq_true rfl) dX7_tries_46 ?_
    refine z_goto B 62 dX7_tries_49 (by decide) ?_
    refine z_istore (lv' := [(4, .int w16), (0, .ref a0), (1, .int a1), (2, .int a2), (3, .int a3)]) B dX7_tries_62 (by decide) rfl ?_
    refine z_iload B dX7_tries_64 0 rfl ?_
    rcases zite hf with ⟨c18, hf⟩ | ⟨c18, hf⟩
    · refine z_if_le B 85 dX7_tries_66 (by decide) (fun _ => ?_) (fun e => absurd c18 e)
      refine z_iload B dX7_tries_85 0 rfl ?_
      rcases zite hf with ⟨c19, hf⟩ | ⟨c19, hf⟩
      · refine z_if_ne B 94 dX7_tries_87 (by decide) (fun e => absurd c19 e) (fun _ => ?_)
        refine z_iconst (v := 1) B dX7_tries_90 (by decide) ?_
        refine z_goto B 95 dX7_tries_91 (by decide) ?_
        cases hf
        exact z_zret B dX7_tries_95 (Or.inr rfl) (Nat.le_of_ble_eq_true rfl) (Nat.le_of_ble_eq_true rfl)
      refine z_if_ne B 94 dX7_tries_87 (by decide) (fun _ => ?_) (fun e => absurd e c19)
      refine z_iconst (v := 0) B dX7_tries_94 (by decide) ?_
      cases hf
      exact z_zret B dX7_tries_95 (Or.inl rfl) (Nat.le_of_ble_eq_true rfl) (Nat.le_of_ble_eq_true rfl)
    refine z_if_le B 85 dX7_tries_66 (by decide) (fun e => absurd e c18) (fun _ => ?_)
    refine z_aload_n B dX7_tries_69 rfl 1 rfl ?_
    obtain ⟨w20, ew20, hf⟩ := zbs hf
    refine z_gP B fl_RX7_81 ew20 rfl dX7_tries_70 ?_
    refine z_iconst (v := 0) B dX7_tries_73 (by decide) ?_
    refine z_aload_n B dX7_tries_74 rfl 1 rfl ?_
    obtain ⟨w21, ew21, hf⟩ := zbs hf
    refine z_gP B fl_RX7_59 ew21 rfl dX7_tries_75 ?_
    refine z_iconst (v := 0) B dX7_tries_78 (by decide) ?_
    refine z_sipush (v := 360) B dX7_tries_79 (by decide) ?_
    obtain ⟨h22, eh22, hf⟩ := zbs hf
    refine z_callSv B [.ref w20, .int 0, .ref w21, .int 0, .int 360] [] cw_X7_copyRow mt_RX7_90 (tX7_copyRow hst eh22) ⟨rfl, rfl, (Nat.le_of_ble_eq_true rfl), (Nat.le_of_ble_eq_true rfl), (Nat.le_of_ble_eq_true rfl), (Nat.le_of_ble_eq_true rfl)⟩ rfl rfl (Nat.le_of_ble_eq_true rfl) dX7_tries_82 ?_
    refine z_iload B dX7_tries_85 0 rfl ?_
    rcases zite hf with ⟨c23, hf⟩ | ⟨c23, hf⟩
    · refine z_if_ne B 94 dX7_tries_87 (by decide) (fun e => absurd c23 e) (fun _ => ?_)
      refine z_iconst (v := 1) B dX7_tries_90 (by decide) ?_
      refine z_goto B 95 dX7_tries_91 (by decide) ?_
      cases hf
      exact z_zret B dX7_tries_95 (Or.inr rfl) (Nat.le_of_ble_eq_true rfl) (Nat.le_of_ble_eq_true rfl)
    refine z_if_ne B 94 dX7_tries_87 (by decide) (fun _ => ?_) (fun e => absurd e c23)
    refine z_iconst (v := 0) B dX7_tries_94 (by decide) ?_
    cases hf
    exact z_zret B dX7_tries_95 (Or.inl rfl) (Nat.le_of_ble_eq_true rfl) (Nat.le_of_ble_eq_true rfl)
  refine z_icmp_ne B 52 dX7_tries_36 (by decide) (fun _ => ?_) (fun e => absurd e c14)
  refine z_aload_n B dX7_tries_52 rfl 0 rfl ?_
  refine z_aload_n B dX7_tries_53 rfl 0 rfl ?_
  obtain ⟨w24, ew24, hf⟩ := zbs hf
  refine z_gP B fl_RX7_59 ew24 rfl dX7_tries_54 ?_
  refine z_iload_n B dX7_tries_57 rfl 2 rfl ?_
  refine z_iload_n B dX7_tries_58 rfl 3 rfl ?_
  obtain ⟨w25, h26, ew25, hf⟩ := zb2s hf
  refine z_callVi B [.ref w24, .int a2, .int a3] [] cw_X7_pasteOn mv_RX7_259 (tX7_pasteOn hst ew25) rfl (by decide) (kfX7_pasteOn ew25) ⟨rfl, rfl, (Nat.le_of_ble_eq_true rfl), (Nat.le_of_ble_eq_true rfl), (Nat.le_of_ble_eq_true rfl), (Nat.le_of_ble_eq_true rfl)⟩ rfl rfl (Nat.le_of_ble_eq_true rfl) dX7_tries_59 ?_
  refine z_istore (lv' := [(4, .int w25), (0, .ref a0), (1, .int a1), (2, .int a2), (3, .int a3)]) B dX7_tries_62 (by decide) rfl ?_
  refine z_iload B dX7_tries_64 0 rfl ?_
  rcases zite hf with ⟨c27, hf⟩ | ⟨c27, hf⟩
  · refine z_if_le B 85 dX7_tries_66 (by decide) (fun _ => ?_) (fun e => absurd c27 e)
    refine z_iload B dX7_tries_85 0 rfl ?_
    rcases zite hf with ⟨c28, hf⟩ | ⟨c28, hf⟩
    · refine z_if_ne B 94 dX7_tries_87 (by decide) (fun e => absurd c28 e) (fun _ => ?_)
      refine z_iconst (v := 1) B dX7_tries_90 (by decide) ?_
      refine z_goto B 95 dX7_tries_91 (by decide) ?_
      cases hf
      exact z_zret B dX7_tries_95 (Or.inr rfl) (Nat.le_of_ble_eq_true rfl) (Nat.le_of_ble_eq_true rfl)
    refine z_if_ne B 94 dX7_tries_87 (by decide) (fun _ => ?_) (fun e => absurd e c28)
    refine z_iconst (v := 0) B dX7_tries_94 (by decide) ?_
    cases hf
    exact z_zret B dX7_tries_95 (Or.inl rfl) (Nat.le_of_ble_eq_true rfl) (Nat.le_of_ble_eq_true rfl)
  refine z_if_le B 85 dX7_tries_66 (by decide) (fun e => absurd e c27) (fun _ => ?_)
  refine z_aload_n B dX7_tries_69 rfl 1 rfl ?_
  obtain ⟨w29, ew29, hf⟩ := zbs hf
  refine z_gP B fl_RX7_81 ew29 rfl dX7_tries_70 ?_
  refine z_iconst (v := 0) B dX7_tries_73 (by decide) ?_
  refine z_aload_n B dX7_tries_74 rfl 1 rfl ?_
  obtain ⟨w30, ew30, hf⟩ := zbs hf
  refine z_gP B fl_RX7_59 ew30 rfl dX7_tries_75 ?_
  refine z_iconst (v := 0) B dX7_tries_78 (by decide) ?_
  refine z_sipush (v := 360) B dX7_tries_79 (by decide) ?_
  obtain ⟨h31, eh31, hf⟩ := zbs hf
  refine z_callSv B [.ref w29, .int 0, .ref w30, .int 0, .int 360] [] cw_X7_copyRow mt_RX7_90 (tX7_copyRow hst eh31) ⟨rfl, rfl, (Nat.le_of_ble_eq_true rfl), (Nat.le_of_ble_eq_true rfl), (Nat.le_of_ble_eq_true rfl), (Nat.le_of_ble_eq_true rfl)⟩ rfl rfl (Nat.le_of_ble_eq_true rfl) dX7_tries_82 ?_
  refine z_iload B dX7_tries_85 0 rfl ?_
  rcases zite hf with ⟨c32, hf⟩ | ⟨c32, hf⟩
  · refine z_if_ne B 94 dX7_tries_87 (by decide) (fun e => absurd c32 e) (fun _ => ?_)
    refine z_iconst (v := 1) B dX7_tries_90 (by decide) ?_
    refine z_goto B 95 dX7_tries_91 (by decide) ?_
    cases hf
    exact z_zret B dX7_tries_95 (Or.inr rfl) (Nat.le_of_ble_eq_true rfl) (Nat.le_of_ble_eq_true rfl)
  refine z_if_ne B 94 dX7_tries_87 (by decide) (fun _ => ?_) (fun e => absurd e c32)
  refine z_iconst (v := 0) B dX7_tries_94 (by decide) ?_
  cases hf
  exact z_zret B dX7_tries_95 (Or.inl rfl) (Nat.le_of_ble_eq_true rfl) (Nat.le_of_ble_eq_true rfl)
abbrev rm_X7_command : Room := { frames := 7, cells := 0, slots := 0, locals := 164 }
set_option maxRecDepth 100000 in
set_option maxHeartbeats 4000000 in
theorem tX7_command {l : Launch} {G : zG} (hst : l.stackTraces = false) {h : zH} {a0 : Nat} {a1 : Int32} {r : Int32 × zH} (hf : fX7_command h a0 a1 = some r) : zMet l G yX7_command (.code yX7_command cX7_command 5 (some .boolean)) rm_X7_command 0 0 [.ref a0, .int a1] h (zoi r) := by
  unfold fX7_command at hf
  obtain ⟨-, hf⟩ := zck hf
  refine z_enter (by decide) (Nat.le_of_ble_eq_true rfl) hst (fun x hx B hE => ?_)
  subst hx
  have B : zB G x cX7_command 5 RX7 "command" rm_X7_command (some .boolean) := B
  show zV G x 5 (zQ G x (zoi r) 0 0) h 0 0 0 [(0, .ref a0), (1, .int a1)] []
  refine z_iload_n B dX7_command_0 rfl 1 rfl ?_
  refine z_sipush (v := 10000) B dX7_command_1 (by decide) ?_
  refine z_idiv B dX7_command_4 (by decide) ?_
  refine z_bipush (v := 10) B dX7_command_5 (by decide) ?_
  refine z_irem B dX7_command_7 (by decide) ?_
  refine z_istore_n (lv' := [(2, .int ((((a1 : Int32) / 10000) : Int32) - ((a1 : Int32) / 10000) / 10 * 10)), (0, .ref a0), (1, .int a1)]) B dX7_command_8 rfl (by decide) rfl ?_
  refine z_iload_n B dX7_command_9 rfl 2 rfl ?_
  refine z_sipush (v := 1000) B dX7_command_10 (by decide) ?_
  refine z_idiv B dX7_command_13 (by decide) ?_
  refine z_bipush (v := 100) B dX7_command_14 (by decide) ?_
  refine z_irem B dX7_command_16 (by decide) ?_
  refine z_istore_n (lv' := [(3, .int ((((a1 : Int32) / 1000) : Int32) - ((a1 : Int32) / 1000) / 100 * 100)), (2, .int ((((a1 : Int32) / 10000) : Int32) - ((a1 : Int32) / 10000) / 10 * 10)), (0, .ref a0), (1, .int a1)]) B dX7_command_17 rfl (by decide) rfl ?_
  refine z_iload_n B dX7_command_18 rfl 3 rfl ?_
  refine z_sipush (v := 1000) B dX7_command_19 (by decide) ?_
  refine z_irem B dX7_command_22 (by decide) ?_
  refine z_istore (lv' := [(4, .int ((a1 : Int32) - a1 / 1000 * 1000)), (3, .int ((((a1 : Int32) / 1000) : Int32) - ((a1 : Int32) / 1000) / 100 * 100)), (2, .int ((((a1 : Int32) / 10000) : Int32) - ((a1 : Int32) / 10000) / 10 * 10)), (0, .ref a0), (1, .int a1)]) B dX7_command_23 (by decide) rfl ?_
  refine z_iload_n B dX7_command_25 rfl 4 rfl ?_
  refine z_ldcw B dX7_command_26 kc_RX7_306 ?_
  refine z_idiv B dX7_command_29 (by decide) ?_
  rcases zite hf with ⟨c1, hf⟩ | ⟨c1, hf⟩
  · refine z_tabIn B 1 76 dX7_command_30 c1 (by decide) (by decide) rfl (by decide) ?_
    refine z_aload_n B dX7_command_76 rfl 3 rfl ?_
    refine z_iconst (v := 1) B dX7_command_77 (by decide) ?_
    refine z_iload_n B dX7_command_78 rfl 2 rfl ?_
    refine z_iload_n B dX7_command_79 rfl 4 rfl ?_
    refine z_sipush (v := 10000) B dX7_command_80 (by decide) ?_
    refine z_irem B dX7_command_83 (by decide) ?_
    obtain ⟨w2, h3, ew2, hf⟩ := zb2s hf
    refine z_callVi B [.int 1, .int ((((a1 : Int32) / 10000) : Int32) - ((a1 : Int32) / 10000) / 10 * 10), .int ((a1 : Int32) - a1 / 10000 * 10000)] [] cw_X7_tries mv_RX7_307 (tX7_tries hst ew2) rfl (by decide) (kfX7_tries ew2) ⟨rfl, rfl, (Nat.le_of_ble_eq_true rfl), (Nat.le_of_ble_eq_true rfl), (Nat.le_of_ble_eq_true rfl), (Nat.le_of_ble_eq_true rfl)⟩ rfl rfl (Nat.le_of_ble_eq_true rfl) dX7_command_84 ?_
    rcases zite hf with ⟨c4, hf⟩ | ⟨c4, hf⟩
    · cases hf
      exact z_zret B dX7_command_87 c4 (Nat.le_of_ble_eq_true rfl) (Nat.le_of_ble_eq_true rfl)
    cases hf
  rcases zite hf with ⟨c5, hf⟩ | ⟨c5, hf⟩
  · refine z_tabIn B 2 88 dX7_command_30 c5 (by decide) (by decide) rfl (by decide) ?_
    refine z_aload_n B dX7_command_88 rfl 3 rfl ?_
    refine z_iconst (v := 2) B dX7_command_89 (by decide) ?_
    refine z_iload_n B dX7_command_90 rfl 2 rfl ?_
    refine z_iload_n B dX7_command_91 rfl 4 rfl ?_
    refine z_sipush (v := 10000) B dX7_command_92 (by decide) ?_
    refine z_irem B dX7_command_95 (by decide) ?_
    obtain ⟨w6, h7, ew6, hf⟩ := zb2s hf
    refine z_callVi B [.int 2, .int ((((a1 : Int32) / 10000) : Int32) - ((a1 : Int32) / 10000) / 10 * 10), .int ((a1 : Int32) - a1 / 10000 * 10000)] [] cw_X7_tries mv_RX7_307 (tX7_tries hst ew6) rfl (by decide) (kfX7_tries ew6) ⟨rfl, rfl, (Nat.le_of_ble_eq_true rfl), (Nat.le_of_ble_eq_true rfl), (Nat.le_of_ble_eq_true rfl), (Nat.le_of_ble_eq_true rfl)⟩ rfl rfl (Nat.le_of_ble_eq_true rfl) dX7_command_96 ?_
    rcases zite hf with ⟨c8, hf⟩ | ⟨c8, hf⟩
    · cases hf
      exact z_zret B dX7_command_99 c8 (Nat.le_of_ble_eq_true rfl) (Nat.le_of_ble_eq_true rfl)
    cases hf
  rcases zite hf with ⟨c9, hf⟩ | ⟨c9, hf⟩
  · refine z_tabIn B 3 100 dX7_command_30 c9 (by decide) (by decide) rfl (by decide) ?_
    refine z_iload B dX7_command_100 0 rfl ?_
    refine z_bipush (v := 100) B dX7_command_102 (by decide) ?_
    refine z_irem B dX7_command_104 (by decide) ?_
    rcases zite hf with ⟨c10, hf⟩ | ⟨c10, hf⟩
    · refine z_if_ne B 126 dX7_command_105 (by decide) (fun e => absurd c10 e) (fun _ => ?_)
      refine z_aload_n B dX7_command_108 rfl 3 rfl ?_
      refine z_iconst (v := 3) B dX7_command_109 (by decide) ?_
      refine z_iload_n B dX7_command_110 rfl 1 rfl ?_
      refine z_iload B dX7_command_111 0 rfl ?_
      refine z_bipush (v := 100) B dX7_command_113 (by decide) ?_
      refine z_idiv B dX7_command_115 (by decide) ?_
      obtain ⟨w11, h12, ew11, hf⟩ := zb2s hf
      refine z_callVi B [.int 3, .int ((((a1 : Int32) / 1000) : Int32) - ((a1 : Int32) / 1000) / 100 * 100), .int ((((a1 : Int32) - a1 / 1000 * 1000) : Int32) / 100)] [] cw_X7_tries mv_RX7_307 (tX7_tries hst ew11) rfl (by decide) (kfX7_tries ew11) ⟨rfl, rfl, (Nat.le_of_ble_eq_true rfl), (Nat.le_of_ble_eq_true rfl), (Nat.le_of_ble_eq_true rfl), (Nat.le_of_ble_eq_true rfl)⟩ rfl rfl (Nat.le_of_ble_eq_true rfl) dX7_command_116 ?_
      rcases zite hf with ⟨c13, hf⟩ | ⟨c13, hf⟩
      · refine z_if_eq B 126 dX7_command_119 (by decide) (fun _ => ?_) (fun e => absurd c13 e)
        refine z_iconst (v := 0) B dX7_command_126 (by decide) ?_
        cases hf
        exact z_zret B dX7_command_127 (Or.inl rfl) (Nat.le_of_ble_eq_true rfl) (Nat.le_of_ble_eq_true rfl)
      refine z_if_eq B 126 dX7_command_119 (by decide) (fun e => absurd e c13) (fun _ => ?_)
      refine z_iconst (v := 1) B dX7_command_122 (by decide) ?_
      refine z_goto B 127 dX7_command_123 (by decide) ?_
      cases hf
      exact z_zret B dX7_command_127 (Or.inr rfl) (Nat.le_of_ble_eq_true rfl) (Nat.le_of_ble_eq_true rfl)
    refine z_if_ne B 126 dX7_command_105 (by decide) (fun _ => ?_) (fun e => absurd e c10)
    refine z_iconst (v := 0) B dX7_command_126 (by decide) ?_
    cases hf
    exact z_zret B dX7_command_127 (Or.inl rfl) (Nat.le_of_ble_eq_true rfl) (Nat.le_of_ble_eq_true rfl)
  rcases zite hf with ⟨c14, hf⟩ | ⟨c14, hf⟩
  · refine z_tabIn B 4 128 dX7_command_30 c14 (by decide) (by decide) rfl (by decide) ?_
    refine z_iload B dX7_command_128 0 rfl ?_
    rcases zite hf with ⟨c15, hf⟩ | ⟨c15, hf⟩
    · refine z_if_ne B 144 dX7_command_130 (by decide) (fun e => absurd c15 e) (fun _ => ?_)
      refine z_aload_n B dX7_command_133 rfl 3 rfl ?_
      obtain ⟨w16, ew16, hf⟩ := zbs hf
      refine z_gP B fl_RX7_59 ew16 rfl dX7_command_134 ?_
      refine z_iload_n B dX7_command_137 rfl 1 rfl ?_
      obtain ⟨w17, h18, ew17, hf⟩ := zb2s hf
      refine z_callSi B [.ref w16, .int ((((a1 : Int32) / 1000) : Int32) - ((a1 : Int32) / 1000) / 100 * 100)] [] cw_X7_isEntry mt_RX7_204 (tX7_isEntry hst ew17) ⟨rfl, rfl, (Nat.le_of_ble_eq_true rfl), (Nat.le_of_ble_eq_true rfl), (Nat.le_of_ble_eq_true rfl), (Nat.le_of_ble_eq_true rfl)⟩ rfl rfl (Nat.le_of_ble_eq_true rfl) dX7_command_138 ?_
      rcases zite hf with ⟨c19, hf⟩ | ⟨c19, hf⟩
      · refine z_if_ne B 146 dX7_command_141 (by decide) (fun e => absurd c19 e) (fun _ => ?_)
        refine z_iconst (v := 0) B dX7_command_144 (by decide) ?_
        cases hf
        exact z_zret B dX7_command_145 (Or.inl rfl) (Nat.le_of_ble_eq_true rfl) (Nat.le_of_ble_eq_true rfl)
      refine z_if_ne B 146 dX7_command_141 (by decide) (fun _ => ?_) (fun e => absurd e c19)
      refine z_aload_n B dX7_command_146 rfl 3 rfl ?_
      obtain ⟨w20, ew20, hf⟩ := zbs hf
      refine z_gP B fl_RX7_59 ew20 rfl dX7_command_147 ?_
      refine z_iload_n B dX7_command_150 rfl 1 rfl ?_
      obtain ⟨w21, h22, ew21, hf⟩ := zb2s hf
      refine z_callSi B [.int ((((a1 : Int32) / 1000) : Int32) - ((a1 : Int32) / 1000) / 100 * 100)] [.ref w20] cw_X7_at mt_RX7_163 (tX7_at hst ew21) ⟨rfl, rfl, (Nat.le_of_ble_eq_true rfl), (Nat.le_of_ble_eq_true rfl), (Nat.le_of_ble_eq_true rfl), (Nat.le_of_ble_eq_true rfl)⟩ rfl rfl (Nat.le_of_ble_eq_true rfl) dX7_command_151 ?_
      refine z_bipush (v := 24) B dX7_command_154 (by decide) ?_
      refine z_iadd B dX7_command_156 ?_
      refine z_iconst (v := 1) B dX7_command_157 (by decide) ?_
      refine z_aload_n B dX7_command_158 rfl 3 rfl ?_
      obtain ⟨w23, ew23, hf⟩ := zbs hf
      refine z_gP B fl_RX7_59 ew23 rfl dX7_command_159 ?_
      refine z_iload_n B dX7_command_162 rfl 1 rfl ?_
      obtain ⟨w24, h25, ew24, hf⟩ := zb2s hf
      refine z_callSi B [.int ((((a1 : Int32) / 1000) : Int32) - ((a1 : Int32) / 1000) / 100 * 100)] [.ref w23, .int 1, .int ((w21 : Int32) + 24), .ref w20] cw_X7_at mt_RX7_163 (tX7_at hst ew24) ⟨rfl, rfl, (Nat.le_of_ble_eq_true rfl), (Nat.le_of_ble_eq_true rfl), (Nat.le_of_ble_eq_true rfl), (Nat.le_of_ble_eq_true rfl)⟩ rfl rfl (Nat.le_of_ble_eq_true rfl) dX7_command_163 ?_
      refine z_bipush (v := 24) B dX7_command_166 (by decide) ?_
      refine z_iadd B dX7_command_168 ?_
      obtain ⟨w26, ew26, hf⟩ := zbs hf
      refine z_aI B ew26 dX7_command_169 ?_
      refine z_isub B dX7_command_170 ?_
      obtain ⟨h27, eh27, hf⟩ := zbs hf
      refine z_bI B eh27 dX7_command_171 ?_
      refine z_iconst (v := 1) B dX7_command_172 (by decide) ?_
      cases hf
      exact z_zret B dX7_command_173 (Or.inr rfl) (Nat.le_of_ble_eq_true rfl) (Nat.le_of_ble_eq_true rfl)
    refine z_if_ne B 144 dX7_command_130 (by decide) (fun _ => ?_) (fun e => absurd e c15)
    refine z_iconst (v := 0) B dX7_command_144 (by decide) ?_
    cases hf
    exact z_zret B dX7_command_145 (Or.inl rfl) (Nat.le_of_ble_eq_true rfl) (Nat.le_of_ble_eq_true rfl)
  rcases zite hf with ⟨c28, hf⟩ | ⟨c28, hf⟩
  · refine z_tabIn B 5 174 dX7_command_30 c28 (by decide) (by decide) rfl (by decide) ?_
    refine z_iload B dX7_command_174 0 rfl ?_
    rcases zite hf with ⟨c29, hf⟩ | ⟨c29, hf⟩
    · refine z_if_ne B 190 dX7_command_176 (by decide) (fun e => absurd c29 e) (fun _ => ?_)
      refine z_aload_n B dX7_command_179 rfl 3 rfl ?_
      obtain ⟨w30, ew30, hf⟩ := zbs hf
      refine z_gP B fl_RX7_59 ew30 rfl dX7_command_180 ?_
      refine z_iload_n B dX7_command_183 rfl 1 rfl ?_
      obtain ⟨w31, h32, ew31, hf⟩ := zb2s hf
      refine z_callSi B [.ref w30, .int ((((a1 : Int32) / 1000) : Int32) - ((a1 : Int32) / 1000) / 100 * 100)] [] cw_X7_isEntry mt_RX7_204 (tX7_isEntry hst ew31) ⟨rfl, rfl, (Nat.le_of_ble_eq_true rfl), (Nat.le_of_ble_eq_true rfl), (Nat.le_of_ble_eq_true rfl), (Nat.le_of_ble_eq_true rfl)⟩ rfl rfl (Nat.le_of_ble_eq_true rfl) dX7_command_184 ?_
      rcases zite hf with ⟨c33, hf⟩ | ⟨c33, hf⟩
      · refine z_if_ne B 192 dX7_command_187 (by decide) (fun e => absurd c33 e) (fun _ => ?_)
        refine z_iconst (v := 0) B dX7_command_190 (by decide) ?_
        cases hf
        exact z_zret B dX7_command_191 (Or.inl rfl) (Nat.le_of_ble_eq_true rfl) (Nat.le_of_ble_eq_true rfl)
      refine z_if_ne B 192 dX7_command_187 (by decide) (fun _ => ?_) (fun e => absurd e c33)
      refine z_aload_n B dX7_command_192 rfl 3 rfl ?_
      obtain ⟨w34, ew34, hf⟩ := zbs hf
      refine z_gP B fl_RX7_59 ew34 rfl dX7_command_193 ?_
      refine z_iload_n B dX7_command_196 rfl 1 rfl ?_
      obtain ⟨h35, eh35, hf⟩ := zbs hf
      refine z_callSv B [.ref w34, .int ((((a1 : Int32) / 1000) : Int32) - ((a1 : Int32) / 1000) / 100 * 100)] [] cw_X7_drop mt_RX7_190 (tX7_drop hst eh35) ⟨rfl, rfl, (Nat.le_of_ble_eq_true rfl), (Nat.le_of_ble_eq_true rfl), (Nat.le_of_ble_eq_true rfl), (Nat.le_of_ble_eq_true rfl)⟩ rfl rfl (Nat.le_of_ble_eq_true rfl) dX7_command_197 ?_
      refine z_iconst (v := 1) B dX7_command_200 (by decide) ?_
      cases hf
      exact z_zret B dX7_command_201 (Or.inr rfl) (Nat.le_of_ble_eq_true rfl) (Nat.le_of_ble_eq_true rfl)
    refine z_if_ne B 190 dX7_command_176 (by decide) (fun _ => ?_) (fun e => absurd e c29)
    refine z_iconst (v := 0) B dX7_command_190 (by decide) ?_
    cases hf
    exact z_zret B dX7_command_191 (Or.inl rfl) (Nat.le_of_ble_eq_true rfl) (Nat.le_of_ble_eq_true rfl)
  rcases zite hf with ⟨c36, hf⟩ | ⟨c36, hf⟩
  · refine z_tabIn B 6 202 dX7_command_30 c36 (by decide) (by decide) rfl (by decide) ?_
    refine z_aload_n B dX7_command_202 rfl 3 rfl ?_
    obtain ⟨w37, ew37, hf⟩ := zbs hf
    refine z_gP B fl_RX7_59 ew37 rfl dX7_command_203 ?_
    obtain ⟨w38, h39, ew38, hf⟩ := zb2s hf
    refine z_callSi B [.ref w37] [] cw_X7_used mt_RX7_176 (tX7_used hst ew38) ⟨rfl, rfl, (Nat.le_of_ble_eq_true rfl), (Nat.le_of_ble_eq_true rfl), (Nat.le_of_ble_eq_true rfl), (Nat.le_of_ble_eq_true rfl)⟩ rfl rfl (Nat.le_of_ble_eq_true rfl) dX7_command_206 ?_
    refine z_iload_n B dX7_command_209 rfl 4 rfl ?_
    refine z_ldcw B dX7_command_210 kc_RX7_306 ?_
    refine z_irem B dX7_command_213 (by decide) ?_
    rcases zite hf with ⟨c40, hf⟩ | ⟨c40, hf⟩
    · refine z_icmp_gt B 221 dX7_command_214 (by decide) (fun _ => ?_) (fun e => absurd c40 e)
      refine z_iconst (v := 0) B dX7_command_221 (by decide) ?_
      cases hf
      exact z_zret B dX7_command_222 (Or.inl rfl) (Nat.le_of_ble_eq_true rfl) (Nat.le_of_ble_eq_true rfl)
    refine z_icmp_gt B 221 dX7_command_214 (by decide) (fun e => absurd e c40) (fun _ => ?_)
    refine z_iconst (v := 1) B dX7_command_217 (by decide) ?_
    refine z_goto B 222 dX7_command_218 (by decide) ?_
    cases hf
    exact z_zret B dX7_command_222 (Or.inr rfl) (Nat.le_of_ble_eq_true rfl) (Nat.le_of_ble_eq_true rfl)
  rcases zite hf with ⟨c41, hf⟩ | ⟨c41, hf⟩
  · refine z_tabIn B 7 223 dX7_command_30 c41 (by decide) (by decide) rfl (by decide) ?_
    refine z_iload_n B dX7_command_223 rfl 4 rfl ?_
    refine z_ldcw B dX7_command_224 kc_RX7_306 ?_
    refine z_irem B dX7_command_227 (by decide) ?_
    refine z_bipush (v := 100) B dX7_command_228 (by decide) ?_
    rcases zite hf with ⟨c42, hf⟩ | ⟨c42, hf⟩
    · refine z_icmp_ge B 250 dX7_command_230 (by decide) (fun _ => ?_) (fun e => absurd c42 e)
      refine z_iconst (v := 0) B dX7_command_250 (by decide) ?_
      cases hf
      exact z_zret B dX7_command_251 (Or.inl rfl) (Nat.le_of_ble_eq_true rfl) (Nat.le_of_ble_eq_true rfl)
    refine z_icmp_ge B 250 dX7_command_230 (by decide) (fun e => absurd e c42) (fun _ => ?_)
    refine z_aload_n B dX7_command_233 rfl 3 rfl ?_
    obtain ⟨w43, ew43, hf⟩ := zbs hf
    refine z_gP B fl_RX7_59 ew43 rfl dX7_command_234 ?_
    refine z_iconst (v := 0) B dX7_command_237 (by decide) ?_
    obtain ⟨w44, ew44, hf⟩ := zbs hf
    refine z_aI B ew44 dX7_command_238 ?_
    refine z_iload_n B dX7_command_239 rfl 4 rfl ?_
    refine z_bipush (v := 100) B dX7_command_240 (by decide) ?_
    refine z_irem B dX7_command_242 (by decide) ?_
    rcases zite hf with ⟨c45, hf⟩ | ⟨c45, hf⟩
    · refine z_icmp_ne B 250 dX7_command_243 (by decide) (fun e => absurd c45 e) (fun _ => ?_)
      refine z_iconst (v := 1) B dX7_command_246 (by decide) ?_
      refine z_goto B 251 dX7_command_247 (by decide) ?_
      cases hf
      exact z_zret B dX7_command_251 (Or.inr rfl) (Nat.le_of_ble_eq_true rfl) (Nat.le_of_ble_eq_true rfl)
    refine z_icmp_ne B 250 dX7_command_243 (by decide) (fun _ => ?_) (fun e => absurd e c45)
    refine z_iconst (v := 0) B dX7_command_250 (by decide) ?_
    cases hf
    exact z_zret B dX7_command_251 (Or.inl rfl) (Nat.le_of_ble_eq_true rfl) (Nat.le_of_ble_eq_true rfl)
  rcases zite hf with ⟨c46, hf⟩ | ⟨c46, hf⟩
  · refine z_tabIn B 8 252 dX7_command_30 c46 (by decide) (by decide) rfl (by decide) ?_
    refine z_iload B dX7_command_252 0 rfl ?_
    refine z_bipush (v := 100) B dX7_command_254 (by decide) ?_
    refine z_irem B dX7_command_256 (by decide) ?_
    rcases zite hf with ⟨c47, hf⟩ | ⟨c47, hf⟩
    · refine z_if_ne B 308 dX7_command_257 (by decide) (fun e => absurd c47 e) (fun _ => ?_)
      refine z_aload_n B dX7_command_260 rfl 3 rfl ?_
      obtain ⟨w48, ew48, hf⟩ := zbs hf
      refine z_gP B fl_RX7_59 ew48 rfl dX7_command_261 ?_
      refine z_iload_n B dX7_command_264 rfl 1 rfl ?_
      obtain ⟨w49, h50, ew49, hf⟩ := zb2s hf
      refine z_callSi B [.ref w48, .int ((((a1 : Int32) / 1000) : Int32) - ((a1 : Int32) / 1000) / 100 * 100)] [] cw_X7_isEntry mt_RX7_204 (tX7_isEntry hst ew49) ⟨rfl, rfl, (Nat.le_of_ble_eq_true rfl), (Nat.le_of_ble_eq_true rfl), (Nat.le_of_ble_eq_true rfl), (Nat.le_of_ble_eq_true rfl)⟩ rfl rfl (Nat.le_of_ble_eq_true rfl) dX7_command_265 ?_
      rcases zite hf with ⟨c51, hf⟩ | ⟨c51, hf⟩
      · refine z_if_eq B 308 dX7_command_268 (by decide) (fun _ => ?_) (fun e => absurd c51 e)
        refine z_iconst (v := 0) B dX7_command_308 (by decide) ?_
        cases hf
        exact z_zret B dX7_command_309 (Or.inl rfl) (Nat.le_of_ble_eq_true rfl) (Nat.le_of_ble_eq_true rfl)
      refine z_if_eq B 308 dX7_command_268 (by decide) (fun e => absurd e c51) (fun _ => ?_)
      refine z_aload_n B dX7_command_271 rfl 3 rfl ?_
      refine z_iload B dX7_command_272 0 rfl ?_
      refine z_bipush (v := 100) B dX7_command_274 (by decide) ?_
      refine z_idiv B dX7_command_276 (by decide) ?_
      obtain ⟨w52, h53, ew52, hf⟩ := zb2s hf
      refine z_callVi B [.int ((((a1 : Int32) - a1 / 1000 * 1000) : Int32) / 100)] [] cw_X7_isFormat mv_RX7_214 (tX7_isFormat hst ew52) rfl (by decide) (kfX7_isFormat ew52) ⟨rfl, rfl, (Nat.le_of_ble_eq_true rfl), (Nat.le_of_ble_eq_true rfl), (Nat.le_of_ble_eq_true rfl), (Nat.le_of_ble_eq_true rfl)⟩ rfl rfl (Nat.le_of_ble_eq_true rfl) dX7_command_277 ?_
      rcases zite hf with ⟨c54, hf⟩ | ⟨c54, hf⟩
      · refine z_if_eq B 308 dX7_command_280 (by decide) (fun _ => ?_) (fun e => absurd c54 e)
        refine z_iconst (v := 0) B dX7_command_308 (by decide) ?_
        cases hf
        exact z_zret B dX7_command_309 (Or.inl rfl) (Nat.le_of_ble_eq_true rfl) (Nat.le_of_ble_eq_true rfl)
      refine z_if_eq B 308 dX7_command_280 (by decide) (fun e => absurd e c54) (fun _ => ?_)
      refine z_aload_n B dX7_command_283 rfl 3 rfl ?_
      obtain ⟨w55, ew55, hf⟩ := zbs hf
      refine z_gP B fl_RX7_59 ew55 rfl dX7_command_284 ?_
      refine z_iload_n B dX7_command_287 rfl 1 rfl ?_
      obtain ⟨w56, h57, ew56, hf⟩ := zb2s hf
      refine z_callSi B [.int ((((a1 : Int32) / 1000) : Int32) - ((a1 : Int32) / 1000) / 100 * 100)] [.ref w55] cw_X7_at mt_RX7_163 (tX7_at hst ew56) ⟨rfl, rfl, (Nat.le_of_ble_eq_true rfl), (Nat.le_of_ble_eq_true rfl), (Nat.le_of_ble_eq_true rfl), (Nat.le_of_ble_eq_true rfl)⟩ rfl rfl (Nat.le_of_ble_eq_true rfl) dX7_command_288 ?_
      refine z_bipush (v := 16) B dX7_command_291 (by decide) ?_
      refine z_iadd B dX7_command_293 ?_
      refine z_iload B dX7_command_294 0 rfl ?_
      refine z_bipush (v := 100) B dX7_command_296 (by decide) ?_
      refine z_idiv B dX7_command_298 (by decide) ?_
      refine z_iadd B dX7_command_299 ?_
      obtain ⟨w58, ew58, hf⟩ := zbs hf
      refine z_aI B ew58 dX7_command_300 ?_
      rcases zite hf with ⟨c59, hf⟩ | ⟨c59, hf⟩
      · refine z_if_le B 308 dX7_command_301 (by decide) (fun _ => ?_) (fun e => absurd c59 e)
        refine z_iconst (v := 0) B dX7_command_308 (by decide) ?_
        cases hf
        exact z_zret B dX7_command_309 (Or.inl rfl) (Nat.le_of_ble_eq_true rfl) (Nat.le_of_ble_eq_true rfl)
      refine z_if_le B 308 dX7_command_301 (by decide) (fun e => absurd e c59) (fun _ => ?_)
      refine z_iconst (v := 1) B dX7_command_304 (by decide) ?_
      refine z_goto B 309 dX7_command_305 (by decide) ?_
      cases hf
      exact z_zret B dX7_command_309 (Or.inr rfl) (Nat.le_of_ble_eq_true rfl) (Nat.le_of_ble_eq_true rfl)
    refine z_if_ne B 308 dX7_command_257 (by decide) (fun _ => ?_) (fun e => absurd e c47)
    refine z_iconst (v := 0) B dX7_command_308 (by decide) ?_
    cases hf
    exact z_zret B dX7_command_309 (Or.inl rfl) (Nat.le_of_ble_eq_true rfl) (Nat.le_of_ble_eq_true rfl)
  refine z_tabOut B 310 dX7_command_30 (z_outL 1 9 (by decide) (fun j hj0 hj => by rcases (show j = 1 ∨ j = 2 ∨ j = 3 ∨ j = 4 ∨ j = 5 ∨ j = 6 ∨ j = 7 ∨ j = 8 by omega) with rfl | rfl | rfl | rfl | rfl | rfl | rfl | rfl <;> assumption)) (by decide) ?_
  refine z_iconst (v := 0) B dX7_command_310 (by decide) ?_
  cases hf
  exact z_zret B dX7_command_311 (Or.inl rfl) (Nat.le_of_ble_eq_true rfl) (Nat.le_of_ble_eq_true rfl)
