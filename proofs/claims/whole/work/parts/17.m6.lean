theorem dX7_conversion_0 : zD cX7_conversion 0 (.aload_n 0) 1 1 := ⟨by decide +kernel, rfl⟩
theorem dX7_conversion_1 : zD cX7_conversion 1 (.aload_n 0) 1 2 := ⟨by decide +kernel, rfl⟩
theorem dX7_conversion_2 : zD cX7_conversion 2 (.iload_n 1) 1 3 := ⟨by decide +kernel, rfl⟩
theorem dX7_conversion_3 : zD cX7_conversion 3 (.invokevirtual 196) 3 6 := ⟨by decide +kernel, rfl⟩
theorem dX7_conversion_6 : zD cX7_conversion 6 (.ifCond .ne 7) 3 9 := ⟨by decide +kernel, rfl⟩
theorem dX7_conversion_9 : zD cX7_conversion 9 (.iconst 1) 1 10 := ⟨by decide +kernel, rfl⟩
theorem dX7_conversion_10 : zD cX7_conversion 10 (.goto 20) 3 13 := ⟨by decide +kernel, rfl⟩
theorem dX7_conversion_13 : zD cX7_conversion 13 (.iload_n 2) 1 14 := ⟨by decide +kernel, rfl⟩
theorem dX7_conversion_14 : zD cX7_conversion 14 (.i2l) 1 15 := ⟨by decide +kernel, rfl⟩
theorem dX7_conversion_15 : zD cX7_conversion 15 (.lconst 0) 1 16 := ⟨by decide +kernel, rfl⟩
theorem dX7_conversion_16 : zD cX7_conversion 16 (.ldc2_w 199) 3 19 := ⟨by decide +kernel, rfl⟩
theorem dX7_conversion_19 : zD cX7_conversion 19 (.invokestatic 97) 3 22 := ⟨by decide +kernel, rfl⟩
theorem dX7_conversion_22 : zD cX7_conversion 22 (.ifCond .ne 7) 3 25 := ⟨by decide +kernel, rfl⟩
theorem dX7_conversion_25 : zD cX7_conversion 25 (.iconst 2) 1 26 := ⟨by decide +kernel, rfl⟩
theorem dX7_conversion_26 : zD cX7_conversion 26 (.goto 4) 3 29 := ⟨by decide +kernel, rfl⟩
theorem dX7_conversion_29 : zD cX7_conversion 29 (.iconst 0) 1 30 := ⟨by decide +kernel, rfl⟩
theorem dX7_conversion_30 : zD cX7_conversion 30 (.invokevirtual 112) 3 33 := ⟨by decide +kernel, rfl⟩
theorem dX7_conversion_33 : zD cX7_conversion 33 (.ifCond .eq 5) 3 36 := ⟨by decide +kernel, rfl⟩
theorem dX7_conversion_36 : zD cX7_conversion 36 (.iconst 0) 1 37 := ⟨by decide +kernel, rfl⟩
theorem dX7_conversion_37 : zD cX7_conversion 37 (.ireturn) 1 38 := ⟨by decide +kernel, rfl⟩
theorem dX7_conversion_38 : zD cX7_conversion 38 (.iload_n 2) 1 39 := ⟨by decide +kernel, rfl⟩
theorem dX7_conversion_39 : zD cX7_conversion 39 (.ifCond .ne 12) 3 42 := ⟨by decide +kernel, rfl⟩
theorem dX7_conversion_42 : zD cX7_conversion 42 (.aload_n 0) 1 43 := ⟨by decide +kernel, rfl⟩
theorem dX7_conversion_43 : zD cX7_conversion 43 (.getfield 17) 3 46 := ⟨by decide +kernel, rfl⟩
theorem dX7_conversion_46 : zD cX7_conversion 46 (.iload_n 1) 1 47 := ⟨by decide +kernel, rfl⟩
theorem dX7_conversion_47 : zD cX7_conversion 47 (.iaload) 1 48 := ⟨by decide +kernel, rfl⟩
theorem dX7_conversion_48 : zD cX7_conversion 48 (.goto 53) 3 51 := ⟨by decide +kernel, rfl⟩
theorem dX7_conversion_51 : zD cX7_conversion 51 (.iload_n 2) 1 52 := ⟨by decide +kernel, rfl⟩
theorem dX7_conversion_52 : zD cX7_conversion 52 (.iconst 1) 1 53 := ⟨by decide +kernel, rfl⟩
theorem dX7_conversion_53 : zD cX7_conversion 53 (.if_icmp .ne 12) 3 56 := ⟨by decide +kernel, rfl⟩
theorem dX7_conversion_56 : zD cX7_conversion 56 (.aload_n 0) 1 57 := ⟨by decide +kernel, rfl⟩
theorem dX7_conversion_57 : zD cX7_conversion 57 (.getfield 20) 3 60 := ⟨by decide +kernel, rfl⟩
theorem dX7_conversion_60 : zD cX7_conversion 60 (.iload_n 1) 1 61 := ⟨by decide +kernel, rfl⟩
theorem dX7_conversion_61 : zD cX7_conversion 61 (.iaload) 1 62 := ⟨by decide +kernel, rfl⟩
theorem dX7_conversion_62 : zD cX7_conversion 62 (.goto 39) 3 65 := ⟨by decide +kernel, rfl⟩
theorem dX7_conversion_65 : zD cX7_conversion 65 (.iload_n 2) 1 66 := ⟨by decide +kernel, rfl⟩
theorem dX7_conversion_66 : zD cX7_conversion 66 (.iconst 2) 1 67 := ⟨by decide +kernel, rfl⟩
theorem dX7_conversion_67 : zD cX7_conversion 67 (.if_icmp .ne 14) 3 70 := ⟨by decide +kernel, rfl⟩
theorem dX7_conversion_70 : zD cX7_conversion 70 (.aload_n 0) 1 71 := ⟨by decide +kernel, rfl⟩
theorem dX7_conversion_71 : zD cX7_conversion 71 (.getfield 56) 3 74 := ⟨by decide +kernel, rfl⟩
theorem dX7_conversion_74 : zD cX7_conversion 74 (.iconst 4) 1 75 := ⟨by decide +kernel, rfl⟩
theorem dX7_conversion_75 : zD cX7_conversion 75 (.iload_n 1) 1 76 := ⟨by decide +kernel, rfl⟩
theorem dX7_conversion_76 : zD cX7_conversion 76 (.iadd) 1 77 := ⟨by decide +kernel, rfl⟩
theorem dX7_conversion_77 : zD cX7_conversion 77 (.iaload) 1 78 := ⟨by decide +kernel, rfl⟩
theorem dX7_conversion_78 : zD cX7_conversion 78 (.goto 23) 3 81 := ⟨by decide +kernel, rfl⟩
theorem dX7_conversion_81 : zD cX7_conversion 81 (.iload_n 2) 1 82 := ⟨by decide +kernel, rfl⟩
theorem dX7_conversion_82 : zD cX7_conversion 82 (.iconst 3) 1 83 := ⟨by decide +kernel, rfl⟩
theorem dX7_conversion_83 : zD cX7_conversion 83 (.if_icmp .ne 12) 3 86 := ⟨by decide +kernel, rfl⟩
theorem dX7_conversion_86 : zD cX7_conversion 86 (.aload_n 0) 1 87 := ⟨by decide +kernel, rfl⟩
theorem dX7_conversion_87 : zD cX7_conversion 87 (.getfield 23) 3 90 := ⟨by decide +kernel, rfl⟩
theorem dX7_conversion_90 : zD cX7_conversion 90 (.iload_n 1) 1 91 := ⟨by decide +kernel, rfl⟩
theorem dX7_conversion_91 : zD cX7_conversion 91 (.iaload) 1 92 := ⟨by decide +kernel, rfl⟩
theorem dX7_conversion_92 : zD cX7_conversion 92 (.goto 9) 3 95 := ⟨by decide +kernel, rfl⟩
theorem dX7_conversion_95 : zD cX7_conversion 95 (.aload_n 0) 1 96 := ⟨by decide +kernel, rfl⟩
theorem dX7_conversion_96 : zD cX7_conversion 96 (.getfield 26) 3 99 := ⟨by decide +kernel, rfl⟩
theorem dX7_conversion_99 : zD cX7_conversion 99 (.iload_n 1) 1 100 := ⟨by decide +kernel, rfl⟩
theorem dX7_conversion_100 : zD cX7_conversion 100 (.iaload) 1 101 := ⟨by decide +kernel, rfl⟩
theorem dX7_conversion_101 : zD cX7_conversion 101 (.ireturn) 1 102 := ⟨by decide +kernel, rfl⟩
theorem dX7_place_0 : zD cX7_place 0 (.aload_n 0) 1 1 := ⟨by decide +kernel, rfl⟩
theorem dX7_place_1 : zD cX7_place 1 (.aload_n 0) 1 2 := ⟨by decide +kernel, rfl⟩
theorem dX7_place_2 : zD cX7_place 2 (.iload_n 1) 1 3 := ⟨by decide +kernel, rfl⟩
theorem dX7_place_3 : zD cX7_place 3 (.invokevirtual 201) 3 6 := ⟨by decide +kernel, rfl⟩
theorem dX7_place_6 : zD cX7_place 6 (.ifCond .ne 7) 3 9 := ⟨by decide +kernel, rfl⟩
theorem dX7_place_9 : zD cX7_place 9 (.iconst 1) 1 10 := ⟨by decide +kernel, rfl⟩
theorem dX7_place_10 : zD cX7_place 10 (.goto 18) 3 13 := ⟨by decide +kernel, rfl⟩
theorem dX7_place_13 : zD cX7_place 13 (.iload_n 2) 1 14 := ⟨by decide +kernel, rfl⟩
theorem dX7_place_14 : zD cX7_place 14 (.i2l) 1 15 := ⟨by decide +kernel, rfl⟩
theorem dX7_place_15 : zD cX7_place 15 (.lconst 0) 1 16 := ⟨by decide +kernel, rfl⟩
theorem dX7_place_16 : zD cX7_place 16 (.lconst 1) 1 17 := ⟨by decide +kernel, rfl⟩
theorem dX7_place_17 : zD cX7_place 17 (.invokestatic 97) 3 20 := ⟨by decide +kernel, rfl⟩
theorem dX7_place_20 : zD cX7_place 20 (.ifCond .ne 7) 3 23 := ⟨by decide +kernel, rfl⟩
theorem dX7_place_23 : zD cX7_place 23 (.iconst 2) 1 24 := ⟨by decide +kernel, rfl⟩
theorem dX7_place_24 : zD cX7_place 24 (.goto 4) 3 27 := ⟨by decide +kernel, rfl⟩
theorem dX7_place_27 : zD cX7_place 27 (.iconst 0) 1 28 := ⟨by decide +kernel, rfl⟩
theorem dX7_place_28 : zD cX7_place 28 (.invokevirtual 112) 3 31 := ⟨by decide +kernel, rfl⟩
theorem dX7_place_31 : zD cX7_place 31 (.ifCond .eq 5) 3 34 := ⟨by decide +kernel, rfl⟩
theorem dX7_place_34 : zD cX7_place 34 (.iconst 0) 1 35 := ⟨by decide +kernel, rfl⟩
theorem dX7_place_35 : zD cX7_place 35 (.ireturn) 1 36 := ⟨by decide +kernel, rfl⟩
theorem dX7_place_36 : zD cX7_place 36 (.iload_n 2) 1 37 := ⟨by decide +kernel, rfl⟩
theorem dX7_place_37 : zD cX7_place 37 (.ifCond .ne 12) 3 40 := ⟨by decide +kernel, rfl⟩
theorem dX7_place_40 : zD cX7_place 40 (.aload_n 0) 1 41 := ⟨by decide +kernel, rfl⟩
theorem dX7_place_41 : zD cX7_place 41 (.getfield 29) 3 44 := ⟨by decide +kernel, rfl⟩
theorem dX7_place_44 : zD cX7_place 44 (.iload_n 1) 1 45 := ⟨by decide +kernel, rfl⟩
theorem dX7_place_45 : zD cX7_place 45 (.iaload) 1 46 := ⟨by decide +kernel, rfl⟩
theorem dX7_place_46 : zD cX7_place 46 (.goto 9) 3 49 := ⟨by decide +kernel, rfl⟩
theorem dX7_place_49 : zD cX7_place 49 (.aload_n 0) 1 50 := ⟨by decide +kernel, rfl⟩
theorem dX7_place_50 : zD cX7_place 50 (.getfield 32) 3 53 := ⟨by decide +kernel, rfl⟩
theorem dX7_place_53 : zD cX7_place 53 (.iload_n 1) 1 54 := ⟨by decide +kernel, rfl⟩
theorem dX7_place_54 : zD cX7_place 54 (.iaload) 1 55 := ⟨by decide +kernel, rfl⟩
theorem dX7_place_55 : zD cX7_place 55 (.ireturn) 1 56 := ⟨by decide +kernel, rfl⟩
theorem dX7_entry_0 : zD cX7_entry 0 (.aload_n 0) 1 1 := ⟨by decide +kernel, rfl⟩
theorem dX7_entry_1 : zD cX7_entry 1 (.aload_n 0) 1 2 := ⟨by decide +kernel, rfl⟩
theorem dX7_entry_2 : zD cX7_entry 2 (.getfield 56) 3 5 := ⟨by decide +kernel, rfl⟩
theorem dX7_entry_5 : zD cX7_entry 5 (.iload_n 1) 1 6 := ⟨by decide +kernel, rfl⟩
theorem dX7_entry_6 : zD cX7_entry 6 (.invokestatic 204) 3 9 := ⟨by decide +kernel, rfl⟩
theorem dX7_entry_9 : zD cX7_entry 9 (.ifCond .ne 7) 3 12 := ⟨by decide +kernel, rfl⟩
theorem dX7_entry_12 : zD cX7_entry 12 (.iconst 1) 1 13 := ⟨by decide +kernel, rfl⟩
theorem dX7_entry_13 : zD cX7_entry 13 (.goto 20) 3 16 := ⟨by decide +kernel, rfl⟩
theorem dX7_entry_16 : zD cX7_entry 16 (.iload_n 2) 1 17 := ⟨by decide +kernel, rfl⟩
theorem dX7_entry_17 : zD cX7_entry 17 (.i2l) 1 18 := ⟨by decide +kernel, rfl⟩
theorem dX7_entry_18 : zD cX7_entry 18 (.lconst 0) 1 19 := ⟨by decide +kernel, rfl⟩
theorem dX7_entry_19 : zD cX7_entry 19 (.ldc2_w 208) 3 22 := ⟨by decide +kernel, rfl⟩
theorem dX7_entry_22 : zD cX7_entry 22 (.invokestatic 97) 3 25 := ⟨by decide +kernel, rfl⟩
theorem dX7_entry_25 : zD cX7_entry 25 (.ifCond .ne 7) 3 28 := ⟨by decide +kernel, rfl⟩
theorem dX7_entry_28 : zD cX7_entry 28 (.iconst 2) 1 29 := ⟨by decide +kernel, rfl⟩
theorem dX7_entry_29 : zD cX7_entry 29 (.goto 4) 3 32 := ⟨by decide +kernel, rfl⟩
theorem dX7_entry_32 : zD cX7_entry 32 (.iconst 0) 1 33 := ⟨by decide +kernel, rfl⟩
theorem dX7_entry_33 : zD cX7_entry 33 (.invokevirtual 112) 3 36 := ⟨by decide +kernel, rfl⟩
theorem dX7_entry_36 : zD cX7_entry 36 (.ifCond .eq 5) 3 39 := ⟨by decide +kernel, rfl⟩
theorem dX7_entry_39 : zD cX7_entry 39 (.iconst 0) 1 40 := ⟨by decide +kernel, rfl⟩
theorem dX7_entry_40 : zD cX7_entry 40 (.ireturn) 1 41 := ⟨by decide +kernel, rfl⟩
theorem dX7_entry_41 : zD cX7_entry 41 (.iload_n 2) 1 42 := ⟨by decide +kernel, rfl⟩
theorem dX7_entry_42 : zD cX7_entry 42 (.tableswitch 106 0 5 #[38, 47, 57, 67, 80, 93]) 38 80 := ⟨by decide +kernel, rfl⟩
theorem dX7_entry_80 : zD cX7_entry 80 (.aload_n 0) 1 81 := ⟨by decide +kernel, rfl⟩
theorem dX7_entry_81 : zD cX7_entry 81 (.getfield 56) 3 84 := ⟨by decide +kernel, rfl⟩
theorem dX7_entry_84 : zD cX7_entry 84 (.iload_n 1) 1 85 := ⟨by decide +kernel, rfl⟩
theorem dX7_entry_85 : zD cX7_entry 85 (.invokestatic 166) 3 88 := ⟨by decide +kernel, rfl⟩
theorem dX7_entry_88 : zD cX7_entry 88 (.ireturn) 1 89 := ⟨by decide +kernel, rfl⟩
theorem dX7_entry_89 : zD cX7_entry 89 (.aload_n 0) 1 90 := ⟨by decide +kernel, rfl⟩
theorem dX7_entry_90 : zD cX7_entry 90 (.getfield 56) 3 93 := ⟨by decide +kernel, rfl⟩
theorem dX7_entry_93 : zD cX7_entry 93 (.iload_n 1) 1 94 := ⟨by decide +kernel, rfl⟩
theorem dX7_entry_94 : zD cX7_entry 94 (.iconst 1) 1 95 := ⟨by decide +kernel, rfl⟩
theorem dX7_entry_95 : zD cX7_entry 95 (.invokestatic 210) 3 98 := ⟨by decide +kernel, rfl⟩
theorem dX7_entry_98 : zD cX7_entry 98 (.ireturn) 1 99 := ⟨by decide +kernel, rfl⟩
theorem dX7_entry_99 : zD cX7_entry 99 (.aload_n 0) 1 100 := ⟨by decide +kernel, rfl⟩
theorem dX7_entry_100 : zD cX7_entry 100 (.getfield 56) 3 103 := ⟨by decide +kernel, rfl⟩
theorem dX7_entry_103 : zD cX7_entry 103 (.iload_n 1) 1 104 := ⟨by decide +kernel, rfl⟩
theorem dX7_entry_104 : zD cX7_entry 104 (.iconst 2) 1 105 := ⟨by decide +kernel, rfl⟩
theorem dX7_entry_105 : zD cX7_entry 105 (.invokestatic 210) 3 108 := ⟨by decide +kernel, rfl⟩
theorem dX7_entry_108 : zD cX7_entry 108 (.ireturn) 1 109 := ⟨by decide +kernel, rfl⟩
theorem dX7_entry_109 : zD cX7_entry 109 (.aload_n 0) 1 110 := ⟨by decide +kernel, rfl⟩
theorem dX7_entry_110 : zD cX7_entry 110 (.getfield 56) 3 113 := ⟨by decide +kernel, rfl⟩
theorem dX7_entry_113 : zD cX7_entry 113 (.iload_n 1) 1 114 := ⟨by decide +kernel, rfl⟩
theorem dX7_entry_114 : zD cX7_entry 114 (.invokestatic 163) 3 117 := ⟨by decide +kernel, rfl⟩
theorem dX7_entry_117 : zD cX7_entry 117 (.bipush 24) 2 119 := ⟨by decide +kernel, rfl⟩
theorem dX7_entry_119 : zD cX7_entry 119 (.iadd) 1 120 := ⟨by decide +kernel, rfl⟩
theorem dX7_entry_120 : zD cX7_entry 120 (.iaload) 1 121 := ⟨by decide +kernel, rfl⟩
theorem dX7_entry_121 : zD cX7_entry 121 (.ireturn) 1 122 := ⟨by decide +kernel, rfl⟩
theorem dX7_entry_122 : zD cX7_entry 122 (.aload_n 0) 1 123 := ⟨by decide +kernel, rfl⟩
theorem dX7_entry_123 : zD cX7_entry 123 (.getfield 56) 3 126 := ⟨by decide +kernel, rfl⟩
theorem dX7_entry_126 : zD cX7_entry 126 (.iload_n 1) 1 127 := ⟨by decide +kernel, rfl⟩
theorem dX7_entry_127 : zD cX7_entry 127 (.invokestatic 163) 3 130 := ⟨by decide +kernel, rfl⟩
theorem dX7_entry_130 : zD cX7_entry 130 (.bipush 25) 2 132 := ⟨by decide +kernel, rfl⟩
theorem dX7_entry_132 : zD cX7_entry 132 (.iadd) 1 133 := ⟨by decide +kernel, rfl⟩
theorem dX7_entry_133 : zD cX7_entry 133 (.iaload) 1 134 := ⟨by decide +kernel, rfl⟩
theorem dX7_entry_134 : zD cX7_entry 134 (.ireturn) 1 135 := ⟨by decide +kernel, rfl⟩
theorem dX7_entry_135 : zD cX7_entry 135 (.aload_n 0) 1 136 := ⟨by decide +kernel, rfl⟩
theorem dX7_entry_136 : zD cX7_entry 136 (.getfield 56) 3 139 := ⟨by decide +kernel, rfl⟩
theorem dX7_entry_139 : zD cX7_entry 139 (.iload_n 1) 1 140 := ⟨by decide +kernel, rfl⟩
theorem dX7_entry_140 : zD cX7_entry 140 (.invokestatic 163) 3 143 := ⟨by decide +kernel, rfl⟩
theorem dX7_entry_143 : zD cX7_entry 143 (.bipush 26) 2 145 := ⟨by decide +kernel, rfl⟩
theorem dX7_entry_145 : zD cX7_entry 145 (.iadd) 1 146 := ⟨by decide +kernel, rfl⟩
theorem dX7_entry_146 : zD cX7_entry 146 (.iaload) 1 147 := ⟨by decide +kernel, rfl⟩
theorem dX7_entry_147 : zD cX7_entry 147 (.ireturn) 1 148 := ⟨by decide +kernel, rfl⟩
theorem dX7_entry_148 : zD cX7_entry 148 (.aload_n 0) 1 149 := ⟨by decide +kernel, rfl⟩
theorem dX7_entry_149 : zD cX7_entry 149 (.getfield 56) 3 152 := ⟨by decide +kernel, rfl⟩
theorem dX7_entry_152 : zD cX7_entry 152 (.iload_n 1) 1 153 := ⟨by decide +kernel, rfl⟩
theorem dX7_entry_153 : zD cX7_entry 153 (.invokestatic 173) 3 156 := ⟨by decide +kernel, rfl⟩
theorem dX7_entry_156 : zD cX7_entry 156 (.ireturn) 1 157 := ⟨by decide +kernel, rfl⟩
theorem dX7_form_0 : zD cX7_form 0 (.aload_n 0) 1 1 := ⟨by decide +kernel, rfl⟩
theorem dX7_form_1 : zD cX7_form 1 (.aload_n 0) 1 2 := ⟨by decide +kernel, rfl⟩
theorem dX7_form_2 : zD cX7_form 2 (.getfield 56) 3 5 := ⟨by decide +kernel, rfl⟩
theorem dX7_form_5 : zD cX7_form 5 (.iload_n 1) 1 6 := ⟨by decide +kernel, rfl⟩
theorem dX7_form_6 : zD cX7_form 6 (.invokestatic 204) 3 9 := ⟨by decide +kernel, rfl⟩
theorem dX7_form_9 : zD cX7_form 9 (.ifCond .eq 15) 3 12 := ⟨by decide +kernel, rfl⟩
theorem dX7_form_12 : zD cX7_form 12 (.aload_n 0) 1 13 := ⟨by decide +kernel, rfl⟩
theorem dX7_form_13 : zD cX7_form 13 (.iload_n 2) 1 14 := ⟨by decide +kernel, rfl⟩
theorem dX7_form_14 : zD cX7_form 14 (.invokevirtual 214) 3 17 := ⟨by decide +kernel, rfl⟩
theorem dX7_form_17 : zD cX7_form 17 (.ifCond .eq 7) 3 20 := ⟨by decide +kernel, rfl⟩
theorem dX7_form_20 : zD cX7_form 20 (.iconst 0) 1 21 := ⟨by decide +kernel, rfl⟩
theorem dX7_form_21 : zD cX7_form 21 (.goto 4) 3 24 := ⟨by decide +kernel, rfl⟩
theorem dX7_form_24 : zD cX7_form 24 (.iconst 1) 1 25 := ⟨by decide +kernel, rfl⟩
theorem dX7_form_25 : zD cX7_form 25 (.invokevirtual 112) 3 28 := ⟨by decide +kernel, rfl⟩
theorem dX7_form_28 : zD cX7_form 28 (.ifCond .eq 5) 3 31 := ⟨by decide +kernel, rfl⟩
theorem dX7_form_31 : zD cX7_form 31 (.iconst 0) 1 32 := ⟨by decide +kernel, rfl⟩
theorem dX7_form_32 : zD cX7_form 32 (.ireturn) 1 33 := ⟨by decide +kernel, rfl⟩
theorem dX7_form_33 : zD cX7_form 33 (.aload_n 0) 1 34 := ⟨by decide +kernel, rfl⟩
theorem dX7_form_34 : zD cX7_form 34 (.getfield 56) 3 37 := ⟨by decide +kernel, rfl⟩
theorem dX7_form_37 : zD cX7_form 37 (.iload_n 1) 1 38 := ⟨by decide +kernel, rfl⟩
theorem dX7_form_38 : zD cX7_form 38 (.invokestatic 163) 3 41 := ⟨by decide +kernel, rfl⟩
theorem dX7_form_41 : zD cX7_form 41 (.bipush 16) 2 43 := ⟨by decide +kernel, rfl⟩
theorem dX7_form_43 : zD cX7_form 43 (.iadd) 1 44 := ⟨by decide +kernel, rfl⟩
theorem dX7_form_44 : zD cX7_form 44 (.iload_n 2) 1 45 := ⟨by decide +kernel, rfl⟩
theorem dX7_form_45 : zD cX7_form 45 (.iadd) 1 46 := ⟨by decide +kernel, rfl⟩
theorem dX7_form_46 : zD cX7_form 46 (.iaload) 1 47 := ⟨by decide +kernel, rfl⟩
theorem dX7_form_47 : zD cX7_form 47 (.ifCond .ne 8) 3 50 := ⟨by decide +kernel, rfl⟩
theorem dX7_form_50 : zD cX7_form 50 (.bipush (-9)) 2 52 := ⟨by decide +kernel, rfl⟩
theorem dX7_form_52 : zD cX7_form 52 (.goto 25) 3 55 := ⟨by decide +kernel, rfl⟩
theorem dX7_form_55 : zD cX7_form 55 (.aload_n 0) 1 56 := ⟨by decide +kernel, rfl⟩
theorem dX7_form_56 : zD cX7_form 56 (.getfield 56) 3 59 := ⟨by decide +kernel, rfl⟩
theorem dX7_form_59 : zD cX7_form 59 (.iload_n 1) 1 60 := ⟨by decide +kernel, rfl⟩
theorem dX7_form_60 : zD cX7_form 60 (.invokestatic 163) 3 63 := ⟨by decide +kernel, rfl⟩
theorem dX7_form_63 : zD cX7_form 63 (.iload_n 3) 1 64 := ⟨by decide +kernel, rfl⟩
theorem dX7_form_64 : zD cX7_form 64 (.ifCond .eq 8) 3 67 := ⟨by decide +kernel, rfl⟩
theorem dX7_form_67 : zD cX7_form 67 (.bipush 8) 2 69 := ⟨by decide +kernel, rfl⟩
theorem dX7_form_69 : zD cX7_form 69 (.goto 4) 3 72 := ⟨by decide +kernel, rfl⟩
theorem dX7_form_72 : zD cX7_form 72 (.iconst 0) 1 73 := ⟨by decide +kernel, rfl⟩
theorem dX7_form_73 : zD cX7_form 73 (.iadd) 1 74 := ⟨by decide +kernel, rfl⟩
theorem dX7_form_74 : zD cX7_form 74 (.iload_n 2) 1 75 := ⟨by decide +kernel, rfl⟩
theorem dX7_form_75 : zD cX7_form 75 (.iadd) 1 76 := ⟨by decide +kernel, rfl⟩
theorem dX7_form_76 : zD cX7_form 76 (.iaload) 1 77 := ⟨by decide +kernel, rfl⟩
theorem dX7_form_77 : zD cX7_form 77 (.ireturn) 1 78 := ⟨by decide +kernel, rfl⟩
theorem dX7_pinnedIn_0 : zD cX7_pinnedIn 0 (.iconst 0) 1 1 := ⟨by decide +kernel, rfl⟩
theorem dX7_pinnedIn_1 : zD cX7_pinnedIn 1 (.istore_n 2) 1 2 := ⟨by decide +kernel, rfl⟩
theorem dX7_pinnedIn_2 : zD cX7_pinnedIn 2 (.iconst 0) 1 3 := ⟨by decide +kernel, rfl⟩
theorem dX7_pinnedIn_3 : zD cX7_pinnedIn 3 (.istore_n 3) 1 4 := ⟨by decide +kernel, rfl⟩
theorem dX7_pinnedIn_4 : zD cX7_pinnedIn 4 (.iload_n 3) 1 5 := ⟨by decide +kernel, rfl⟩
theorem dX7_pinnedIn_5 : zD cX7_pinnedIn 5 (.aload_n 1) 1 6 := ⟨by decide +kernel, rfl⟩
theorem dX7_pinnedIn_6 : zD cX7_pinnedIn 6 (.iconst 0) 1 7 := ⟨by decide +kernel, rfl⟩
theorem dX7_pinnedIn_7 : zD cX7_pinnedIn 7 (.iaload) 1 8 := ⟨by decide +kernel, rfl⟩
theorem dX7_pinnedIn_8 : zD cX7_pinnedIn 8 (.if_icmp .ge 21) 3 11 := ⟨by decide +kernel, rfl⟩
theorem dX7_pinnedIn_11 : zD cX7_pinnedIn 11 (.iload_n 2) 1 12 := ⟨by decide +kernel, rfl⟩
theorem dX7_pinnedIn_12 : zD cX7_pinnedIn 12 (.aload_n 1) 1 13 := ⟨by decide +kernel, rfl⟩
theorem dX7_pinnedIn_13 : zD cX7_pinnedIn 13 (.iload_n 3) 1 14 := ⟨by decide +kernel, rfl⟩
theorem dX7_pinnedIn_14 : zD cX7_pinnedIn 14 (.invokestatic 163) 3 17 := ⟨by decide +kernel, rfl⟩
theorem dX7_pinnedIn_17 : zD cX7_pinnedIn 17 (.bipush 24) 2 19 := ⟨by decide +kernel, rfl⟩
theorem dX7_pinnedIn_19 : zD cX7_pinnedIn 19 (.iadd) 1 20 := ⟨by decide +kernel, rfl⟩
theorem dX7_pinnedIn_20 : zD cX7_pinnedIn 20 (.iaload) 1 21 := ⟨by decide +kernel, rfl⟩
theorem dX7_pinnedIn_21 : zD cX7_pinnedIn 21 (.iadd) 1 22 := ⟨by decide +kernel, rfl⟩
theorem dX7_pinnedIn_22 : zD cX7_pinnedIn 22 (.istore_n 2) 1 23 := ⟨by decide +kernel, rfl⟩
theorem dX7_pinnedIn_23 : zD cX7_pinnedIn 23 (.iinc 3 1) 3 26 := ⟨by decide +kernel, rfl⟩
theorem dX7_pinnedIn_26 : zD cX7_pinnedIn 26 (.goto (-22)) 3 29 := ⟨by decide +kernel, rfl⟩
theorem dX7_pinnedIn_29 : zD cX7_pinnedIn 29 (.iload_n 2) 1 30 := ⟨by decide +kernel, rfl⟩
theorem dX7_pinnedIn_30 : zD cX7_pinnedIn 30 (.ireturn) 1 31 := ⟨by decide +kernel, rfl⟩
theorem dX7_insert_0 : zD cX7_insert 0 (.aload_n 0) 1 1 := ⟨by decide +kernel, rfl⟩
theorem dX7_insert_1 : zD cX7_insert 1 (.iconst 0) 1 2 := ⟨by decide +kernel, rfl⟩
theorem dX7_insert_2 : zD cX7_insert 2 (.iaload) 1 3 := ⟨by decide +kernel, rfl⟩
theorem dX7_insert_3 : zD cX7_insert 3 (.invokestatic 163) 3 6 := ⟨by decide +kernel, rfl⟩
theorem dX7_insert_6 : zD cX7_insert 6 (.iconst 1) 1 7 := ⟨by decide +kernel, rfl⟩
theorem dX7_insert_7 : zD cX7_insert 7 (.isub) 1 8 := ⟨by decide +kernel, rfl⟩
theorem dX7_insert_8 : zD cX7_insert 8 (.istore_n 1) 1 9 := ⟨by decide +kernel, rfl⟩
theorem dX7_insert_9 : zD cX7_insert 9 (.iload_n 1) 1 10 := ⟨by decide +kernel, rfl⟩
theorem dX7_insert_10 : zD cX7_insert 10 (.bipush 24) 2 12 := ⟨by decide +kernel, rfl⟩
theorem dX7_insert_12 : zD cX7_insert 12 (.if_icmp .lt 18) 3 15 := ⟨by decide +kernel, rfl⟩
theorem dX7_insert_15 : zD cX7_insert 15 (.aload_n 0) 1 16 := ⟨by decide +kernel, rfl⟩
theorem dX7_insert_16 : zD cX7_insert 16 (.iload_n 1) 1 17 := ⟨by decide +kernel, rfl⟩
theorem dX7_insert_17 : zD cX7_insert 17 (.bipush 28) 2 19 := ⟨by decide +kernel, rfl⟩
theorem dX7_insert_19 : zD cX7_insert 19 (.iadd) 1 20 := ⟨by decide +kernel, rfl⟩
theorem dX7_insert_20 : zD cX7_insert 20 (.aload_n 0) 1 21 := ⟨by decide +kernel, rfl⟩
theorem dX7_insert_21 : zD cX7_insert 21 (.iload_n 1) 1 22 := ⟨by decide +kernel, rfl⟩
theorem dX7_insert_22 : zD cX7_insert 22 (.iaload) 1 23 := ⟨by decide +kernel, rfl⟩
theorem dX7_insert_23 : zD cX7_insert 23 (.iastore) 1 24 := ⟨by decide +kernel, rfl⟩
theorem dX7_insert_24 : zD cX7_insert 24 (.iinc 1 (-1)) 3 27 := ⟨by decide +kernel, rfl⟩
theorem dX7_insert_27 : zD cX7_insert 27 (.goto (-18)) 3 30 := ⟨by decide +kernel, rfl⟩
theorem dX7_insert_30 : zD cX7_insert 30 (.iconst 0) 1 31 := ⟨by decide +kernel, rfl⟩
theorem dX7_insert_31 : zD cX7_insert 31 (.istore_n 1) 1 32 := ⟨by decide +kernel, rfl⟩
theorem dX7_insert_32 : zD cX7_insert 32 (.iload_n 1) 1 33 := ⟨by decide +kernel, rfl⟩
theorem dX7_insert_33 : zD cX7_insert 33 (.bipush 28) 2 35 := ⟨by decide +kernel, rfl⟩
theorem dX7_insert_35 : zD cX7_insert 35 (.if_icmp .ge 16) 3 38 := ⟨by decide +kernel, rfl⟩
theorem dX7_insert_38 : zD cX7_insert 38 (.aload_n 0) 1 39 := ⟨by decide +kernel, rfl⟩
theorem dX7_insert_39 : zD cX7_insert 39 (.bipush 24) 2 41 := ⟨by decide +kernel, rfl⟩
theorem dX7_insert_41 : zD cX7_insert 41 (.iload_n 1) 1 42 := ⟨by decide +kernel, rfl⟩
theorem dX7_insert_42 : zD cX7_insert 42 (.iadd) 1 43 := ⟨by decide +kernel, rfl⟩
theorem dX7_insert_43 : zD cX7_insert 43 (.iconst 0) 1 44 := ⟨by decide +kernel, rfl⟩
theorem dX7_insert_44 : zD cX7_insert 44 (.iastore) 1 45 := ⟨by decide +kernel, rfl⟩
theorem dX7_insert_45 : zD cX7_insert 45 (.iinc 1 1) 3 48 := ⟨by decide +kernel, rfl⟩
theorem dX7_insert_48 : zD cX7_insert 48 (.goto (-16)) 3 51 := ⟨by decide +kernel, rfl⟩
theorem dX7_insert_51 : zD cX7_insert 51 (.aload_n 0) 1 52 := ⟨by decide +kernel, rfl⟩
theorem dX7_insert_52 : zD cX7_insert 52 (.iconst 0) 1 53 := ⟨by decide +kernel, rfl⟩
theorem dX7_insert_53 : zD cX7_insert 53 (.dup2) 1 54 := ⟨by decide +kernel, rfl⟩
theorem dX7_insert_54 : zD cX7_insert 54 (.iaload) 1 55 := ⟨by decide +kernel, rfl⟩
theorem dX7_insert_55 : zD cX7_insert 55 (.iconst 1) 1 56 := ⟨by decide +kernel, rfl⟩
theorem dX7_insert_56 : zD cX7_insert 56 (.iadd) 1 57 := ⟨by decide +kernel, rfl⟩
theorem dX7_insert_57 : zD cX7_insert 57 (.iastore) 1 58 := ⟨by decide +kernel, rfl⟩
theorem dX7_insert_58 : zD cX7_insert 58 (.return_) 1 59 := ⟨by decide +kernel, rfl⟩
theorem dX7_copyOn_0 : zD cX7_copyOn 0 (.aload_n 0) 1 1 := ⟨by decide +kernel, rfl⟩
theorem dX7_copyOn_1 : zD cX7_copyOn 1 (.iload_n 2) 1 2 := ⟨by decide +kernel, rfl⟩
theorem dX7_copyOn_2 : zD cX7_copyOn 2 (.invokevirtual 214) 3 5 := ⟨by decide +kernel, rfl⟩
theorem dX7_copyOn_5 : zD cX7_copyOn 5 (.ifCond .ne 5) 3 8 := ⟨by decide +kernel, rfl⟩
theorem dX7_copyOn_8 : zD cX7_copyOn 8 (.iconst 1) 1 9 := ⟨by decide +kernel, rfl⟩
theorem dX7_copyOn_9 : zD cX7_copyOn 9 (.ireturn) 1 10 := ⟨by decide +kernel, rfl⟩
theorem dX7_copyOn_10 : zD cX7_copyOn 10 (.iload_n 3) 1 11 := ⟨by decide +kernel, rfl⟩
theorem dX7_copyOn_11 : zD cX7_copyOn 11 (.i2l) 1 12 := ⟨by decide +kernel, rfl⟩
theorem dX7_copyOn_12 : zD cX7_copyOn 12 (.lconst 1) 1 13 := ⟨by decide +kernel, rfl⟩
theorem dX7_copyOn_13 : zD cX7_copyOn 13 (.ldc2_w 217) 3 16 := ⟨by decide +kernel, rfl⟩
theorem dX7_copyOn_16 : zD cX7_copyOn 16 (.invokestatic 97) 3 19 := ⟨by decide +kernel, rfl⟩
theorem dX7_copyOn_19 : zD cX7_copyOn 19 (.ifCond .ne 5) 3 22 := ⟨by decide +kernel, rfl⟩
theorem dX7_copyOn_22 : zD cX7_copyOn 22 (.iconst 2) 1 23 := ⟨by decide +kernel, rfl⟩
theorem dX7_copyOn_23 : zD cX7_copyOn 23 (.ireturn) 1 24 := ⟨by decide +kernel, rfl⟩
theorem dX7_copyOn_24 : zD cX7_copyOn 24 (.aload_n 1) 1 25 := ⟨by decide +kernel, rfl⟩
theorem dX7_copyOn_25 : zD cX7_copyOn 25 (.iconst 1) 1 26 := ⟨by decide +kernel, rfl⟩
theorem dX7_copyOn_26 : zD cX7_copyOn 26 (.dup2) 1 27 := ⟨by decide +kernel, rfl⟩
theorem dX7_copyOn_27 : zD cX7_copyOn 27 (.iaload) 1 28 := ⟨by decide +kernel, rfl⟩
theorem dX7_copyOn_28 : zD cX7_copyOn 28 (.iconst 1) 1 29 := ⟨by decide +kernel, rfl⟩
theorem dX7_copyOn_29 : zD cX7_copyOn 29 (.iadd) 1 30 := ⟨by decide +kernel, rfl⟩
theorem dX7_copyOn_30 : zD cX7_copyOn 30 (.iastore) 1 31 := ⟨by decide +kernel, rfl⟩
theorem dX7_copyOn_31 : zD cX7_copyOn 31 (.aload_n 1) 1 32 := ⟨by decide +kernel, rfl⟩
theorem dX7_copyOn_32 : zD cX7_copyOn 32 (.iconst 0) 1 33 := ⟨by decide +kernel, rfl⟩
theorem dX7_copyOn_33 : zD cX7_copyOn 33 (.iaload) 1 34 := ⟨by decide +kernel, rfl⟩
theorem dX7_copyOn_34 : zD cX7_copyOn 34 (.bipush 12) 2 36 := ⟨by decide +kernel, rfl⟩
theorem dX7_copyOn_36 : zD cX7_copyOn 36 (.if_icmp .ne 26) 3 39 := ⟨by decide +kernel, rfl⟩
theorem dX7_copyOn_39 : zD cX7_copyOn 39 (.aload_n 1) 1 40 := ⟨by decide +kernel, rfl⟩
theorem dX7_copyOn_40 : zD cX7_copyOn 40 (.bipush (-9)) 2 42 := ⟨by decide +kernel, rfl⟩
theorem dX7_copyOn_42 : zD cX7_copyOn 42 (.invokestatic 183) 3 45 := ⟨by decide +kernel, rfl⟩
theorem dX7_copyOn_45 : zD cX7_copyOn 45 (.istore 4) 2 47 := ⟨by decide +kernel, rfl⟩
theorem dX7_copyOn_47 : zD cX7_copyOn 47 (.iload 4) 2 49 := ⟨by decide +kernel, rfl⟩
theorem dX7_copyOn_49 : zD cX7_copyOn 49 (.bipush (-9)) 2 51 := ⟨by decide +kernel, rfl⟩
theorem dX7_copyOn_51 : zD cX7_copyOn 51 (.if_icmp .ne 5) 3 54 := ⟨by decide +kernel, rfl⟩
theorem dX7_copyOn_54 : zD cX7_copyOn 54 (.iconst 3) 1 55 := ⟨by decide +kernel, rfl⟩
theorem dX7_copyOn_55 : zD cX7_copyOn 55 (.ireturn) 1 56 := ⟨by decide +kernel, rfl⟩
theorem dX7_copyOn_56 : zD cX7_copyOn 56 (.aload_n 1) 1 57 := ⟨by decide +kernel, rfl⟩
theorem dX7_copyOn_57 : zD cX7_copyOn 57 (.iload 4) 2 59 := ⟨by decide +kernel, rfl⟩
theorem dX7_copyOn_59 : zD cX7_copyOn 59 (.invokestatic 190) 3 62 := ⟨by decide +kernel, rfl⟩
theorem dX7_copyOn_62 : zD cX7_copyOn 62 (.aload_n 1) 1 63 := ⟨by decide +kernel, rfl⟩
theorem dX7_copyOn_63 : zD cX7_copyOn 63 (.iload_n 3) 1 64 := ⟨by decide +kernel, rfl⟩
theorem dX7_copyOn_64 : zD cX7_copyOn 64 (.bipush (-9)) 2 66 := ⟨by decide +kernel, rfl⟩
theorem dX7_copyOn_66 : zD cX7_copyOn 66 (.iconst 1) 1 67 := ⟨by decide +kernel, rfl⟩
theorem dX7_copyOn_67 : zD cX7_copyOn 67 (.invokestatic 219) 3 70 := ⟨by decide +kernel, rfl⟩
theorem dX7_copyOn_70 : zD cX7_copyOn 70 (.ifCond .ne 5) 3 73 := ⟨by decide +kernel, rfl⟩
theorem dX7_copyOn_73 : zD cX7_copyOn 73 (.iconst 3) 1 74 := ⟨by decide +kernel, rfl⟩
theorem dX7_copyOn_74 : zD cX7_copyOn 74 (.ireturn) 1 75 := ⟨by decide +kernel, rfl⟩
theorem dX7_copyOn_75 : zD cX7_copyOn 75 (.aload_n 1) 1 76 := ⟨by decide +kernel, rfl⟩
theorem dX7_copyOn_76 : zD cX7_copyOn 76 (.invokestatic 223) 3 79 := ⟨by decide +kernel, rfl⟩
theorem dX7_copyOn_79 : zD cX7_copyOn 79 (.aload_n 1) 1 80 := ⟨by decide +kernel, rfl⟩
theorem dX7_copyOn_80 : zD cX7_copyOn 80 (.iconst 0) 1 81 := ⟨by decide +kernel, rfl⟩
theorem dX7_copyOn_81 : zD cX7_copyOn 81 (.iload_n 2) 1 82 := ⟨by decide +kernel, rfl⟩
theorem dX7_copyOn_82 : zD cX7_copyOn 82 (.iload_n 3) 1 83 := ⟨by decide +kernel, rfl⟩
theorem dX7_copyOn_83 : zD cX7_copyOn 83 (.iconst 0) 1 84 := ⟨by decide +kernel, rfl⟩
theorem dX7_copyOn_84 : zD cX7_copyOn 84 (.iconst 1) 1 85 := ⟨by decide +kernel, rfl⟩
theorem dX7_copyOn_85 : zD cX7_copyOn 85 (.invokestatic 227) 3 88 := ⟨by decide +kernel, rfl⟩
theorem dX7_copyOn_88 : zD cX7_copyOn 88 (.aload_n 1) 1 89 := ⟨by decide +kernel, rfl⟩
theorem dX7_copyOn_89 : zD cX7_copyOn 89 (.bipush 50) 2 91 := ⟨by decide +kernel, rfl⟩
theorem dX7_copyOn_91 : zD cX7_copyOn 91 (.aload_n 1) 1 92 := ⟨by decide +kernel, rfl⟩
theorem dX7_copyOn_92 : zD cX7_copyOn 92 (.iconst 1) 1 93 := ⟨by decide +kernel, rfl⟩
theorem dX7_copyOn_93 : zD cX7_copyOn 93 (.iaload) 1 94 := ⟨by decide +kernel, rfl⟩
theorem dX7_copyOn_94 : zD cX7_copyOn 94 (.iastore) 1 95 := ⟨by decide +kernel, rfl⟩
theorem dX7_copyOn_95 : zD cX7_copyOn 95 (.aload_n 1) 1 96 := ⟨by decide +kernel, rfl⟩
theorem dX7_copyOn_96 : zD cX7_copyOn 96 (.bipush 51) 2 98 := ⟨by decide +kernel, rfl⟩
theorem dX7_copyOn_98 : zD cX7_copyOn 98 (.bipush (-9)) 2 100 := ⟨by decide +kernel, rfl⟩
theorem dX7_copyOn_100 : zD cX7_copyOn 100 (.iastore) 1 101 := ⟨by decide +kernel, rfl⟩
theorem dX7_copyOn_101 : zD cX7_copyOn 101 (.iconst 0) 1 102 := ⟨by decide +kernel, rfl⟩
theorem dX7_copyOn_102 : zD cX7_copyOn 102 (.ireturn) 1 103 := ⟨by decide +kernel, rfl⟩
theorem dX7_offerOn_0 : zD cX7_offerOn 0 (.aload_n 0) 1 1 := ⟨by decide +kernel, rfl⟩
theorem dX7_offerOn_1 : zD cX7_offerOn 1 (.iload_n 2) 1 2 := ⟨by decide +kernel, rfl⟩
theorem dX7_offerOn_2 : zD cX7_offerOn 2 (.invokevirtual 214) 3 5 := ⟨by decide +kernel, rfl⟩
theorem dX7_offerOn_5 : zD cX7_offerOn 5 (.ifCond .ne 5) 3 8 := ⟨by decide +kernel, rfl⟩
theorem dX7_offerOn_8 : zD cX7_offerOn 8 (.iconst 1) 1 9 := ⟨by decide +kernel, rfl⟩
theorem dX7_offerOn_9 : zD cX7_offerOn 9 (.ireturn) 1 10 := ⟨by decide +kernel, rfl⟩
theorem dX7_offerOn_10 : zD cX7_offerOn 10 (.iload_n 3) 1 11 := ⟨by decide +kernel, rfl⟩
theorem dX7_offerOn_11 : zD cX7_offerOn 11 (.i2l) 1 12 := ⟨by decide +kernel, rfl⟩
theorem dX7_offerOn_12 : zD cX7_offerOn 12 (.lconst 1) 1 13 := ⟨by decide +kernel, rfl⟩
theorem dX7_offerOn_13 : zD cX7_offerOn 13 (.ldc2_w 217) 3 16 := ⟨by decide +kernel, rfl⟩
theorem dX7_offerOn_16 : zD cX7_offerOn 16 (.invokestatic 97) 3 19 := ⟨by decide +kernel, rfl⟩
theorem dX7_offerOn_19 : zD cX7_offerOn 19 (.ifCond .ne 5) 3 22 := ⟨by decide +kernel, rfl⟩
theorem dX7_offerOn_22 : zD cX7_offerOn 22 (.iconst 2) 1 23 := ⟨by decide +kernel, rfl⟩
theorem dX7_offerOn_23 : zD cX7_offerOn 23 (.ireturn) 1 24 := ⟨by decide +kernel, rfl⟩
theorem dX7_offerOn_24 : zD cX7_offerOn 24 (.aload_n 1) 1 25 := ⟨by decide +kernel, rfl⟩
theorem dX7_offerOn_25 : zD cX7_offerOn 25 (.iconst 0) 1 26 := ⟨by decide +kernel, rfl⟩
theorem dX7_offerOn_26 : zD cX7_offerOn 26 (.iaload) 1 27 := ⟨by decide +kernel, rfl⟩
theorem dX7_offerOn_27 : zD cX7_offerOn 27 (.ifCond .eq 13) 3 30 := ⟨by decide +kernel, rfl⟩
theorem dX7_offerOn_30 : zD cX7_offerOn 30 (.aload_n 1) 1 31 := ⟨by decide +kernel, rfl⟩
theorem dX7_offerOn_31 : zD cX7_offerOn 31 (.bipush 40) 2 33 := ⟨by decide +kernel, rfl⟩
theorem dX7_offerOn_33 : zD cX7_offerOn 33 (.iload_n 2) 1 34 := ⟨by decide +kernel, rfl⟩
theorem dX7_offerOn_34 : zD cX7_offerOn 34 (.iadd) 1 35 := ⟨by decide +kernel, rfl⟩
theorem dX7_offerOn_35 : zD cX7_offerOn 35 (.iaload) 1 36 := ⟨by decide +kernel, rfl⟩
theorem dX7_offerOn_36 : zD cX7_offerOn 36 (.iconst 1) 1 37 := ⟨by decide +kernel, rfl⟩
theorem dX7_offerOn_37 : zD cX7_offerOn 37 (.if_icmp .ne 5) 3 40 := ⟨by decide +kernel, rfl⟩
theorem dX7_offerOn_40 : zD cX7_offerOn 40 (.iconst 3) 1 41 := ⟨by decide +kernel, rfl⟩
theorem dX7_offerOn_41 : zD cX7_offerOn 41 (.ireturn) 1 42 := ⟨by decide +kernel, rfl⟩
theorem dX7_offerOn_42 : zD cX7_offerOn 42 (.aload_n 1) 1 43 := ⟨by decide +kernel, rfl⟩
theorem dX7_offerOn_43 : zD cX7_offerOn 43 (.iconst 1) 1 44 := ⟨by decide +kernel, rfl⟩
theorem dX7_offerOn_44 : zD cX7_offerOn 44 (.dup2) 1 45 := ⟨by decide +kernel, rfl⟩
theorem dX7_offerOn_45 : zD cX7_offerOn 45 (.iaload) 1 46 := ⟨by decide +kernel, rfl⟩
theorem dX7_offerOn_46 : zD cX7_offerOn 46 (.iconst 1) 1 47 := ⟨by decide +kernel, rfl⟩
theorem dX7_offerOn_47 : zD cX7_offerOn 47 (.iadd) 1 48 := ⟨by decide +kernel, rfl⟩
theorem dX7_offerOn_48 : zD cX7_offerOn 48 (.iastore) 1 49 := ⟨by decide +kernel, rfl⟩
theorem dX7_offerOn_49 : zD cX7_offerOn 49 (.aload_n 1) 1 50 := ⟨by decide +kernel, rfl⟩
theorem dX7_offerOn_50 : zD cX7_offerOn 50 (.iconst 0) 1 51 := ⟨by decide +kernel, rfl⟩
theorem dX7_offerOn_51 : zD cX7_offerOn 51 (.iload_n 2) 1 52 := ⟨by decide +kernel, rfl⟩
theorem dX7_offerOn_52 : zD cX7_offerOn 52 (.invokestatic 186) 3 55 := ⟨by decide +kernel, rfl⟩
theorem dX7_offerOn_55 : zD cX7_offerOn 55 (.aload_n 1) 1 56 := ⟨by decide +kernel, rfl⟩
theorem dX7_offerOn_56 : zD cX7_offerOn 56 (.iload_n 3) 1 57 := ⟨by decide +kernel, rfl⟩
theorem dX7_offerOn_57 : zD cX7_offerOn 57 (.iconst 0) 1 58 := ⟨by decide +kernel, rfl⟩
theorem dX7_offerOn_58 : zD cX7_offerOn 58 (.iconst 1) 1 59 := ⟨by decide +kernel, rfl⟩
theorem dX7_offerOn_59 : zD cX7_offerOn 59 (.invokestatic 219) 3 62 := ⟨by decide +kernel, rfl⟩
theorem dX7_offerOn_62 : zD cX7_offerOn 62 (.ifCond .ne 5) 3 65 := ⟨by decide +kernel, rfl⟩
theorem dX7_offerOn_65 : zD cX7_offerOn 65 (.iconst 3) 1 66 := ⟨by decide +kernel, rfl⟩
theorem dX7_offerOn_66 : zD cX7_offerOn 66 (.ireturn) 1 67 := ⟨by decide +kernel, rfl⟩
theorem dX7_offerOn_67 : zD cX7_offerOn 67 (.aload_n 1) 1 68 := ⟨by decide +kernel, rfl⟩
theorem dX7_offerOn_68 : zD cX7_offerOn 68 (.iconst 0) 1 69 := ⟨by decide +kernel, rfl⟩
theorem dX7_offerOn_69 : zD cX7_offerOn 69 (.iload_n 2) 1 70 := ⟨by decide +kernel, rfl⟩
theorem dX7_offerOn_70 : zD cX7_offerOn 70 (.iload_n 3) 1 71 := ⟨by decide +kernel, rfl⟩
theorem dX7_offerOn_71 : zD cX7_offerOn 71 (.iconst 0) 1 72 := ⟨by decide +kernel, rfl⟩
theorem dX7_offerOn_72 : zD cX7_offerOn 72 (.iconst 1) 1 73 := ⟨by decide +kernel, rfl⟩
theorem dX7_offerOn_73 : zD cX7_offerOn 73 (.invokestatic 227) 3 76 := ⟨by decide +kernel, rfl⟩
theorem dX7_offerOn_76 : zD cX7_offerOn 76 (.iconst 0) 1 77 := ⟨by decide +kernel, rfl⟩
theorem dX7_offerOn_77 : zD cX7_offerOn 77 (.ireturn) 1 78 := ⟨by decide +kernel, rfl⟩
theorem dX7_layTable_0 : zD cX7_layTable 0 (.iconst 0) 1 1 := ⟨by decide +kernel, rfl⟩
theorem dX7_layTable_1 : zD cX7_layTable 1 (.istore_n 3) 1 2 := ⟨by decide +kernel, rfl⟩
theorem dX7_layTable_2 : zD cX7_layTable 2 (.iload_n 3) 1 3 := ⟨by decide +kernel, rfl⟩
theorem dX7_layTable_3 : zD cX7_layTable 3 (.bipush 64) 2 5 := ⟨by decide +kernel, rfl⟩
theorem dX7_layTable_5 : zD cX7_layTable 5 (.if_icmp .ge 18) 3 8 := ⟨by decide +kernel, rfl⟩
theorem dX7_layTable_8 : zD cX7_layTable 8 (.aload_n 0) 1 9 := ⟨by decide +kernel, rfl⟩
theorem dX7_layTable_9 : zD cX7_layTable 9 (.getfield 78) 3 12 := ⟨by decide +kernel, rfl⟩
theorem dX7_layTable_12 : zD cX7_layTable 12 (.iload_n 3) 1 13 := ⟨by decide +kernel, rfl⟩
theorem dX7_layTable_13 : zD cX7_layTable 13 (.ldc_w 269) 3 16 := ⟨by decide +kernel, rfl⟩
theorem dX7_layTable_16 : zD cX7_layTable 16 (.iastore) 1 17 := ⟨by decide +kernel, rfl⟩
theorem dX7_layTable_17 : zD cX7_layTable 17 (.iinc 3 1) 3 20 := ⟨by decide +kernel, rfl⟩
theorem dX7_layTable_20 : zD cX7_layTable 20 (.goto (-18)) 3 23 := ⟨by decide +kernel, rfl⟩
theorem dX7_layTable_23 : zD cX7_layTable 23 (.iconst 0) 1 24 := ⟨by decide +kernel, rfl⟩
theorem dX7_layTable_24 : zD cX7_layTable 24 (.istore_n 3) 1 25 := ⟨by decide +kernel, rfl⟩
theorem dX7_layTable_25 : zD cX7_layTable 25 (.iload_n 3) 1 26 := ⟨by decide +kernel, rfl⟩
theorem dX7_layTable_26 : zD cX7_layTable 26 (.aload_n 0) 1 27 := ⟨by decide +kernel, rfl⟩
theorem dX7_layTable_27 : zD cX7_layTable 27 (.getfield 101) 3 30 := ⟨by decide +kernel, rfl⟩
theorem dX7_layTable_30 : zD cX7_layTable 30 (.if_icmp .ge 51) 3 33 := ⟨by decide +kernel, rfl⟩
theorem dX7_layTable_33 : zD cX7_layTable 33 (.aload_n 0) 1 34 := ⟨by decide +kernel, rfl⟩
theorem dX7_layTable_34 : zD cX7_layTable 34 (.getfield 78) 3 37 := ⟨by decide +kernel, rfl⟩
theorem dX7_layTable_37 : zD cX7_layTable 37 (.bipush 8) 2 39 := ⟨by decide +kernel, rfl⟩
theorem dX7_layTable_39 : zD cX7_layTable 39 (.aload_n 0) 1 40 := ⟨by decide +kernel, rfl⟩
theorem dX7_layTable_40 : zD cX7_layTable 40 (.getfield 17) 3 43 := ⟨by decide +kernel, rfl⟩
theorem dX7_layTable_43 : zD cX7_layTable 43 (.iload_n 3) 1 44 := ⟨by decide +kernel, rfl⟩
theorem dX7_layTable_44 : zD cX7_layTable 44 (.iaload) 1 45 := ⟨by decide +kernel, rfl⟩
theorem dX7_layTable_45 : zD cX7_layTable 45 (.imul) 1 46 := ⟨by decide +kernel, rfl⟩
theorem dX7_layTable_46 : zD cX7_layTable 46 (.aload_n 0) 1 47 := ⟨by decide +kernel, rfl⟩
theorem dX7_layTable_47 : zD cX7_layTable 47 (.getfield 20) 3 50 := ⟨by decide +kernel, rfl⟩
theorem dX7_layTable_50 : zD cX7_layTable 50 (.iload_n 3) 1 51 := ⟨by decide +kernel, rfl⟩
theorem dX7_layTable_51 : zD cX7_layTable 51 (.iaload) 1 52 := ⟨by decide +kernel, rfl⟩
theorem dX7_layTable_52 : zD cX7_layTable 52 (.iadd) 1 53 := ⟨by decide +kernel, rfl⟩
theorem dX7_layTable_53 : zD cX7_layTable 53 (.iload_n 3) 1 54 := ⟨by decide +kernel, rfl⟩
theorem dX7_layTable_54 : zD cX7_layTable 54 (.iload_n 2) 1 55 := ⟨by decide +kernel, rfl⟩
theorem dX7_layTable_55 : zD cX7_layTable 55 (.if_icmp .ne 9) 3 58 := ⟨by decide +kernel, rfl⟩
theorem dX7_layTable_58 : zD cX7_layTable 58 (.ldc_w 269) 3 61 := ⟨by decide +kernel, rfl⟩
theorem dX7_layTable_61 : zD cX7_layTable 61 (.goto 13) 3 64 := ⟨by decide +kernel, rfl⟩
theorem dX7_layTable_64 : zD cX7_layTable 64 (.bipush 16) 2 66 := ⟨by decide +kernel, rfl⟩
theorem dX7_layTable_66 : zD cX7_layTable 66 (.aload_n 1) 1 67 := ⟨by decide +kernel, rfl⟩
theorem dX7_layTable_67 : zD cX7_layTable 67 (.iconst 4) 1 68 := ⟨by decide +kernel, rfl⟩
theorem dX7_layTable_68 : zD cX7_layTable 68 (.iload_n 3) 1 69 := ⟨by decide +kernel, rfl⟩
theorem dX7_layTable_69 : zD cX7_layTable 69 (.iadd) 1 70 := ⟨by decide +kernel, rfl⟩
theorem dX7_layTable_70 : zD cX7_layTable 70 (.iaload) 1 71 := ⟨by decide +kernel, rfl⟩
theorem dX7_layTable_71 : zD cX7_layTable 71 (.imul) 1 72 := ⟨by decide +kernel, rfl⟩
theorem dX7_layTable_72 : zD cX7_layTable 72 (.iconst 1) 1 73 := ⟨by decide +kernel, rfl⟩
theorem dX7_layTable_73 : zD cX7_layTable 73 (.iadd) 1 74 := ⟨by decide +kernel, rfl⟩
theorem dX7_layTable_74 : zD cX7_layTable 74 (.iastore) 1 75 := ⟨by decide +kernel, rfl⟩
theorem dX7_layTable_75 : zD cX7_layTable 75 (.iinc 3 1) 3 78 := ⟨by decide +kernel, rfl⟩
theorem dX7_layTable_78 : zD cX7_layTable 78 (.goto (-53)) 3 81 := ⟨by decide +kernel, rfl⟩
theorem dX7_layTable_81 : zD cX7_layTable 81 (.iconst 0) 1 82 := ⟨by decide +kernel, rfl⟩
theorem dX7_layTable_82 : zD cX7_layTable 82 (.istore_n 3) 1 83 := ⟨by decide +kernel, rfl⟩
theorem dX7_layTable_83 : zD cX7_layTable 83 (.iload_n 3) 1 84 := ⟨by decide +kernel, rfl⟩
theorem dX7_layTable_84 : zD cX7_layTable 84 (.bipush 64) 2 86 := ⟨by decide +kernel, rfl⟩
theorem dX7_layTable_86 : zD cX7_layTable 86 (.if_icmp .ge 36) 3 89 := ⟨by decide +kernel, rfl⟩
theorem dX7_layTable_89 : zD cX7_layTable 89 (.aload_n 0) 1 90 := ⟨by decide +kernel, rfl⟩
theorem dX7_layTable_90 : zD cX7_layTable 90 (.getfield 75) 3 93 := ⟨by decide +kernel, rfl⟩
theorem dX7_layTable_93 : zD cX7_layTable 93 (.iload_n 3) 1 94 := ⟨by decide +kernel, rfl⟩
theorem dX7_layTable_94 : zD cX7_layTable 94 (.iload_n 3) 1 95 := ⟨by decide +kernel, rfl⟩
theorem dX7_layTable_95 : zD cX7_layTable 95 (.bipush 8) 2 97 := ⟨by decide +kernel, rfl⟩
theorem dX7_layTable_97 : zD cX7_layTable 97 (.irem) 1 98 := ⟨by decide +kernel, rfl⟩
theorem dX7_layTable_98 : zD cX7_layTable 98 (.iload_n 3) 1 99 := ⟨by decide +kernel, rfl⟩
theorem dX7_layTable_99 : zD cX7_layTable 99 (.bipush 8) 2 101 := ⟨by decide +kernel, rfl⟩
theorem dX7_layTable_101 : zD cX7_layTable 101 (.idiv) 1 102 := ⟨by decide +kernel, rfl⟩
theorem dX7_layTable_102 : zD cX7_layTable 102 (.if_icmp .ne 7) 3 105 := ⟨by decide +kernel, rfl⟩
theorem dX7_layTable_105 : zD cX7_layTable 105 (.iconst 0) 1 106 := ⟨by decide +kernel, rfl⟩
theorem dX7_layTable_106 : zD cX7_layTable 106 (.goto 9) 3 109 := ⟨by decide +kernel, rfl⟩
theorem dX7_layTable_109 : zD cX7_layTable 109 (.aload_n 0) 1 110 := ⟨by decide +kernel, rfl⟩
theorem dX7_layTable_110 : zD cX7_layTable 110 (.getfield 78) 3 113 := ⟨by decide +kernel, rfl⟩
theorem dX7_layTable_113 : zD cX7_layTable 113 (.iload_n 3) 1 114 := ⟨by decide +kernel, rfl⟩
theorem dX7_layTable_114 : zD cX7_layTable 114 (.iaload) 1 115 := ⟨by decide +kernel, rfl⟩
theorem dX7_layTable_115 : zD cX7_layTable 115 (.iastore) 1 116 := ⟨by decide +kernel, rfl⟩
theorem dX7_layTable_116 : zD cX7_layTable 116 (.iinc 3 1) 3 119 := ⟨by decide +kernel, rfl⟩
theorem dX7_layTable_119 : zD cX7_layTable 119 (.goto (-36)) 3 122 := ⟨by decide +kernel, rfl⟩
theorem dX7_layTable_122 : zD cX7_layTable 122 (.iconst 0) 1 123 := ⟨by decide +kernel, rfl⟩
theorem dX7_layTable_123 : zD cX7_layTable 123 (.istore_n 3) 1 124 := ⟨by decide +kernel, rfl⟩
theorem dX7_layTable_124 : zD cX7_layTable 124 (.iload_n 3) 1 125 := ⟨by decide +kernel, rfl⟩
theorem dX7_layTable_125 : zD cX7_layTable 125 (.aload_n 0) 1 126 := ⟨by decide +kernel, rfl⟩
theorem dX7_layTable_126 : zD cX7_layTable 126 (.getfield 13) 3 129 := ⟨by decide +kernel, rfl⟩
theorem dX7_layTable_129 : zD cX7_layTable 129 (.if_icmp .ge 121) 3 132 := ⟨by decide +kernel, rfl⟩
theorem dX7_layTable_132 : zD cX7_layTable 132 (.iconst 0) 1 133 := ⟨by decide +kernel, rfl⟩
theorem dX7_layTable_133 : zD cX7_layTable 133 (.istore 4) 2 135 := ⟨by decide +kernel, rfl⟩
theorem dX7_layTable_135 : zD cX7_layTable 135 (.iload 4) 2 137 := ⟨by decide +kernel, rfl⟩
theorem dX7_layTable_137 : zD cX7_layTable 137 (.aload_n 0) 1 138 := ⟨by decide +kernel, rfl⟩
theorem dX7_layTable_138 : zD cX7_layTable 138 (.getfield 13) 3 141 := ⟨by decide +kernel, rfl⟩
theorem dX7_layTable_141 : zD cX7_layTable 141 (.if_icmp .ge 103) 3 144 := ⟨by decide +kernel, rfl⟩
theorem dX7_layTable_144 : zD cX7_layTable 144 (.iconst 0) 1 145 := ⟨by decide +kernel, rfl⟩
theorem dX7_layTable_145 : zD cX7_layTable 145 (.istore 5) 2 147 := ⟨by decide +kernel, rfl⟩
theorem dX7_layTable_147 : zD cX7_layTable 147 (.iload 5) 2 149 := ⟨by decide +kernel, rfl⟩
theorem dX7_layTable_149 : zD cX7_layTable 149 (.aload_n 0) 1 150 := ⟨by decide +kernel, rfl⟩
theorem dX7_layTable_150 : zD cX7_layTable 150 (.getfield 13) 3 153 := ⟨by decide +kernel, rfl⟩
theorem dX7_layTable_153 : zD cX7_layTable 153 (.if_icmp .ge 85) 3 156 := ⟨by decide +kernel, rfl⟩
theorem dX7_layTable_156 : zD cX7_layTable 156 (.aload_n 0) 1 157 := ⟨by decide +kernel, rfl⟩
theorem dX7_layTable_157 : zD cX7_layTable 157 (.getfield 75) 3 160 := ⟨by decide +kernel, rfl⟩
theorem dX7_layTable_160 : zD cX7_layTable 160 (.bipush 8) 2 162 := ⟨by decide +kernel, rfl⟩
theorem dX7_layTable_162 : zD cX7_layTable 162 (.iload 4) 2 164 := ⟨by decide +kernel, rfl⟩
theorem dX7_layTable_164 : zD cX7_layTable 164 (.imul) 1 165 := ⟨by decide +kernel, rfl⟩
theorem dX7_layTable_165 : zD cX7_layTable 165 (.iload_n 3) 1 166 := ⟨by decide +kernel, rfl⟩
theorem dX7_layTable_166 : zD cX7_layTable 166 (.iadd) 1 167 := ⟨by decide +kernel, rfl⟩
theorem dX7_layTable_167 : zD cX7_layTable 167 (.iaload) 1 168 := ⟨by decide +kernel, rfl⟩
theorem dX7_layTable_168 : zD cX7_layTable 168 (.aload_n 0) 1 169 := ⟨by decide +kernel, rfl⟩
theorem dX7_layTable_169 : zD cX7_layTable 169 (.getfield 75) 3 172 := ⟨by decide +kernel, rfl⟩
theorem dX7_layTable_172 : zD cX7_layTable 172 (.bipush 8) 2 174 := ⟨by decide +kernel, rfl⟩
theorem dX7_layTable_174 : zD cX7_layTable 174 (.iload_n 3) 1 175 := ⟨by decide +kernel, rfl⟩
theorem dX7_layTable_175 : zD cX7_layTable 175 (.imul) 1 176 := ⟨by decide +kernel, rfl⟩
theorem dX7_layTable_176 : zD cX7_layTable 176 (.iload 5) 2 178 := ⟨by decide +kernel, rfl⟩
theorem dX7_layTable_178 : zD cX7_layTable 178 (.iadd) 1 179 := ⟨by decide +kernel, rfl⟩
theorem dX7_layTable_179 : zD cX7_layTable 179 (.iaload) 1 180 := ⟨by decide +kernel, rfl⟩
theorem dX7_layTable_180 : zD cX7_layTable 180 (.iadd) 1 181 := ⟨by decide +kernel, rfl⟩
theorem dX7_layTable_181 : zD cX7_layTable 181 (.istore 6) 2 183 := ⟨by decide +kernel, rfl⟩
theorem dX7_layTable_183 : zD cX7_layTable 183 (.aload_n 0) 1 184 := ⟨by decide +kernel, rfl⟩
theorem dX7_layTable_184 : zD cX7_layTable 184 (.getfield 75) 3 187 := ⟨by decide +kernel, rfl⟩
theorem dX7_layTable_187 : zD cX7_layTable 187 (.bipush 8) 2 189 := ⟨by decide +kernel, rfl⟩
theorem dX7_layTable_189 : zD cX7_layTable 189 (.iload 4) 2 191 := ⟨by decide +kernel, rfl⟩
theorem dX7_layTable_191 : zD cX7_layTable 191 (.imul) 1 192 := ⟨by decide +kernel, rfl⟩
theorem dX7_layTable_192 : zD cX7_layTable 192 (.iload 5) 2 194 := ⟨by decide +kernel, rfl⟩
theorem dX7_layTable_194 : zD cX7_layTable 194 (.iadd) 1 195 := ⟨by decide +kernel, rfl⟩
theorem dX7_layTable_195 : zD cX7_layTable 195 (.iload 6) 2 197 := ⟨by decide +kernel, rfl⟩
theorem dX7_layTable_197 : zD cX7_layTable 197 (.aload_n 0) 1 198 := ⟨by decide +kernel, rfl⟩
theorem dX7_layTable_198 : zD cX7_layTable 198 (.getfield 75) 3 201 := ⟨by decide +kernel, rfl⟩
theorem dX7_layTable_201 : zD cX7_layTable 201 (.bipush 8) 2 203 := ⟨by decide +kernel, rfl⟩
theorem dX7_layTable_203 : zD cX7_layTable 203 (.iload 4) 2 205 := ⟨by decide +kernel, rfl⟩
theorem dX7_layTable_205 : zD cX7_layTable 205 (.imul) 1 206 := ⟨by decide +kernel, rfl⟩
theorem dX7_layTable_206 : zD cX7_layTable 206 (.iload 5) 2 208 := ⟨by decide +kernel, rfl⟩
theorem dX7_layTable_208 : zD cX7_layTable 208 (.iadd) 1 209 := ⟨by decide +kernel, rfl⟩
theorem dX7_layTable_209 : zD cX7_layTable 209 (.iaload) 1 210 := ⟨by decide +kernel, rfl⟩
theorem dX7_layTable_210 : zD cX7_layTable 210 (.if_icmp .ge 8) 3 213 := ⟨by decide +kernel, rfl⟩
theorem dX7_layTable_213 : zD cX7_layTable 213 (.iload 6) 2 215 := ⟨by decide +kernel, rfl⟩
theorem dX7_layTable_215 : zD cX7_layTable 215 (.goto 16) 3 218 := ⟨by decide +kernel, rfl⟩
theorem dX7_layTable_218 : zD cX7_layTable 218 (.aload_n 0) 1 219 := ⟨by decide +kernel, rfl⟩
theorem dX7_layTable_219 : zD cX7_layTable 219 (.getfield 75) 3 222 := ⟨by decide +kernel, rfl⟩
theorem dX7_layTable_222 : zD cX7_layTable 222 (.bipush 8) 2 224 := ⟨by decide +kernel, rfl⟩
theorem dX7_layTable_224 : zD cX7_layTable 224 (.iload 4) 2 226 := ⟨by decide +kernel, rfl⟩
theorem dX7_layTable_226 : zD cX7_layTable 226 (.imul) 1 227 := ⟨by decide +kernel, rfl⟩
theorem dX7_layTable_227 : zD cX7_layTable 227 (.iload 5) 2 229 := ⟨by decide +kernel, rfl⟩
theorem dX7_layTable_229 : zD cX7_layTable 229 (.iadd) 1 230 := ⟨by decide +kernel, rfl⟩
theorem dX7_layTable_230 : zD cX7_layTable 230 (.iaload) 1 231 := ⟨by decide +kernel, rfl⟩
theorem dX7_layTable_231 : zD cX7_layTable 231 (.iastore) 1 232 := ⟨by decide +kernel, rfl⟩
theorem dX7_layTable_232 : zD cX7_layTable 232 (.iinc 5 1) 3 235 := ⟨by decide +kernel, rfl⟩
theorem dX7_layTable_235 : zD cX7_layTable 235 (.goto (-88)) 3 238 := ⟨by decide +kernel, rfl⟩
theorem dX7_layTable_238 : zD cX7_layTable 238 (.iinc 4 1) 3 241 := ⟨by decide +kernel, rfl⟩
theorem dX7_layTable_241 : zD cX7_layTable 241 (.goto (-106)) 3 244 := ⟨by decide +kernel, rfl⟩
theorem dX7_layTable_244 : zD cX7_layTable 244 (.iinc 3 1) 3 247 := ⟨by decide +kernel, rfl⟩
theorem dX7_layTable_247 : zD cX7_layTable 247 (.goto (-123)) 3 250 := ⟨by decide +kernel, rfl⟩
theorem dX7_layTable_250 : zD cX7_layTable 250 (.return_) 1 251 := ⟨by decide +kernel, rfl⟩
theorem dX7_costOf_0 : zD cX7_costOf 0 (.aload_n 0) 1 1 := ⟨by decide +kernel, rfl⟩
theorem dX7_costOf_1 : zD cX7_costOf 1 (.getfield 75) 3 4 := ⟨by decide +kernel, rfl⟩
theorem dX7_costOf_4 : zD cX7_costOf 4 (.bipush 8) 2 6 := ⟨by decide +kernel, rfl⟩
theorem dX7_costOf_6 : zD cX7_costOf 6 (.iload_n 1) 1 7 := ⟨by decide +kernel, rfl⟩
theorem dX7_costOf_7 : zD cX7_costOf 7 (.imul) 1 8 := ⟨by decide +kernel, rfl⟩
theorem dX7_costOf_8 : zD cX7_costOf 8 (.iload_n 2) 1 9 := ⟨by decide +kernel, rfl⟩
theorem dX7_costOf_9 : zD cX7_costOf 9 (.iadd) 1 10 := ⟨by decide +kernel, rfl⟩
theorem dX7_costOf_10 : zD cX7_costOf 10 (.iaload) 1 11 := ⟨by decide +kernel, rfl⟩
theorem dX7_costOf_11 : zD cX7_costOf 11 (.ireturn) 1 12 := ⟨by decide +kernel, rfl⟩
theorem dX7_nextOn_0 : zD cX7_nextOn 0 (.iconst 0) 1 1 := ⟨by decide +kernel, rfl⟩
theorem dX7_nextOn_1 : zD cX7_nextOn 1 (.istore_n 3) 1 2 := ⟨by decide +kernel, rfl⟩
theorem dX7_nextOn_2 : zD cX7_nextOn 2 (.iload_n 3) 1 3 := ⟨by decide +kernel, rfl⟩
theorem dX7_nextOn_3 : zD cX7_nextOn 3 (.aload_n 0) 1 4 := ⟨by decide +kernel, rfl⟩
theorem dX7_nextOn_4 : zD cX7_nextOn 4 (.getfield 13) 3 7 := ⟨by decide +kernel, rfl⟩
theorem dX7_nextOn_7 : zD cX7_nextOn 7 (.if_icmp .ge 60) 3 10 := ⟨by decide +kernel, rfl⟩
theorem dX7_nextOn_10 : zD cX7_nextOn 10 (.iload_n 3) 1 11 := ⟨by decide +kernel, rfl⟩
theorem dX7_nextOn_11 : zD cX7_nextOn 11 (.iload_n 1) 1 12 := ⟨by decide +kernel, rfl⟩
theorem dX7_nextOn_12 : zD cX7_nextOn 12 (.if_icmp .eq 49) 3 15 := ⟨by decide +kernel, rfl⟩
theorem dX7_nextOn_15 : zD cX7_nextOn 15 (.aload_n 0) 1 16 := ⟨by decide +kernel, rfl⟩
theorem dX7_nextOn_16 : zD cX7_nextOn 16 (.getfield 78) 3 19 := ⟨by decide +kernel, rfl⟩
theorem dX7_nextOn_19 : zD cX7_nextOn 19 (.bipush 8) 2 21 := ⟨by decide +kernel, rfl⟩
theorem dX7_nextOn_21 : zD cX7_nextOn 21 (.iload_n 1) 1 22 := ⟨by decide +kernel, rfl⟩
theorem dX7_nextOn_22 : zD cX7_nextOn 22 (.imul) 1 23 := ⟨by decide +kernel, rfl⟩
theorem dX7_nextOn_23 : zD cX7_nextOn 23 (.iload_n 3) 1 24 := ⟨by decide +kernel, rfl⟩
theorem dX7_nextOn_24 : zD cX7_nextOn 24 (.iadd) 1 25 := ⟨by decide +kernel, rfl⟩
theorem dX7_nextOn_25 : zD cX7_nextOn 25 (.iaload) 1 26 := ⟨by decide +kernel, rfl⟩
theorem dX7_nextOn_26 : zD cX7_nextOn 26 (.ldc_w 269) 3 29 := ⟨by decide +kernel, rfl⟩
theorem dX7_nextOn_29 : zD cX7_nextOn 29 (.if_icmp .ge 32) 3 32 := ⟨by decide +kernel, rfl⟩
theorem dX7_nextOn_32 : zD cX7_nextOn 32 (.aload_n 0) 1 33 := ⟨by decide +kernel, rfl⟩
theorem dX7_nextOn_33 : zD cX7_nextOn 33 (.getfield 78) 3 36 := ⟨by decide +kernel, rfl⟩
theorem dX7_nextOn_36 : zD cX7_nextOn 36 (.bipush 8) 2 38 := ⟨by decide +kernel, rfl⟩
theorem dX7_nextOn_38 : zD cX7_nextOn 38 (.iload_n 1) 1 39 := ⟨by decide +kernel, rfl⟩
theorem dX7_nextOn_39 : zD cX7_nextOn 39 (.imul) 1 40 := ⟨by decide +kernel, rfl⟩
theorem dX7_nextOn_40 : zD cX7_nextOn 40 (.iload_n 3) 1 41 := ⟨by decide +kernel, rfl⟩
theorem dX7_nextOn_41 : zD cX7_nextOn 41 (.iadd) 1 42 := ⟨by decide +kernel, rfl⟩
theorem dX7_nextOn_42 : zD cX7_nextOn 42 (.iaload) 1 43 := ⟨by decide +kernel, rfl⟩
theorem dX7_nextOn_43 : zD cX7_nextOn 43 (.aload_n 0) 1 44 := ⟨by decide +kernel, rfl⟩
theorem dX7_nextOn_44 : zD cX7_nextOn 44 (.iload_n 3) 1 45 := ⟨by decide +kernel, rfl⟩
theorem dX7_nextOn_45 : zD cX7_nextOn 45 (.iload_n 2) 1 46 := ⟨by decide +kernel, rfl⟩
theorem dX7_nextOn_46 : zD cX7_nextOn 46 (.invokevirtual 270) 3 49 := ⟨by decide +kernel, rfl⟩
theorem dX7_nextOn_49 : zD cX7_nextOn 49 (.iadd) 1 50 := ⟨by decide +kernel, rfl⟩
theorem dX7_nextOn_50 : zD cX7_nextOn 50 (.aload_n 0) 1 51 := ⟨by decide +kernel, rfl⟩
theorem dX7_nextOn_51 : zD cX7_nextOn 51 (.iload_n 1) 1 52 := ⟨by decide +kernel, rfl⟩
theorem dX7_nextOn_52 : zD cX7_nextOn 52 (.iload_n 2) 1 53 := ⟨by decide +kernel, rfl⟩
theorem dX7_nextOn_53 : zD cX7_nextOn 53 (.invokevirtual 270) 3 56 := ⟨by decide +kernel, rfl⟩
theorem dX7_nextOn_56 : zD cX7_nextOn 56 (.if_icmp .ne 5) 3 59 := ⟨by decide +kernel, rfl⟩
theorem dX7_nextOn_59 : zD cX7_nextOn 59 (.iload_n 3) 1 60 := ⟨by decide +kernel, rfl⟩
theorem dX7_nextOn_60 : zD cX7_nextOn 60 (.ireturn) 1 61 := ⟨by decide +kernel, rfl⟩
theorem dX7_nextOn_61 : zD cX7_nextOn 61 (.iinc 3 1) 3 64 := ⟨by decide +kernel, rfl⟩
theorem dX7_nextOn_64 : zD cX7_nextOn 64 (.goto (-62)) 3 67 := ⟨by decide +kernel, rfl⟩
theorem dX7_nextOn_67 : zD cX7_nextOn 67 (.bipush (-9)) 2 69 := ⟨by decide +kernel, rfl⟩
theorem dX7_nextOn_69 : zD cX7_nextOn 69 (.ireturn) 1 70 := ⟨by decide +kernel, rfl⟩
theorem dX7_conversionOf_0 : zD cX7_conversionOf 0 (.bipush (-9)) 2 2 := ⟨by decide +kernel, rfl⟩
theorem dX7_conversionOf_2 : zD cX7_conversionOf 2 (.istore_n 3) 1 3 := ⟨by decide +kernel, rfl⟩
theorem dX7_conversionOf_3 : zD cX7_conversionOf 3 (.iconst 0) 1 4 := ⟨by decide +kernel, rfl⟩
theorem dX7_conversionOf_4 : zD cX7_conversionOf 4 (.istore 4) 2 6 := ⟨by decide +kernel, rfl⟩
theorem dX7_conversionOf_6 : zD cX7_conversionOf 6 (.iload 4) 2 8 := ⟨by decide +kernel, rfl⟩
theorem dX7_conversionOf_8 : zD cX7_conversionOf 8 (.aload_n 0) 1 9 := ⟨by decide +kernel, rfl⟩
theorem dX7_conversionOf_9 : zD cX7_conversionOf 9 (.getfield 101) 3 12 := ⟨by decide +kernel, rfl⟩
theorem dX7_conversionOf_12 : zD cX7_conversionOf 12 (.if_icmp .ge 38) 3 15 := ⟨by decide +kernel, rfl⟩
theorem dX7_conversionOf_15 : zD cX7_conversionOf 15 (.aload_n 0) 1 16 := ⟨by decide +kernel, rfl⟩
theorem dX7_conversionOf_16 : zD cX7_conversionOf 16 (.getfield 17) 3 19 := ⟨by decide +kernel, rfl⟩
theorem dX7_conversionOf_19 : zD cX7_conversionOf 19 (.iload 4) 2 21 := ⟨by decide +kernel, rfl⟩
theorem dX7_conversionOf_21 : zD cX7_conversionOf 21 (.iaload) 1 22 := ⟨by decide +kernel, rfl⟩
theorem dX7_conversionOf_22 : zD cX7_conversionOf 22 (.iload_n 1) 1 23 := ⟨by decide +kernel, rfl⟩
theorem dX7_conversionOf_23 : zD cX7_conversionOf 23 (.if_icmp .ne 19) 3 26 := ⟨by decide +kernel, rfl⟩
theorem dX7_conversionOf_26 : zD cX7_conversionOf 26 (.aload_n 0) 1 27 := ⟨by decide +kernel, rfl⟩
theorem dX7_conversionOf_27 : zD cX7_conversionOf 27 (.getfield 20) 3 30 := ⟨by decide +kernel, rfl⟩
theorem dX7_conversionOf_30 : zD cX7_conversionOf 30 (.iload 4) 2 32 := ⟨by decide +kernel, rfl⟩
theorem dX7_conversionOf_32 : zD cX7_conversionOf 32 (.iaload) 1 33 := ⟨by decide +kernel, rfl⟩
theorem dX7_conversionOf_33 : zD cX7_conversionOf 33 (.iload_n 2) 1 34 := ⟨by decide +kernel, rfl⟩
theorem dX7_conversionOf_34 : zD cX7_conversionOf 34 (.if_icmp .ne 8) 3 37 := ⟨by decide +kernel, rfl⟩
theorem dX7_conversionOf_37 : zD cX7_conversionOf 37 (.iload 4) 2 39 := ⟨by decide +kernel, rfl⟩
theorem dX7_conversionOf_39 : zD cX7_conversionOf 39 (.goto 4) 3 42 := ⟨by decide +kernel, rfl⟩
theorem dX7_conversionOf_42 : zD cX7_conversionOf 42 (.iload_n 3) 1 43 := ⟨by decide +kernel, rfl⟩
theorem dX7_conversionOf_43 : zD cX7_conversionOf 43 (.istore_n 3) 1 44 := ⟨by decide +kernel, rfl⟩
theorem dX7_conversionOf_44 : zD cX7_conversionOf 44 (.iinc 4 1) 3 47 := ⟨by decide +kernel, rfl⟩
theorem dX7_conversionOf_47 : zD cX7_conversionOf 47 (.goto (-41)) 3 50 := ⟨by decide +kernel, rfl⟩
theorem dX7_conversionOf_50 : zD cX7_conversionOf 50 (.iload_n 3) 1 51 := ⟨by decide +kernel, rfl⟩
theorem dX7_conversionOf_51 : zD cX7_conversionOf 51 (.ireturn) 1 52 := ⟨by decide +kernel, rfl⟩
theorem dX7_sizeOn_0 : zD cX7_sizeOn 0 (.iload_n 3) 1 1 := ⟨by decide +kernel, rfl⟩
theorem dX7_sizeOn_1 : zD cX7_sizeOn 1 (.istore 4) 2 3 := ⟨by decide +kernel, rfl⟩
theorem dX7_sizeOn_3 : zD cX7_sizeOn 3 (.iload_n 1) 1 4 := ⟨by decide +kernel, rfl⟩
theorem dX7_sizeOn_4 : zD cX7_sizeOn 4 (.istore 5) 2 6 := ⟨by decide +kernel, rfl⟩
theorem dX7_sizeOn_6 : zD cX7_sizeOn 6 (.iload 5) 2 8 := ⟨by decide +kernel, rfl⟩
theorem dX7_sizeOn_8 : zD cX7_sizeOn 8 (.iload_n 2) 1 9 := ⟨by decide +kernel, rfl⟩
theorem dX7_sizeOn_9 : zD cX7_sizeOn 9 (.if_icmp .eq 61) 3 12 := ⟨by decide +kernel, rfl⟩
theorem dX7_sizeOn_12 : zD cX7_sizeOn 12 (.aload_n 0) 1 13 := ⟨by decide +kernel, rfl⟩
theorem dX7_sizeOn_13 : zD cX7_sizeOn 13 (.iload 5) 2 15 := ⟨by decide +kernel, rfl⟩
theorem dX7_sizeOn_15 : zD cX7_sizeOn 15 (.iload_n 2) 1 16 := ⟨by decide +kernel, rfl⟩
theorem dX7_sizeOn_16 : zD cX7_sizeOn 16 (.invokevirtual 274) 3 19 := ⟨by decide +kernel, rfl⟩
theorem dX7_sizeOn_19 : zD cX7_sizeOn 19 (.istore 6) 2 21 := ⟨by decide +kernel, rfl⟩
theorem dX7_sizeOn_21 : zD cX7_sizeOn 21 (.iload 4) 2 23 := ⟨by decide +kernel, rfl⟩
theorem dX7_sizeOn_23 : zD cX7_sizeOn 23 (.aload_n 0) 1 24 := ⟨by decide +kernel, rfl⟩
theorem dX7_sizeOn_24 : zD cX7_sizeOn 24 (.getfield 23) 3 27 := ⟨by decide +kernel, rfl⟩
theorem dX7_sizeOn_27 : zD cX7_sizeOn 27 (.aload_n 0) 1 28 := ⟨by decide +kernel, rfl⟩
theorem dX7_sizeOn_28 : zD cX7_sizeOn 28 (.iload 5) 2 30 := ⟨by decide +kernel, rfl⟩
theorem dX7_sizeOn_30 : zD cX7_sizeOn 30 (.iload 6) 2 32 := ⟨by decide +kernel, rfl⟩
theorem dX7_sizeOn_32 : zD cX7_sizeOn 32 (.invokevirtual 277) 3 35 := ⟨by decide +kernel, rfl⟩
theorem dX7_sizeOn_35 : zD cX7_sizeOn 35 (.iaload) 1 36 := ⟨by decide +kernel, rfl⟩
theorem dX7_sizeOn_36 : zD cX7_sizeOn 36 (.imul) 1 37 := ⟨by decide +kernel, rfl⟩
theorem dX7_sizeOn_37 : zD cX7_sizeOn 37 (.bipush 9) 2 39 := ⟨by decide +kernel, rfl⟩
theorem dX7_sizeOn_39 : zD cX7_sizeOn 39 (.iadd) 1 40 := ⟨by decide +kernel, rfl⟩
theorem dX7_sizeOn_40 : zD cX7_sizeOn 40 (.bipush 10) 2 42 := ⟨by decide +kernel, rfl⟩
theorem dX7_sizeOn_42 : zD cX7_sizeOn 42 (.idiv) 1 43 := ⟨by decide +kernel, rfl⟩
theorem dX7_sizeOn_43 : zD cX7_sizeOn 43 (.istore 4) 2 45 := ⟨by decide +kernel, rfl⟩
theorem dX7_sizeOn_45 : zD cX7_sizeOn 45 (.iload 4) 2 47 := ⟨by decide +kernel, rfl⟩
theorem dX7_sizeOn_47 : zD cX7_sizeOn 47 (.ldc_w 280) 3 50 := ⟨by decide +kernel, rfl⟩
theorem dX7_sizeOn_50 : zD cX7_sizeOn 50 (.if_icmp .le 9) 3 53 := ⟨by decide +kernel, rfl⟩
theorem dX7_sizeOn_53 : zD cX7_sizeOn 53 (.ldc_w 280) 3 56 := ⟨by decide +kernel, rfl⟩
theorem dX7_sizeOn_56 : zD cX7_sizeOn 56 (.goto 5) 3 59 := ⟨by decide +kernel, rfl⟩
theorem dX7_sizeOn_59 : zD cX7_sizeOn 59 (.iload 4) 2 61 := ⟨by decide +kernel, rfl⟩
theorem dX7_sizeOn_61 : zD cX7_sizeOn 61 (.istore 4) 2 63 := ⟨by decide +kernel, rfl⟩
theorem dX7_sizeOn_63 : zD cX7_sizeOn 63 (.iload 6) 2 65 := ⟨by decide +kernel, rfl⟩
theorem dX7_sizeOn_65 : zD cX7_sizeOn 65 (.istore 5) 2 67 := ⟨by decide +kernel, rfl⟩
theorem dX7_sizeOn_67 : zD cX7_sizeOn 67 (.goto (-61)) 3 70 := ⟨by decide +kernel, rfl⟩
theorem dX7_sizeOn_70 : zD cX7_sizeOn 70 (.iload 4) 2 72 := ⟨by decide +kernel, rfl⟩
theorem dX7_sizeOn_72 : zD cX7_sizeOn 72 (.ireturn) 1 73 := ⟨by decide +kernel, rfl⟩
theorem dX7_lossOn_0 : zD cX7_lossOn 0 (.iconst 0) 1 1 := ⟨by decide +kernel, rfl⟩
theorem dX7_lossOn_1 : zD cX7_lossOn 1 (.istore_n 3) 1 2 := ⟨by decide +kernel, rfl⟩
theorem dX7_lossOn_2 : zD cX7_lossOn 2 (.iload_n 1) 1 3 := ⟨by decide +kernel, rfl⟩
theorem dX7_lossOn_3 : zD cX7_lossOn 3 (.istore 4) 2 5 := ⟨by decide +kernel, rfl⟩
theorem dX7_lossOn_5 : zD cX7_lossOn 5 (.iload 4) 2 7 := ⟨by decide +kernel, rfl⟩
theorem dX7_lossOn_7 : zD cX7_lossOn 7 (.iload_n 2) 1 8 := ⟨by decide +kernel, rfl⟩
theorem dX7_lossOn_8 : zD cX7_lossOn 8 (.if_icmp .eq 35) 3 11 := ⟨by decide +kernel, rfl⟩
theorem dX7_lossOn_11 : zD cX7_lossOn 11 (.aload_n 0) 1 12 := ⟨by decide +kernel, rfl⟩
theorem dX7_lossOn_12 : zD cX7_lossOn 12 (.iload 4) 2 14 := ⟨by decide +kernel, rfl⟩
theorem dX7_lossOn_14 : zD cX7_lossOn 14 (.iload_n 2) 1 15 := ⟨by decide +kernel, rfl⟩
theorem dX7_lossOn_15 : zD cX7_lossOn 15 (.invokevirtual 274) 3 18 := ⟨by decide +kernel, rfl⟩
theorem dX7_lossOn_18 : zD cX7_lossOn 18 (.istore 5) 2 20 := ⟨by decide +kernel, rfl⟩
theorem dX7_lossOn_20 : zD cX7_lossOn 20 (.iload_n 3) 1 21 := ⟨by decide +kernel, rfl⟩
theorem dX7_lossOn_21 : zD cX7_lossOn 21 (.aload_n 0) 1 22 := ⟨by decide +kernel, rfl⟩
theorem dX7_lossOn_22 : zD cX7_lossOn 22 (.getfield 26) 3 25 := ⟨by decide +kernel, rfl⟩
theorem dX7_lossOn_25 : zD cX7_lossOn 25 (.aload_n 0) 1 26 := ⟨by decide +kernel, rfl⟩
theorem dX7_lossOn_26 : zD cX7_lossOn 26 (.iload 4) 2 28 := ⟨by decide +kernel, rfl⟩
theorem dX7_lossOn_28 : zD cX7_lossOn 28 (.iload 5) 2 30 := ⟨by decide +kernel, rfl⟩
theorem dX7_lossOn_30 : zD cX7_lossOn 30 (.invokevirtual 277) 3 33 := ⟨by decide +kernel, rfl⟩
theorem dX7_lossOn_33 : zD cX7_lossOn 33 (.iaload) 1 34 := ⟨by decide +kernel, rfl⟩
theorem dX7_lossOn_34 : zD cX7_lossOn 34 (.iadd) 1 35 := ⟨by decide +kernel, rfl⟩
theorem dX7_lossOn_35 : zD cX7_lossOn 35 (.istore_n 3) 1 36 := ⟨by decide +kernel, rfl⟩
theorem dX7_lossOn_36 : zD cX7_lossOn 36 (.iload 5) 2 38 := ⟨by decide +kernel, rfl⟩
theorem dX7_lossOn_38 : zD cX7_lossOn 38 (.istore 4) 2 40 := ⟨by decide +kernel, rfl⟩
theorem dX7_lossOn_40 : zD cX7_lossOn 40 (.goto (-35)) 3 43 := ⟨by decide +kernel, rfl⟩
theorem dX7_lossOn_43 : zD cX7_lossOn 43 (.iload_n 3) 1 44 := ⟨by decide +kernel, rfl⟩
theorem dX7_lossOn_44 : zD cX7_lossOn 44 (.ireturn) 1 45 := ⟨by decide +kernel, rfl⟩
theorem dX7_findWay_0 : zD cX7_findWay 0 (.aload_n 0) 1 1 := ⟨by decide +kernel, rfl⟩
theorem dX7_findWay_1 : zD cX7_findWay 1 (.aload_n 1) 1 2 := ⟨by decide +kernel, rfl⟩
theorem dX7_findWay_2 : zD cX7_findWay 2 (.bipush (-9)) 2 4 := ⟨by decide +kernel, rfl⟩
theorem dX7_findWay_4 : zD cX7_findWay 4 (.invokevirtual 283) 3 7 := ⟨by decide +kernel, rfl⟩
theorem dX7_findWay_7 : zD cX7_findWay 7 (.ldc_w 269) 3 10 := ⟨by decide +kernel, rfl⟩
theorem dX7_findWay_10 : zD cX7_findWay 10 (.istore 4) 2 12 := ⟨by decide +kernel, rfl⟩
theorem dX7_findWay_12 : zD cX7_findWay 12 (.iconst 0) 1 13 := ⟨by decide +kernel, rfl⟩
theorem dX7_findWay_13 : zD cX7_findWay 13 (.istore 5) 2 15 := ⟨by decide +kernel, rfl⟩
theorem dX7_findWay_15 : zD cX7_findWay 15 (.iload 5) 2 17 := ⟨by decide +kernel, rfl⟩
theorem dX7_findWay_17 : zD cX7_findWay 17 (.aload_n 0) 1 18 := ⟨by decide +kernel, rfl⟩
theorem dX7_findWay_18 : zD cX7_findWay 18 (.getfield 13) 3 21 := ⟨by decide +kernel, rfl⟩
theorem dX7_findWay_21 : zD cX7_findWay 21 (.if_icmp .ge 142) 3 24 := ⟨by decide +kernel, rfl⟩
theorem dX7_findWay_24 : zD cX7_findWay 24 (.iconst 0) 1 25 := ⟨by decide +kernel, rfl⟩
theorem dX7_findWay_25 : zD cX7_findWay 25 (.istore 6) 2 27 := ⟨by decide +kernel, rfl⟩
theorem dX7_findWay_27 : zD cX7_findWay 27 (.iload 6) 2 29 := ⟨by decide +kernel, rfl⟩
theorem dX7_findWay_29 : zD cX7_findWay 29 (.aload_n 0) 1 30 := ⟨by decide +kernel, rfl⟩
theorem dX7_findWay_30 : zD cX7_findWay 30 (.getfield 13) 3 33 := ⟨by decide +kernel, rfl⟩
theorem dX7_findWay_33 : zD cX7_findWay 33 (.if_icmp .ge 124) 3 36 := ⟨by decide +kernel, rfl⟩
theorem dX7_findWay_36 : zD cX7_findWay 36 (.aload_n 0) 1 37 := ⟨by decide +kernel, rfl⟩
theorem dX7_findWay_37 : zD cX7_findWay 37 (.getfield 29) 3 40 := ⟨by decide +kernel, rfl⟩
theorem dX7_findWay_40 : zD cX7_findWay 40 (.iload_n 3) 1 41 := ⟨by decide +kernel, rfl⟩
theorem dX7_findWay_41 : zD cX7_findWay 41 (.iaload) 1 42 := ⟨by decide +kernel, rfl⟩
theorem dX7_findWay_42 : zD cX7_findWay 42 (.iload 5) 2 44 := ⟨by decide +kernel, rfl⟩
theorem dX7_findWay_44 : zD cX7_findWay 44 (.ishr) 1 45 := ⟨by decide +kernel, rfl⟩
theorem dX7_findWay_45 : zD cX7_findWay 45 (.iconst 1) 1 46 := ⟨by decide +kernel, rfl⟩
theorem dX7_findWay_46 : zD cX7_findWay 46 (.iand) 1 47 := ⟨by decide +kernel, rfl⟩
theorem dX7_findWay_47 : zD cX7_findWay 47 (.iconst 1) 1 48 := ⟨by decide +kernel, rfl⟩
theorem dX7_findWay_48 : zD cX7_findWay 48 (.if_icmp .ne 40) 3 51 := ⟨by decide +kernel, rfl⟩
theorem dX7_findWay_51 : zD cX7_findWay 51 (.aload_n 1) 1 52 := ⟨by decide +kernel, rfl⟩
theorem dX7_findWay_52 : zD cX7_findWay 52 (.iload_n 2) 1 53 := ⟨by decide +kernel, rfl⟩
theorem dX7_findWay_53 : zD cX7_findWay 53 (.invokestatic 163) 3 56 := ⟨by decide +kernel, rfl⟩
theorem dX7_findWay_56 : zD cX7_findWay 56 (.bipush 16) 2 58 := ⟨by decide +kernel, rfl⟩
theorem dX7_findWay_58 : zD cX7_findWay 58 (.iadd) 1 59 := ⟨by decide +kernel, rfl⟩
theorem dX7_findWay_59 : zD cX7_findWay 59 (.iload 6) 2 61 := ⟨by decide +kernel, rfl⟩
theorem dX7_findWay_61 : zD cX7_findWay 61 (.iadd) 1 62 := ⟨by decide +kernel, rfl⟩
theorem dX7_findWay_62 : zD cX7_findWay 62 (.iaload) 1 63 := ⟨by decide +kernel, rfl⟩
theorem dX7_findWay_63 : zD cX7_findWay 63 (.ifCond .le 25) 3 66 := ⟨by decide +kernel, rfl⟩
theorem dX7_findWay_66 : zD cX7_findWay 66 (.aload_n 0) 1 67 := ⟨by decide +kernel, rfl⟩
theorem dX7_findWay_67 : zD cX7_findWay 67 (.getfield 75) 3 70 := ⟨by decide +kernel, rfl⟩
theorem dX7_findWay_70 : zD cX7_findWay 70 (.bipush 8) 2 72 := ⟨by decide +kernel, rfl⟩
theorem dX7_findWay_72 : zD cX7_findWay 72 (.iload 6) 2 74 := ⟨by decide +kernel, rfl⟩
theorem dX7_findWay_74 : zD cX7_findWay 74 (.imul) 1 75 := ⟨by decide +kernel, rfl⟩
theorem dX7_findWay_75 : zD cX7_findWay 75 (.iload 5) 2 77 := ⟨by decide +kernel, rfl⟩
theorem dX7_findWay_77 : zD cX7_findWay 77 (.iadd) 1 78 := ⟨by decide +kernel, rfl⟩
theorem dX7_findWay_78 : zD cX7_findWay 78 (.iaload) 1 79 := ⟨by decide +kernel, rfl⟩
theorem dX7_findWay_79 : zD cX7_findWay 79 (.iload 4) 2 81 := ⟨by decide +kernel, rfl⟩
theorem dX7_findWay_81 : zD cX7_findWay 81 (.if_icmp .ge 7) 3 84 := ⟨by decide +kernel, rfl⟩
theorem dX7_findWay_84 : zD cX7_findWay 84 (.iconst 1) 1 85 := ⟨by decide +kernel, rfl⟩
theorem dX7_findWay_85 : zD cX7_findWay 85 (.goto 4) 3 88 := ⟨by decide +kernel, rfl⟩
theorem dX7_findWay_88 : zD cX7_findWay 88 (.iconst 0) 1 89 := ⟨by decide +kernel, rfl⟩
theorem dX7_findWay_89 : zD cX7_findWay 89 (.istore 7) 2 91 := ⟨by decide +kernel, rfl⟩
theorem dX7_findWay_91 : zD cX7_findWay 91 (.iload 7) 2 93 := ⟨by decide +kernel, rfl⟩
theorem dX7_findWay_93 : zD cX7_findWay 93 (.ifCond .eq 58) 3 96 := ⟨by decide +kernel, rfl⟩
theorem dX7_findWay_96 : zD cX7_findWay 96 (.aload_n 0) 1 97 := ⟨by decide +kernel, rfl⟩
theorem dX7_findWay_97 : zD cX7_findWay 97 (.iload 6) 2 99 := ⟨by decide +kernel, rfl⟩
theorem dX7_findWay_99 : zD cX7_findWay 99 (.iload 5) 2 101 := ⟨by decide +kernel, rfl⟩
theorem dX7_findWay_101 : zD cX7_findWay 101 (.aload_n 1) 1 102 := ⟨by decide +kernel, rfl⟩
theorem dX7_findWay_102 : zD cX7_findWay 102 (.iload_n 2) 1 103 := ⟨by decide +kernel, rfl⟩
theorem dX7_findWay_103 : zD cX7_findWay 103 (.invokestatic 163) 3 106 := ⟨by decide +kernel, rfl⟩
theorem dX7_findWay_106 : zD cX7_findWay 106 (.iconst 0) 1 107 := ⟨by decide +kernel, rfl⟩
theorem dX7_findWay_107 : zD cX7_findWay 107 (.iadd) 1 108 := ⟨by decide +kernel, rfl⟩
theorem dX7_findWay_108 : zD cX7_findWay 108 (.iload 6) 2 110 := ⟨by decide +kernel, rfl⟩
theorem dX7_findWay_110 : zD cX7_findWay 110 (.iadd) 1 111 := ⟨by decide +kernel, rfl⟩
theorem dX7_findWay_111 : zD cX7_findWay 111 (.iaload) 1 112 := ⟨by decide +kernel, rfl⟩
theorem dX7_findWay_112 : zD cX7_findWay 112 (.invokevirtual 289) 3 115 := ⟨by decide +kernel, rfl⟩
theorem dX7_findWay_115 : zD cX7_findWay 115 (.aload_n 0) 1 116 := ⟨by decide +kernel, rfl⟩
theorem dX7_findWay_116 : zD cX7_findWay 116 (.getfield 32) 3 119 := ⟨by decide +kernel, rfl⟩
theorem dX7_findWay_119 : zD cX7_findWay 119 (.iload_n 3) 1 120 := ⟨by decide +kernel, rfl⟩
theorem dX7_findWay_120 : zD cX7_findWay 120 (.iaload) 1 121 := ⟨by decide +kernel, rfl⟩
theorem dX7_findWay_121 : zD cX7_findWay 121 (.if_icmp .gt 30) 3 124 := ⟨by decide +kernel, rfl⟩
theorem dX7_findWay_124 : zD cX7_findWay 124 (.aload_n 0) 1 125 := ⟨by decide +kernel, rfl⟩
theorem dX7_findWay_125 : zD cX7_findWay 125 (.getfield 75) 3 128 := ⟨by decide +kernel, rfl⟩
theorem dX7_findWay_128 : zD cX7_findWay 128 (.bipush 8) 2 130 := ⟨by decide +kernel, rfl⟩
theorem dX7_findWay_130 : zD cX7_findWay 130 (.iload 6) 2 132 := ⟨by decide +kernel, rfl⟩
theorem dX7_findWay_132 : zD cX7_findWay 132 (.imul) 1 133 := ⟨by decide +kernel, rfl⟩
theorem dX7_findWay_133 : zD cX7_findWay 133 (.iload 5) 2 135 := ⟨by decide +kernel, rfl⟩
theorem dX7_findWay_135 : zD cX7_findWay 135 (.iadd) 1 136 := ⟨by decide +kernel, rfl⟩
theorem dX7_findWay_136 : zD cX7_findWay 136 (.iaload) 1 137 := ⟨by decide +kernel, rfl⟩
theorem dX7_findWay_137 : zD cX7_findWay 137 (.istore 4) 2 139 := ⟨by decide +kernel, rfl⟩
theorem dX7_findWay_139 : zD cX7_findWay 139 (.aload_n 0) 1 140 := ⟨by decide +kernel, rfl⟩
theorem dX7_findWay_140 : zD cX7_findWay 140 (.iload 6) 2 142 := ⟨by decide +kernel, rfl⟩
theorem dX7_findWay_142 : zD cX7_findWay 142 (.putfield 300) 3 145 := ⟨by decide +kernel, rfl⟩
theorem dX7_findWay_145 : zD cX7_findWay 145 (.aload_n 0) 1 146 := ⟨by decide +kernel, rfl⟩
theorem dX7_findWay_146 : zD cX7_findWay 146 (.iload 5) 2 148 := ⟨by decide +kernel, rfl⟩
theorem dX7_findWay_148 : zD cX7_findWay 148 (.putfield 238) 3 151 := ⟨by decide +kernel, rfl⟩
theorem dX7_findWay_151 : zD cX7_findWay 151 (.iinc 6 1) 3 154 := ⟨by decide +kernel, rfl⟩
theorem dX7_findWay_154 : zD cX7_findWay 154 (.goto (-127)) 3 157 := ⟨by decide +kernel, rfl⟩
theorem dX7_findWay_157 : zD cX7_findWay 157 (.iinc 5 1) 3 160 := ⟨by decide +kernel, rfl⟩
theorem dX7_findWay_160 : zD cX7_findWay 160 (.goto (-145)) 3 163 := ⟨by decide +kernel, rfl⟩
theorem dX7_findWay_163 : zD cX7_findWay 163 (.iload 4) 2 165 := ⟨by decide +kernel, rfl⟩
theorem dX7_findWay_165 : zD cX7_findWay 165 (.ldc_w 269) 3 168 := ⟨by decide +kernel, rfl⟩
theorem dX7_findWay_168 : zD cX7_findWay 168 (.if_icmp .ne 5) 3 171 := ⟨by decide +kernel, rfl⟩
theorem dX7_findWay_171 : zD cX7_findWay 171 (.iconst 0) 1 172 := ⟨by decide +kernel, rfl⟩
theorem dX7_findWay_172 : zD cX7_findWay 172 (.ireturn) 1 173 := ⟨by decide +kernel, rfl⟩
theorem dX7_findWay_173 : zD cX7_findWay 173 (.aload_n 0) 1 174 := ⟨by decide +kernel, rfl⟩
theorem dX7_findWay_174 : zD cX7_findWay 174 (.iload 4) 2 176 := ⟨by decide +kernel, rfl⟩
theorem dX7_findWay_176 : zD cX7_findWay 176 (.bipush 16) 2 178 := ⟨by decide +kernel, rfl⟩
theorem dX7_findWay_178 : zD cX7_findWay 178 (.idiv) 1 179 := ⟨by decide +kernel, rfl⟩
theorem dX7_findWay_179 : zD cX7_findWay 179 (.putfield 235) 3 182 := ⟨by decide +kernel, rfl⟩
theorem dX7_findWay_182 : zD cX7_findWay 182 (.aload_n 0) 1 183 := ⟨by decide +kernel, rfl⟩
theorem dX7_findWay_183 : zD cX7_findWay 183 (.aload_n 0) 1 184 := ⟨by decide +kernel, rfl⟩
theorem dX7_findWay_184 : zD cX7_findWay 184 (.aload_n 0) 1 185 := ⟨by decide +kernel, rfl⟩
theorem dX7_findWay_185 : zD cX7_findWay 185 (.getfield 300) 3 188 := ⟨by decide +kernel, rfl⟩
theorem dX7_findWay_188 : zD cX7_findWay 188 (.aload_n 0) 1 189 := ⟨by decide +kernel, rfl⟩
theorem dX7_findWay_189 : zD cX7_findWay 189 (.getfield 238) 3 192 := ⟨by decide +kernel, rfl⟩
theorem dX7_findWay_192 : zD cX7_findWay 192 (.aload_n 1) 1 193 := ⟨by decide +kernel, rfl⟩
theorem dX7_findWay_193 : zD cX7_findWay 193 (.iload_n 2) 1 194 := ⟨by decide +kernel, rfl⟩
theorem dX7_findWay_194 : zD cX7_findWay 194 (.invokestatic 163) 3 197 := ⟨by decide +kernel, rfl⟩
theorem dX7_findWay_197 : zD cX7_findWay 197 (.iconst 0) 1 198 := ⟨by decide +kernel, rfl⟩
theorem dX7_findWay_198 : zD cX7_findWay 198 (.iadd) 1 199 := ⟨by decide +kernel, rfl⟩
theorem dX7_findWay_199 : zD cX7_findWay 199 (.aload_n 0) 1 200 := ⟨by decide +kernel, rfl⟩
theorem dX7_findWay_200 : zD cX7_findWay 200 (.getfield 300) 3 203 := ⟨by decide +kernel, rfl⟩
theorem dX7_findWay_203 : zD cX7_findWay 203 (.iadd) 1 204 := ⟨by decide +kernel, rfl⟩
theorem dX7_findWay_204 : zD cX7_findWay 204 (.iaload) 1 205 := ⟨by decide +kernel, rfl⟩
theorem dX7_findWay_205 : zD cX7_findWay 205 (.invokevirtual 289) 3 208 := ⟨by decide +kernel, rfl⟩
theorem dX7_findWay_208 : zD cX7_findWay 208 (.putfield 241) 3 211 := ⟨by decide +kernel, rfl⟩
theorem dX7_findWay_211 : zD cX7_findWay 211 (.aload_n 0) 1 212 := ⟨by decide +kernel, rfl⟩
theorem dX7_findWay_212 : zD cX7_findWay 212 (.aload_n 1) 1 213 := ⟨by decide +kernel, rfl⟩
theorem dX7_findWay_213 : zD cX7_findWay 213 (.iload_n 2) 1 214 := ⟨by decide +kernel, rfl⟩
theorem dX7_findWay_214 : zD cX7_findWay 214 (.invokestatic 163) 3 217 := ⟨by decide +kernel, rfl⟩
theorem dX7_findWay_217 : zD cX7_findWay 217 (.bipush 8) 2 219 := ⟨by decide +kernel, rfl⟩
theorem dX7_findWay_219 : zD cX7_findWay 219 (.iadd) 1 220 := ⟨by decide +kernel, rfl⟩
theorem dX7_findWay_220 : zD cX7_findWay 220 (.aload_n 0) 1 221 := ⟨by decide +kernel, rfl⟩
theorem dX7_findWay_221 : zD cX7_findWay 221 (.getfield 300) 3 224 := ⟨by decide +kernel, rfl⟩
theorem dX7_findWay_224 : zD cX7_findWay 224 (.iadd) 1 225 := ⟨by decide +kernel, rfl⟩
theorem dX7_findWay_225 : zD cX7_findWay 225 (.iaload) 1 226 := ⟨by decide +kernel, rfl⟩
theorem dX7_findWay_226 : zD cX7_findWay 226 (.aload_n 0) 1 227 := ⟨by decide +kernel, rfl⟩
theorem dX7_findWay_227 : zD cX7_findWay 227 (.aload_n 0) 1 228 := ⟨by decide +kernel, rfl⟩
theorem dX7_findWay_228 : zD cX7_findWay 228 (.getfield 300) 3 231 := ⟨by decide +kernel, rfl⟩
theorem dX7_findWay_231 : zD cX7_findWay 231 (.aload_n 0) 1 232 := ⟨by decide +kernel, rfl⟩
theorem dX7_findWay_232 : zD cX7_findWay 232 (.getfield 238) 3 235 := ⟨by decide +kernel, rfl⟩
theorem dX7_findWay_235 : zD cX7_findWay 235 (.invokevirtual 286) 3 238 := ⟨by decide +kernel, rfl⟩
theorem dX7_findWay_238 : zD cX7_findWay 238 (.iadd) 1 239 := ⟨by decide +kernel, rfl⟩
theorem dX7_findWay_239 : zD cX7_findWay 239 (.putfield 244) 3 242 := ⟨by decide +kernel, rfl⟩
theorem dX7_findWay_242 : zD cX7_findWay 242 (.iconst 1) 1 243 := ⟨by decide +kernel, rfl⟩
theorem dX7_findWay_243 : zD cX7_findWay 243 (.ireturn) 1 244 := ⟨by decide +kernel, rfl⟩
theorem dX7_pasteOn_0 : zD cX7_pasteOn 0 (.aload_n 1) 1 1 := ⟨by decide +kernel, rfl⟩
theorem dX7_pasteOn_1 : zD cX7_pasteOn 1 (.iload_n 2) 1 2 := ⟨by decide +kernel, rfl⟩
theorem dX7_pasteOn_2 : zD cX7_pasteOn 2 (.invokestatic 204) 3 5 := ⟨by decide +kernel, rfl⟩
theorem dX7_pasteOn_5 : zD cX7_pasteOn 5 (.ifCond .eq 11) 3 8 := ⟨by decide +kernel, rfl⟩
theorem dX7_pasteOn_8 : zD cX7_pasteOn 8 (.aload_n 0) 1 9 := ⟨by decide +kernel, rfl⟩
theorem dX7_pasteOn_9 : zD cX7_pasteOn 9 (.iload_n 3) 1 10 := ⟨by decide +kernel, rfl⟩
theorem dX7_pasteOn_10 : zD cX7_pasteOn 10 (.invokevirtual 201) 3 13 := ⟨by decide +kernel, rfl⟩
theorem dX7_pasteOn_13 : zD cX7_pasteOn 13 (.ifCond .ne 5) 3 16 := ⟨by decide +kernel, rfl⟩
theorem dX7_pasteOn_16 : zD cX7_pasteOn 16 (.iconst 1) 1 17 := ⟨by decide +kernel, rfl⟩
theorem dX7_pasteOn_17 : zD cX7_pasteOn 17 (.ireturn) 1 18 := ⟨by decide +kernel, rfl⟩
theorem dX7_pasteOn_18 : zD cX7_pasteOn 18 (.aload_n 0) 1 19 := ⟨by decide +kernel, rfl⟩
theorem dX7_pasteOn_19 : zD cX7_pasteOn 19 (.aload_n 1) 1 20 := ⟨by decide +kernel, rfl⟩
theorem dX7_pasteOn_20 : zD cX7_pasteOn 20 (.iload_n 2) 1 21 := ⟨by decide +kernel, rfl⟩
theorem dX7_pasteOn_21 : zD cX7_pasteOn 21 (.iload_n 3) 1 22 := ⟨by decide +kernel, rfl⟩
theorem dX7_pasteOn_22 : zD cX7_pasteOn 22 (.invokevirtual 231) 3 25 := ⟨by decide +kernel, rfl⟩
theorem dX7_pasteOn_25 : zD cX7_pasteOn 25 (.ifCond .ne 5) 3 28 := ⟨by decide +kernel, rfl⟩
theorem dX7_pasteOn_28 : zD cX7_pasteOn 28 (.iconst 2) 1 29 := ⟨by decide +kernel, rfl⟩
theorem dX7_pasteOn_29 : zD cX7_pasteOn 29 (.ireturn) 1 30 := ⟨by decide +kernel, rfl⟩
theorem dX7_pasteOn_30 : zD cX7_pasteOn 30 (.iload_n 2) 1 31 := ⟨by decide +kernel, rfl⟩
theorem dX7_pasteOn_31 : zD cX7_pasteOn 31 (.invokestatic 163) 3 34 := ⟨by decide +kernel, rfl⟩
theorem dX7_pasteOn_34 : zD cX7_pasteOn 34 (.istore 4) 2 36 := ⟨by decide +kernel, rfl⟩
theorem dX7_pasteOn_36 : zD cX7_pasteOn 36 (.aload_n 1) 1 37 := ⟨by decide +kernel, rfl⟩
theorem dX7_pasteOn_37 : zD cX7_pasteOn 37 (.iconst 1) 1 38 := ⟨by decide +kernel, rfl⟩
theorem dX7_pasteOn_38 : zD cX7_pasteOn 38 (.dup2) 1 39 := ⟨by decide +kernel, rfl⟩
theorem dX7_pasteOn_39 : zD cX7_pasteOn 39 (.iaload) 1 40 := ⟨by decide +kernel, rfl⟩
theorem dX7_pasteOn_40 : zD cX7_pasteOn 40 (.iconst 1) 1 41 := ⟨by decide +kernel, rfl⟩
theorem dX7_pasteOn_41 : zD cX7_pasteOn 41 (.iadd) 1 42 := ⟨by decide +kernel, rfl⟩
theorem dX7_pasteOn_42 : zD cX7_pasteOn 42 (.iastore) 1 43 := ⟨by decide +kernel, rfl⟩
theorem dX7_pasteOn_43 : zD cX7_pasteOn 43 (.aload_n 1) 1 44 := ⟨by decide +kernel, rfl⟩
theorem dX7_pasteOn_44 : zD cX7_pasteOn 44 (.iconst 2) 1 45 := ⟨by decide +kernel, rfl⟩
theorem dX7_pasteOn_45 : zD cX7_pasteOn 45 (.dup2) 1 46 := ⟨by decide +kernel, rfl⟩
theorem dX7_pasteOn_46 : zD cX7_pasteOn 46 (.iaload) 1 47 := ⟨by decide +kernel, rfl⟩
theorem dX7_pasteOn_47 : zD cX7_pasteOn 47 (.aload_n 0) 1 48 := ⟨by decide +kernel, rfl⟩
theorem dX7_pasteOn_48 : zD cX7_pasteOn 48 (.getfield 235) 3 51 := ⟨by decide +kernel, rfl⟩
theorem dX7_pasteOn_51 : zD cX7_pasteOn 51 (.iadd) 1 52 := ⟨by decide +kernel, rfl⟩
theorem dX7_pasteOn_52 : zD cX7_pasteOn 52 (.iastore) 1 53 := ⟨by decide +kernel, rfl⟩
theorem dX7_pasteOn_53 : zD cX7_pasteOn 53 (.aload_n 1) 1 54 := ⟨by decide +kernel, rfl⟩
theorem dX7_pasteOn_54 : zD cX7_pasteOn 54 (.iload 4) 2 56 := ⟨by decide +kernel, rfl⟩
theorem dX7_pasteOn_56 : zD cX7_pasteOn 56 (.bipush 25) 2 58 := ⟨by decide +kernel, rfl⟩
theorem dX7_pasteOn_58 : zD cX7_pasteOn 58 (.iadd) 1 59 := ⟨by decide +kernel, rfl⟩
theorem dX7_pasteOn_59 : zD cX7_pasteOn 59 (.dup2) 1 60 := ⟨by decide +kernel, rfl⟩
theorem dX7_pasteOn_60 : zD cX7_pasteOn 60 (.iaload) 1 61 := ⟨by decide +kernel, rfl⟩
theorem dX7_pasteOn_61 : zD cX7_pasteOn 61 (.iconst 1) 1 62 := ⟨by decide +kernel, rfl⟩
theorem dX7_pasteOn_62 : zD cX7_pasteOn 62 (.iadd) 1 63 := ⟨by decide +kernel, rfl⟩
theorem dX7_pasteOn_63 : zD cX7_pasteOn 63 (.iastore) 1 64 := ⟨by decide +kernel, rfl⟩
theorem dX7_pasteOn_64 : zD cX7_pasteOn 64 (.aload_n 1) 1 65 := ⟨by decide +kernel, rfl⟩
theorem dX7_pasteOn_65 : zD cX7_pasteOn 65 (.iload 4) 2 67 := ⟨by decide +kernel, rfl⟩
theorem dX7_pasteOn_67 : zD cX7_pasteOn 67 (.bipush 26) 2 69 := ⟨by decide +kernel, rfl⟩
theorem dX7_pasteOn_69 : zD cX7_pasteOn 69 (.iadd) 1 70 := ⟨by decide +kernel, rfl⟩
theorem dX7_pasteOn_70 : zD cX7_pasteOn 70 (.aload_n 1) 1 71 := ⟨by decide +kernel, rfl⟩
theorem dX7_pasteOn_71 : zD cX7_pasteOn 71 (.iconst 1) 1 72 := ⟨by decide +kernel, rfl⟩
theorem dX7_pasteOn_72 : zD cX7_pasteOn 72 (.iaload) 1 73 := ⟨by decide +kernel, rfl⟩
theorem dX7_pasteOn_73 : zD cX7_pasteOn 73 (.iastore) 1 74 := ⟨by decide +kernel, rfl⟩
theorem dX7_pasteOn_74 : zD cX7_pasteOn 74 (.aload_n 1) 1 75 := ⟨by decide +kernel, rfl⟩
theorem dX7_pasteOn_75 : zD cX7_pasteOn 75 (.iload 4) 2 77 := ⟨by decide +kernel, rfl⟩
theorem dX7_pasteOn_77 : zD cX7_pasteOn 77 (.bipush 16) 2 79 := ⟨by decide +kernel, rfl⟩
theorem dX7_pasteOn_79 : zD cX7_pasteOn 79 (.iadd) 1 80 := ⟨by decide +kernel, rfl⟩
theorem dX7_pasteOn_80 : zD cX7_pasteOn 80 (.aload_n 0) 1 81 := ⟨by decide +kernel, rfl⟩
theorem dX7_pasteOn_81 : zD cX7_pasteOn 81 (.getfield 238) 3 84 := ⟨by decide +kernel, rfl⟩
theorem dX7_pasteOn_84 : zD cX7_pasteOn 84 (.iadd) 1 85 := ⟨by decide +kernel, rfl⟩
theorem dX7_pasteOn_85 : zD cX7_pasteOn 85 (.iaload) 1 86 := ⟨by decide +kernel, rfl⟩
theorem dX7_pasteOn_86 : zD cX7_pasteOn 86 (.ifCond .ne 63) 3 89 := ⟨by decide +kernel, rfl⟩
theorem dX7_pasteOn_89 : zD cX7_pasteOn 89 (.aload_n 1) 1 90 := ⟨by decide +kernel, rfl⟩
theorem dX7_pasteOn_90 : zD cX7_pasteOn 90 (.iconst 0) 1 91 := ⟨by decide +kernel, rfl⟩
theorem dX7_pasteOn_91 : zD cX7_pasteOn 91 (.aload_n 0) 1 92 := ⟨by decide +kernel, rfl⟩
theorem dX7_pasteOn_92 : zD cX7_pasteOn 92 (.getfield 62) 3 95 := ⟨by decide +kernel, rfl⟩
theorem dX7_pasteOn_95 : zD cX7_pasteOn 95 (.iconst 0) 1 96 := ⟨by decide +kernel, rfl⟩
theorem dX7_pasteOn_96 : zD cX7_pasteOn 96 (.sipush 360) 3 99 := ⟨by decide +kernel, rfl⟩
theorem dX7_pasteOn_99 : zD cX7_pasteOn 99 (.invokestatic 90) 3 102 := ⟨by decide +kernel, rfl⟩
theorem dX7_pasteOn_102 : zD cX7_pasteOn 102 (.aload_n 0) 1 103 := ⟨by decide +kernel, rfl⟩
theorem dX7_pasteOn_103 : zD cX7_pasteOn 103 (.getfield 62) 3 106 := ⟨by decide +kernel, rfl⟩
theorem dX7_pasteOn_106 : zD cX7_pasteOn 106 (.aload_n 0) 1 107 := ⟨by decide +kernel, rfl⟩
theorem dX7_pasteOn_107 : zD cX7_pasteOn 107 (.getfield 241) 3 110 := ⟨by decide +kernel, rfl⟩
theorem dX7_pasteOn_110 : zD cX7_pasteOn 110 (.iload_n 2) 1 111 := ⟨by decide +kernel, rfl⟩
theorem dX7_pasteOn_111 : zD cX7_pasteOn 111 (.iconst 0) 1 112 := ⟨by decide +kernel, rfl⟩
theorem dX7_pasteOn_112 : zD cX7_pasteOn 112 (.invokestatic 219) 3 115 := ⟨by decide +kernel, rfl⟩
theorem dX7_pasteOn_115 : zD cX7_pasteOn 115 (.ifCond .eq 34) 3 118 := ⟨by decide +kernel, rfl⟩
theorem dX7_pasteOn_118 : zD cX7_pasteOn 118 (.aload_n 0) 1 119 := ⟨by decide +kernel, rfl⟩
theorem dX7_pasteOn_119 : zD cX7_pasteOn 119 (.getfield 62) 3 122 := ⟨by decide +kernel, rfl⟩
theorem dX7_pasteOn_122 : zD cX7_pasteOn 122 (.iconst 0) 1 123 := ⟨by decide +kernel, rfl⟩
theorem dX7_pasteOn_123 : zD cX7_pasteOn 123 (.aload_n 1) 1 124 := ⟨by decide +kernel, rfl⟩
theorem dX7_pasteOn_124 : zD cX7_pasteOn 124 (.iconst 0) 1 125 := ⟨by decide +kernel, rfl⟩
theorem dX7_pasteOn_125 : zD cX7_pasteOn 125 (.sipush 360) 3 128 := ⟨by decide +kernel, rfl⟩
theorem dX7_pasteOn_128 : zD cX7_pasteOn 128 (.invokestatic 90) 3 131 := ⟨by decide +kernel, rfl⟩
theorem dX7_pasteOn_131 : zD cX7_pasteOn 131 (.aload_n 1) 1 132 := ⟨by decide +kernel, rfl⟩
theorem dX7_pasteOn_132 : zD cX7_pasteOn 132 (.iload_n 2) 1 133 := ⟨by decide +kernel, rfl⟩
theorem dX7_pasteOn_133 : zD cX7_pasteOn 133 (.aload_n 0) 1 134 := ⟨by decide +kernel, rfl⟩
theorem dX7_pasteOn_134 : zD cX7_pasteOn 134 (.getfield 238) 3 137 := ⟨by decide +kernel, rfl⟩
theorem dX7_pasteOn_137 : zD cX7_pasteOn 137 (.aload_n 0) 1 138 := ⟨by decide +kernel, rfl⟩
theorem dX7_pasteOn_138 : zD cX7_pasteOn 138 (.getfield 241) 3 141 := ⟨by decide +kernel, rfl⟩
theorem dX7_pasteOn_141 : zD cX7_pasteOn 141 (.aload_n 0) 1 142 := ⟨by decide +kernel, rfl⟩
theorem dX7_pasteOn_142 : zD cX7_pasteOn 142 (.getfield 244) 3 145 := ⟨by decide +kernel, rfl⟩
theorem dX7_pasteOn_145 : zD cX7_pasteOn 145 (.iconst 2) 1 146 := ⟨by decide +kernel, rfl⟩
theorem dX7_pasteOn_146 : zD cX7_pasteOn 146 (.invokestatic 227) 3 149 := ⟨by decide +kernel, rfl⟩
theorem dX7_pasteOn_149 : zD cX7_pasteOn 149 (.aload_n 1) 1 150 := ⟨by decide +kernel, rfl⟩
theorem dX7_pasteOn_150 : zD cX7_pasteOn 150 (.iload 4) 2 152 := ⟨by decide +kernel, rfl⟩
theorem dX7_pasteOn_152 : zD cX7_pasteOn 152 (.aload_n 0) 1 153 := ⟨by decide +kernel, rfl⟩
theorem dX7_pasteOn_153 : zD cX7_pasteOn 153 (.getfield 62) 3 156 := ⟨by decide +kernel, rfl⟩
theorem dX7_pasteOn_156 : zD cX7_pasteOn 156 (.iconst 0) 1 157 := ⟨by decide +kernel, rfl⟩
theorem dX7_pasteOn_157 : zD cX7_pasteOn 157 (.bipush 28) 2 159 := ⟨by decide +kernel, rfl⟩
theorem dX7_pasteOn_159 : zD cX7_pasteOn 159 (.invokestatic 90) 3 162 := ⟨by decide +kernel, rfl⟩
theorem dX7_pasteOn_162 : zD cX7_pasteOn 162 (.iload 4) 2 164 := ⟨by decide +kernel, rfl⟩
theorem dX7_pasteOn_164 : zD cX7_pasteOn 164 (.iconst 1) 1 165 := ⟨by decide +kernel, rfl⟩
theorem dX7_pasteOn_165 : zD cX7_pasteOn 165 (.isub) 1 166 := ⟨by decide +kernel, rfl⟩
theorem dX7_pasteOn_166 : zD cX7_pasteOn 166 (.istore 5) 2 168 := ⟨by decide +kernel, rfl⟩
theorem dX7_pasteOn_168 : zD cX7_pasteOn 168 (.iload 5) 2 170 := ⟨by decide +kernel, rfl⟩
theorem dX7_pasteOn_170 : zD cX7_pasteOn 170 (.bipush 24) 2 172 := ⟨by decide +kernel, rfl⟩
theorem dX7_pasteOn_172 : zD cX7_pasteOn 172 (.if_icmp .lt 20) 3 175 := ⟨by decide +kernel, rfl⟩
theorem dX7_pasteOn_175 : zD cX7_pasteOn 175 (.aload_n 1) 1 176 := ⟨by decide +kernel, rfl⟩
theorem dX7_pasteOn_176 : zD cX7_pasteOn 176 (.iload 5) 2 178 := ⟨by decide +kernel, rfl⟩
theorem dX7_pasteOn_178 : zD cX7_pasteOn 178 (.bipush 28) 2 180 := ⟨by decide +kernel, rfl⟩
theorem dX7_pasteOn_180 : zD cX7_pasteOn 180 (.iadd) 1 181 := ⟨by decide +kernel, rfl⟩
theorem dX7_pasteOn_181 : zD cX7_pasteOn 181 (.aload_n 1) 1 182 := ⟨by decide +kernel, rfl⟩
theorem dX7_pasteOn_182 : zD cX7_pasteOn 182 (.iload 5) 2 184 := ⟨by decide +kernel, rfl⟩
theorem dX7_pasteOn_184 : zD cX7_pasteOn 184 (.iaload) 1 185 := ⟨by decide +kernel, rfl⟩
theorem dX7_pasteOn_185 : zD cX7_pasteOn 185 (.iastore) 1 186 := ⟨by decide +kernel, rfl⟩
theorem dX7_pasteOn_186 : zD cX7_pasteOn 186 (.iinc 5 (-1)) 3 189 := ⟨by decide +kernel, rfl⟩
theorem dX7_pasteOn_189 : zD cX7_pasteOn 189 (.goto (-21)) 3 192 := ⟨by decide +kernel, rfl⟩
theorem dX7_pasteOn_192 : zD cX7_pasteOn 192 (.aload_n 0) 1 193 := ⟨by decide +kernel, rfl⟩
theorem dX7_pasteOn_193 : zD cX7_pasteOn 193 (.getfield 62) 3 196 := ⟨by decide +kernel, rfl⟩
theorem dX7_pasteOn_196 : zD cX7_pasteOn 196 (.iconst 0) 1 197 := ⟨by decide +kernel, rfl⟩
theorem dX7_pasteOn_197 : zD cX7_pasteOn 197 (.aload_n 1) 1 198 := ⟨by decide +kernel, rfl⟩
theorem dX7_pasteOn_198 : zD cX7_pasteOn 198 (.bipush 24) 2 200 := ⟨by decide +kernel, rfl⟩
theorem dX7_pasteOn_200 : zD cX7_pasteOn 200 (.bipush 28) 2 202 := ⟨by decide +kernel, rfl⟩
theorem dX7_pasteOn_202 : zD cX7_pasteOn 202 (.invokestatic 90) 3 205 := ⟨by decide +kernel, rfl⟩
theorem dX7_pasteOn_205 : zD cX7_pasteOn 205 (.iconst 0) 1 206 := ⟨by decide +kernel, rfl⟩
theorem dX7_pasteOn_206 : zD cX7_pasteOn 206 (.ireturn) 1 207 := ⟨by decide +kernel, rfl⟩
theorem dX7_copy_0 : zD cX7_copy 0 (.aload_n 0) 1 1 := ⟨by decide +kernel, rfl⟩
theorem dX7_copy_1 : zD cX7_copy 1 (.invokevirtual 247) 3 4 := ⟨by decide +kernel, rfl⟩
theorem dX7_copy_4 : zD cX7_copy 4 (.aload_n 0) 1 5 := ⟨by decide +kernel, rfl⟩
theorem dX7_copy_5 : zD cX7_copy 5 (.aload_n 0) 1 6 := ⟨by decide +kernel, rfl⟩
theorem dX7_copy_6 : zD cX7_copy 6 (.aload_n 0) 1 7 := ⟨by decide +kernel, rfl⟩
theorem dX7_copy_7 : zD cX7_copy 7 (.getfield 59) 3 10 := ⟨by decide +kernel, rfl⟩
theorem dX7_copy_10 : zD cX7_copy 10 (.iload_n 1) 1 11 := ⟨by decide +kernel, rfl⟩
theorem dX7_copy_11 : zD cX7_copy 11 (.iload_n 2) 1 12 := ⟨by decide +kernel, rfl⟩
theorem dX7_copy_12 : zD cX7_copy 12 (.invokevirtual 250) 3 15 := ⟨by decide +kernel, rfl⟩
theorem dX7_copy_15 : zD cX7_copy 15 (.invokevirtual 112) 3 18 := ⟨by decide +kernel, rfl⟩
theorem dX7_copy_18 : zD cX7_copy 18 (.ifCond .eq 5) 3 21 := ⟨by decide +kernel, rfl⟩
theorem dX7_copy_21 : zD cX7_copy 21 (.iconst 0) 1 22 := ⟨by decide +kernel, rfl⟩
theorem dX7_copy_22 : zD cX7_copy 22 (.ireturn) 1 23 := ⟨by decide +kernel, rfl⟩
theorem dX7_copy_23 : zD cX7_copy 23 (.aload_n 0) 1 24 := ⟨by decide +kernel, rfl⟩
theorem dX7_copy_24 : zD cX7_copy 24 (.invokevirtual 253) 3 27 := ⟨by decide +kernel, rfl⟩
theorem dX7_copy_27 : zD cX7_copy 27 (.aload_n 0) 1 28 := ⟨by decide +kernel, rfl⟩
theorem dX7_copy_28 : zD cX7_copy 28 (.getfield 56) 3 31 := ⟨by decide +kernel, rfl⟩
theorem dX7_copy_31 : zD cX7_copy 31 (.invokestatic 176) 3 34 := ⟨by decide +kernel, rfl⟩
theorem dX7_copy_34 : zD cX7_copy 34 (.ireturn) 1 35 := ⟨by decide +kernel, rfl⟩
theorem dX7_offer_0 : zD cX7_offer 0 (.aload_n 0) 1 1 := ⟨by decide +kernel, rfl⟩
theorem dX7_offer_1 : zD cX7_offer 1 (.invokevirtual 247) 3 4 := ⟨by decide +kernel, rfl⟩
theorem dX7_offer_4 : zD cX7_offer 4 (.aload_n 0) 1 5 := ⟨by decide +kernel, rfl⟩
theorem dX7_offer_5 : zD cX7_offer 5 (.aload_n 0) 1 6 := ⟨by decide +kernel, rfl⟩
theorem dX7_offer_6 : zD cX7_offer 6 (.aload_n 0) 1 7 := ⟨by decide +kernel, rfl⟩
theorem dX7_offer_7 : zD cX7_offer 7 (.getfield 59) 3 10 := ⟨by decide +kernel, rfl⟩
theorem dX7_offer_10 : zD cX7_offer 10 (.iload_n 1) 1 11 := ⟨by decide +kernel, rfl⟩
theorem dX7_offer_11 : zD cX7_offer 11 (.iload_n 2) 1 12 := ⟨by decide +kernel, rfl⟩
theorem dX7_offer_12 : zD cX7_offer 12 (.invokevirtual 256) 3 15 := ⟨by decide +kernel, rfl⟩
theorem dX7_offer_15 : zD cX7_offer 15 (.invokevirtual 112) 3 18 := ⟨by decide +kernel, rfl⟩
theorem dX7_offer_18 : zD cX7_offer 18 (.ifCond .eq 5) 3 21 := ⟨by decide +kernel, rfl⟩
theorem dX7_offer_21 : zD cX7_offer 21 (.iconst 0) 1 22 := ⟨by decide +kernel, rfl⟩
theorem dX7_offer_22 : zD cX7_offer 22 (.ireturn) 1 23 := ⟨by decide +kernel, rfl⟩
theorem dX7_offer_23 : zD cX7_offer 23 (.aload_n 0) 1 24 := ⟨by decide +kernel, rfl⟩
theorem dX7_offer_24 : zD cX7_offer 24 (.invokevirtual 253) 3 27 := ⟨by decide +kernel, rfl⟩
theorem dX7_offer_27 : zD cX7_offer 27 (.aload_n 0) 1 28 := ⟨by decide +kernel, rfl⟩
theorem dX7_offer_28 : zD cX7_offer 28 (.getfield 56) 3 31 := ⟨by decide +kernel, rfl⟩
theorem dX7_offer_31 : zD cX7_offer 31 (.invokestatic 176) 3 34 := ⟨by decide +kernel, rfl⟩
theorem dX7_offer_34 : zD cX7_offer 34 (.ireturn) 1 35 := ⟨by decide +kernel, rfl⟩
theorem dX7_paste_0 : zD cX7_paste 0 (.aload_n 0) 1 1 := ⟨by decide +kernel, rfl⟩
theorem dX7_paste_1 : zD cX7_paste 1 (.invokevirtual 247) 3 4 := ⟨by decide +kernel, rfl⟩
theorem dX7_paste_4 : zD cX7_paste 4 (.aload_n 0) 1 5 := ⟨by decide +kernel, rfl⟩
theorem dX7_paste_5 : zD cX7_paste 5 (.aload_n 0) 1 6 := ⟨by decide +kernel, rfl⟩
theorem dX7_paste_6 : zD cX7_paste 6 (.aload_n 0) 1 7 := ⟨by decide +kernel, rfl⟩
theorem dX7_paste_7 : zD cX7_paste 7 (.getfield 59) 3 10 := ⟨by decide +kernel, rfl⟩
theorem dX7_paste_10 : zD cX7_paste 10 (.iload_n 1) 1 11 := ⟨by decide +kernel, rfl⟩
theorem dX7_paste_11 : zD cX7_paste 11 (.iload_n 2) 1 12 := ⟨by decide +kernel, rfl⟩
theorem dX7_paste_12 : zD cX7_paste 12 (.invokevirtual 259) 3 15 := ⟨by decide +kernel, rfl⟩
theorem dX7_paste_15 : zD cX7_paste 15 (.invokevirtual 112) 3 18 := ⟨by decide +kernel, rfl⟩
theorem dX7_paste_18 : zD cX7_paste 18 (.ifCond .eq 5) 3 21 := ⟨by decide +kernel, rfl⟩
theorem dX7_paste_21 : zD cX7_paste 21 (.iconst 0) 1 22 := ⟨by decide +kernel, rfl⟩
theorem dX7_paste_22 : zD cX7_paste 22 (.ireturn) 1 23 := ⟨by decide +kernel, rfl⟩
theorem dX7_paste_23 : zD cX7_paste 23 (.aload_n 0) 1 24 := ⟨by decide +kernel, rfl⟩
theorem dX7_paste_24 : zD cX7_paste 24 (.invokevirtual 253) 3 27 := ⟨by decide +kernel, rfl⟩
theorem dX7_paste_27 : zD cX7_paste 27 (.aload_n 0) 1 28 := ⟨by decide +kernel, rfl⟩
theorem dX7_paste_28 : zD cX7_paste 28 (.getfield 238) 3 31 := ⟨by decide +kernel, rfl⟩
theorem dX7_paste_31 : zD cX7_paste 31 (.ireturn) 1 32 := ⟨by decide +kernel, rfl⟩
theorem dX7_togglePin_0 : zD cX7_togglePin 0 (.aload_n 0) 1 1 := ⟨by decide +kernel, rfl⟩
theorem dX7_togglePin_1 : zD cX7_togglePin 1 (.aload_n 0) 1 2 := ⟨by decide +kernel, rfl⟩
theorem dX7_togglePin_2 : zD cX7_togglePin 2 (.getfield 56) 3 5 := ⟨by decide +kernel, rfl⟩
theorem dX7_togglePin_5 : zD cX7_togglePin 5 (.iload_n 1) 1 6 := ⟨by decide +kernel, rfl⟩
theorem dX7_togglePin_6 : zD cX7_togglePin 6 (.invokestatic 204) 3 9 := ⟨by decide +kernel, rfl⟩
theorem dX7_togglePin_9 : zD cX7_togglePin 9 (.ifCond .eq 7) 3 12 := ⟨by decide +kernel, rfl⟩
theorem dX7_togglePin_12 : zD cX7_togglePin 12 (.iconst 0) 1 13 := ⟨by decide +kernel, rfl⟩
theorem dX7_togglePin_13 : zD cX7_togglePin 13 (.goto 4) 3 16 := ⟨by decide +kernel, rfl⟩
theorem dX7_togglePin_16 : zD cX7_togglePin 16 (.iconst 1) 1 17 := ⟨by decide +kernel, rfl⟩
theorem dX7_togglePin_17 : zD cX7_togglePin 17 (.invokevirtual 112) 3 20 := ⟨by decide +kernel, rfl⟩
theorem dX7_togglePin_20 : zD cX7_togglePin 20 (.ifCond .eq 5) 3 23 := ⟨by decide +kernel, rfl⟩
theorem dX7_togglePin_23 : zD cX7_togglePin 23 (.iconst 0) 1 24 := ⟨by decide +kernel, rfl⟩
theorem dX7_togglePin_24 : zD cX7_togglePin 24 (.ireturn) 1 25 := ⟨by decide +kernel, rfl⟩
theorem dX7_togglePin_25 : zD cX7_togglePin 25 (.aload_n 0) 1 26 := ⟨by decide +kernel, rfl⟩
theorem dX7_togglePin_26 : zD cX7_togglePin 26 (.invokevirtual 94) 3 29 := ⟨by decide +kernel, rfl⟩
theorem dX7_togglePin_29 : zD cX7_togglePin 29 (.aload_n 0) 1 30 := ⟨by decide +kernel, rfl⟩
theorem dX7_togglePin_30 : zD cX7_togglePin 30 (.getfield 56) 3 33 := ⟨by decide +kernel, rfl⟩
theorem dX7_togglePin_33 : zD cX7_togglePin 33 (.iload_n 1) 1 34 := ⟨by decide +kernel, rfl⟩
theorem dX7_togglePin_34 : zD cX7_togglePin 34 (.invokestatic 163) 3 37 := ⟨by decide +kernel, rfl⟩
theorem dX7_togglePin_37 : zD cX7_togglePin 37 (.bipush 24) 2 39 := ⟨by decide +kernel, rfl⟩
theorem dX7_togglePin_39 : zD cX7_togglePin 39 (.iadd) 1 40 := ⟨by decide +kernel, rfl⟩
theorem dX7_togglePin_40 : zD cX7_togglePin 40 (.iconst 1) 1 41 := ⟨by decide +kernel, rfl⟩
theorem dX7_togglePin_41 : zD cX7_togglePin 41 (.aload_n 0) 1 42 := ⟨by decide +kernel, rfl⟩
theorem dX7_togglePin_42 : zD cX7_togglePin 42 (.getfield 56) 3 45 := ⟨by decide +kernel, rfl⟩
theorem dX7_togglePin_45 : zD cX7_togglePin 45 (.iload_n 1) 1 46 := ⟨by decide +kernel, rfl⟩
theorem dX7_togglePin_46 : zD cX7_togglePin 46 (.invokestatic 163) 3 49 := ⟨by decide +kernel, rfl⟩
theorem dX7_togglePin_49 : zD cX7_togglePin 49 (.bipush 24) 2 51 := ⟨by decide +kernel, rfl⟩
theorem dX7_togglePin_51 : zD cX7_togglePin 51 (.iadd) 1 52 := ⟨by decide +kernel, rfl⟩
theorem dX7_togglePin_52 : zD cX7_togglePin 52 (.iaload) 1 53 := ⟨by decide +kernel, rfl⟩
theorem dX7_togglePin_53 : zD cX7_togglePin 53 (.isub) 1 54 := ⟨by decide +kernel, rfl⟩
theorem dX7_togglePin_54 : zD cX7_togglePin 54 (.iastore) 1 55 := ⟨by decide +kernel, rfl⟩
theorem dX7_togglePin_55 : zD cX7_togglePin 55 (.aload_n 0) 1 56 := ⟨by decide +kernel, rfl⟩
theorem dX7_togglePin_56 : zD cX7_togglePin 56 (.aload_n 0) 1 57 := ⟨by decide +kernel, rfl⟩
theorem dX7_togglePin_57 : zD cX7_togglePin 57 (.getfield 56) 3 60 := ⟨by decide +kernel, rfl⟩
theorem dX7_togglePin_60 : zD cX7_togglePin 60 (.invokevirtual 262) 3 63 := ⟨by decide +kernel, rfl⟩
theorem dX7_togglePin_63 : zD cX7_togglePin 63 (.ireturn) 1 64 := ⟨by decide +kernel, rfl⟩
def fX7_conversion (h : zH) (a0 : Nat) (a1 : Int32) (a2 : Int32) : Option (Int32 × zH) :=
    if zkd h a0 = 8 then
    zb2 (fX7_isConversion h (a0) (a1)) fun w1 h2 =>
    if (w1 : Int32) = 0 then
    zb2 (fX7_refused h2 (a0) (1)) fun w4 h5 =>
    if (w4 : Int32) = 0 then
    if (a2 : Int32) = 0 then
    (zgP h5 7 a0 7).bind fun w8 =>
    (zaI h5 w8 (a1)).bind fun w9 =>
    some (w9, h5)
    else
    if (a2 : Int32) = 1 then
    (zgP h5 7 a0 8).bind fun w11 =>
    (zaI h5 w11 (a1)).bind fun w12 =>
    some (w12, h5)
    else
    if (a2 : Int32) = 2 then
    (zgP h5 7 a0 24).bind fun w14 =>
    (zaI h5 w14 (((4 : Int32) + a1))).bind fun w15 =>
    some (w15, h5)
    else
    if (a2 : Int32) = 3 then
    (zgP h5 7 a0 9).bind fun w17 =>
    (zaI h5 w17 (a1)).bind fun w18 =>
    some (w18, h5)
    else
    (zgP h5 7 a0 10).bind fun w19 =>
    (zaI h5 w19 (a1)).bind fun w20 =>
    some (w20, h5)
    else
    some (0, h5)
    else
    zb2 (fX7_in h2 ((a2 : Int32).toInt64) (0) (4)) fun w21 h22 =>
    if (w21 : Int32) = 0 then
    zb2 (fX7_refused h22 (a0) (2)) fun w24 h25 =>
    if (w24 : Int32) = 0 then
    if (a2 : Int32) = 0 then
    (zgP h25 7 a0 7).bind fun w28 =>
    (zaI h25 w28 (a1)).bind fun w29 =>
    some (w29, h25)
    else
    if (a2 : Int32) = 1 then
    (zgP h25 7 a0 8).bind fun w31 =>
    (zaI h25 w31 (a1)).bind fun w32 =>
    some (w32, h25)
    else
    if (a2 : Int32) = 2 then
    (zgP h25 7 a0 24).bind fun w34 =>
    (zaI h25 w34 (((4 : Int32) + a1))).bind fun w35 =>
    some (w35, h25)
    else
    if (a2 : Int32) = 3 then
    (zgP h25 7 a0 9).bind fun w37 =>
    (zaI h25 w37 (a1)).bind fun w38 =>
    some (w38, h25)
    else
    (zgP h25 7 a0 10).bind fun w39 =>
    (zaI h25 w39 (a1)).bind fun w40 =>
    some (w40, h25)
    else
    some (0, h25)
    else
    zb2 (fX7_refused h22 (a0) (0)) fun w41 h42 =>
    if (w41 : Int32) = 0 then
    if (a2 : Int32) = 0 then
    (zgP h42 7 a0 7).bind fun w45 =>
    (zaI h42 w45 (a1)).bind fun w46 =>
    some (w46, h42)
    else
    if (a2 : Int32) = 1 then
    (zgP h42 7 a0 8).bind fun w48 =>
    (zaI h42 w48 (a1)).bind fun w49 =>
    some (w49, h42)
    else
    if (a2 : Int32) = 2 then
    (zgP h42 7 a0 24).bind fun w51 =>
    (zaI h42 w51 (((4 : Int32) + a1))).bind fun w52 =>
    some (w52, h42)
    else
    if (a2 : Int32) = 3 then
    (zgP h42 7 a0 9).bind fun w54 =>
    (zaI h42 w54 (a1)).bind fun w55 =>
    some (w55, h42)
    else
    (zgP h42 7 a0 10).bind fun w56 =>
    (zaI h42 w56 (a1)).bind fun w57 =>
    some (w57, h42)
    else
    some (0, h42)
    else none
theorem kfX7_conversion {h : zH} {a0 : Nat} {a1 : Int32} {a2 : Int32} {r : Int32 × zH} (hf : fX7_conversion h a0 a1 a2 = some r) : zkd h a0 = 8 := by
  unfold fX7_conversion at hf
  exact (zck hf).1
def fX7_place (h : zH) (a0 : Nat) (a1 : Int32) (a2 : Int32) : Option (Int32 × zH) :=
    if zkd h a0 = 8 then
    zb2 (fX7_isPlace h (a0) (a1)) fun w1 h2 =>
    if (w1 : Int32) = 0 then
    zb2 (fX7_refused h2 (a0) (1)) fun w4 h5 =>
    if (w4 : Int32) = 0 then
    if (a2 : Int32) = 0 then
    (zgP h5 7 a0 11).bind fun w8 =>
    (zaI h5 w8 (a1)).bind fun w9 =>
    some (w9, h5)
    else
    (zgP h5 7 a0 12).bind fun w10 =>
    (zaI h5 w10 (a1)).bind fun w11 =>
    some (w11, h5)
    else
    some (0, h5)
    else
    zb2 (fX7_in h2 ((a2 : Int32).toInt64) (0) (1)) fun w12 h13 =>
    if (w12 : Int32) = 0 then
    zb2 (fX7_refused h13 (a0) (2)) fun w15 h16 =>
    if (w15 : Int32) = 0 then
    if (a2 : Int32) = 0 then
    (zgP h16 7 a0 11).bind fun w19 =>
    (zaI h16 w19 (a1)).bind fun w20 =>
    some (w20, h16)
    else
    (zgP h16 7 a0 12).bind fun w21 =>
    (zaI h16 w21 (a1)).bind fun w22 =>
    some (w22, h16)
    else
    some (0, h16)
    else
    zb2 (fX7_refused h13 (a0) (0)) fun w23 h24 =>
    if (w23 : Int32) = 0 then
    if (a2 : Int32) = 0 then
    (zgP h24 7 a0 11).bind fun w27 =>
    (zaI h24 w27 (a1)).bind fun w28 =>
    some (w28, h24)
    else
    (zgP h24 7 a0 12).bind fun w29 =>
    (zaI h24 w29 (a1)).bind fun w30 =>
    some (w30, h24)
    else
    some (0, h24)
    else none
theorem kfX7_place {h : zH} {a0 : Nat} {a1 : Int32} {a2 : Int32} {r : Int32 × zH} (hf : fX7_place h a0 a1 a2 = some r) : zkd h a0 = 8 := by
  unfold fX7_place at hf
  exact (zck hf).1
def fX7_entry (h : zH) (a0 : Nat) (a1 : Int32) (a2 : Int32) : Option (Int32 × zH) :=
    if zkd h a0 = 8 then
    (zgP h 7 a0 24).bind fun w1 =>
    zb2 (fX7_isEntry h (w1) (a1)) fun w2 h3 =>
    if (w2 : Int32) = 0 then
    zb2 (fX7_refused h3 (a0) (1)) fun w5 h6 =>
    if (w5 : Int32) = 0 then
    if (a2 : Int32) = 0 then
    (zgP h6 7 a0 24).bind fun w9 =>
    zb2 (fX7_sizeOf h6 (w9) (a1)) fun w10 h11 =>
    some (w10, h11)
    else
    if (a2 : Int32) = 1 then
    (zgP h6 7 a0 24).bind fun w13 =>
    zb2 (fX7_formsOf h6 (w13) (a1) (1)) fun w14 h15 =>
    some (w14, h15)
    else
    if (a2 : Int32) = 2 then
    (zgP h6 7 a0 24).bind fun w17 =>
    zb2 (fX7_formsOf h6 (w17) (a1) (2)) fun w18 h19 =>
    some (w18, h19)
    else
    if (a2 : Int32) = 3 then
    (zgP h6 7 a0 24).bind fun w21 =>
    zb2 (fX7_at h6 (a1)) fun w22 h23 =>
    (zaI h23 w21 (((w22 : Int32) + 24))).bind fun w24 =>
    some (w24, h23)
    else
    if (a2 : Int32) = 4 then
    (zgP h6 7 a0 24).bind fun w26 =>
    zb2 (fX7_at h6 (a1)) fun w27 h28 =>
    (zaI h28 w26 (((w27 : Int32) + 25))).bind fun w29 =>
    some (w29, h28)
    else
    if (a2 : Int32) = 5 then
    (zgP h6 7 a0 24).bind fun w31 =>
    zb2 (fX7_at h6 (a1)) fun w32 h33 =>
    (zaI h33 w31 (((w32 : Int32) + 26))).bind fun w34 =>
    some (w34, h33)
    else
    (zgP h6 7 a0 24).bind fun w35 =>
    zb2 (fX7_weight h6 (w35) (a1)) fun w36 h37 =>
    some (w36, h37)
    else
    some (0, h6)
    else
    zb2 (fX7_in h3 ((a2 : Int32).toInt64) (0) (6)) fun w38 h39 =>
    if (w38 : Int32) = 0 then
    zb2 (fX7_refused h39 (a0) (2)) fun w41 h42 =>
    if (w41 : Int32) = 0 then
    if (a2 : Int32) = 0 then
    (zgP h42 7 a0 24).bind fun w45 =>
    zb2 (fX7_sizeOf h42 (w45) (a1)) fun w46 h47 =>
    some (w46, h47)
    else
    if (a2 : Int32) = 1 then
    (zgP h42 7 a0 24).bind fun w49 =>
    zb2 (fX7_formsOf h42 (w49) (a1) (1)) fun w50 h51 =>
    some (w50, h51)
    else
    if (a2 : Int32) = 2 then
    (zgP h42 7 a0 24).bind fun w53 =>
    zb2 (fX7_formsOf h42 (w53) (a1) (2)) fun w54 h55 =>
    some (w54, h55)
    else
    if (a2 : Int32) = 3 then
    (zgP h42 7 a0 24).bind fun w57 =>
    zb2 (fX7_at h42 (a1)) fun w58 h59 =>
    (zaI h59 w57 (((w58 : Int32) + 24))).bind fun w60 =>
    some (w60, h59)
    else
    if (a2 : Int32) = 4 then
    (zgP h42 7 a0 24).bind fun w62 =>
    zb2 (fX7_at h42 (a1)) fun w63 h64 =>
    (zaI h64 w62 (((w63 : Int32) + 25))).bind fun w65 =>
    some (w65, h64)
    else
    if (a2 : Int32) = 5 then
    (zgP h42 7 a0 24).bind fun w67 =>
    zb2 (fX7_at h42 (a1)) fun w68 h69 =>
    (zaI h69 w67 (((w68 : Int32) + 26))).bind fun w70 =>
    some (w70, h69)
    else
    (zgP h42 7 a0 24).bind fun w71 =>
    zb2 (fX7_weight h42 (w71) (a1)) fun w72 h73 =>
    some (w72, h73)
    else
    some (0, h42)
    else
    zb2 (fX7_refused h39 (a0) (0)) fun w74 h75 =>
    if (w74 : Int32) = 0 then
    if (a2 : Int32) = 0 then
    (zgP h75 7 a0 24).bind fun w78 =>
    zb2 (fX7_sizeOf h75 (w78) (a1)) fun w79 h80 =>
    some (w79, h80)
    else
    if (a2 : Int32) = 1 then
    (zgP h75 7 a0 24).bind fun w82 =>
    zb2 (fX7_formsOf h75 (w82) (a1) (1)) fun w83 h84 =>
    some (w83, h84)
    else
    if (a2 : Int32) = 2 then
    (zgP h75 7 a0 24).bind fun w86 =>
    zb2 (fX7_formsOf h75 (w86) (a1) (2)) fun w87 h88 =>
    some (w87, h88)
    else
    if (a2 : Int32) = 3 then
    (zgP h75 7 a0 24).bind fun w90 =>
    zb2 (fX7_at h75 (a1)) fun w91 h92 =>
    (zaI h92 w90 (((w91 : Int32) + 24))).bind fun w93 =>
    some (w93, h92)
    else
    if (a2 : Int32) = 4 then
    (zgP h75 7 a0 24).bind fun w95 =>
    zb2 (fX7_at h75 (a1)) fun w96 h97 =>
    (zaI h97 w95 (((w96 : Int32) + 25))).bind fun w98 =>
    some (w98, h97)
    else
    if (a2 : Int32) = 5 then
    (zgP h75 7 a0 24).bind fun w100 =>
    zb2 (fX7_at h75 (a1)) fun w101 h102 =>
    (zaI h102 w100 (((w101 : Int32) + 26))).bind fun w103 =>
    some (w103, h102)
    else
    (zgP h75 7 a0 24).bind fun w104 =>
    zb2 (fX7_weight h75 (w104) (a1)) fun w105 h106 =>
    some (w105, h106)
    else
    some (0, h75)
    else none
theorem kfX7_entry {h : zH} {a0 : Nat} {a1 : Int32} {a2 : Int32} {r : Int32 × zH} (hf : fX7_entry h a0 a1 a2 = some r) : zkd h a0 = 8 := by
  unfold fX7_entry at hf
  exact (zck hf).1
def fX7_form (h : zH) (a0 : Nat) (a1 : Int32) (a2 : Int32) (a3 : Int32) : Option (Int32 × zH) :=
    if zkd h a0 = 8 then
    (zgP h 7 a0 24).bind fun w1 =>
    zb2 (fX7_isEntry h (w1) (a1)) fun w2 h3 =>
    if (w2 : Int32) = 0 then
    zb2 (fX7_refused h3 (a0) (1)) fun w5 h6 =>
    if (w5 : Int32) = 0 then
    (zgP h6 7 a0 24).bind fun w8 =>
    zb2 (fX7_at h6 (a1)) fun w9 h10 =>
    (zaI h10 w8 (((((w9 : Int32) + 16) : Int32) + a2))).bind fun w11 =>
    if (w11 : Int32) = 0 then
    some ((-9), h10)
    else
    (zgP h10 7 a0 24).bind fun w13 =>
    zb2 (fX7_at h10 (a1)) fun w14 h15 =>
    if (a3 : Int32) = 0 then
    (zaI h15 w13 (((((w14 : Int32) + 0) : Int32) + a2))).bind fun w17 =>
    some (w17, h15)
    else
    (zaI h15 w13 (((((w14 : Int32) + 8) : Int32) + a2))).bind fun w18 =>
    some (w18, h15)
    else
    some (0, h6)
    else
    zb2 (fX7_isFormat h3 (a0) (a2)) fun w19 h20 =>
    if (w19 : Int32) = 0 then
    zb2 (fX7_refused h20 (a0) (1)) fun w22 h23 =>
    if (w22 : Int32) = 0 then
    (zgP h23 7 a0 24).bind fun w25 =>
    zb2 (fX7_at h23 (a1)) fun w26 h27 =>
    (zaI h27 w25 (((((w26 : Int32) + 16) : Int32) + a2))).bind fun w28 =>
    if (w28 : Int32) = 0 then
    some ((-9), h27)
    else
    (zgP h27 7 a0 24).bind fun w30 =>
    zb2 (fX7_at h27 (a1)) fun w31 h32 =>
    if (a3 : Int32) = 0 then
    (zaI h32 w30 (((((w31 : Int32) + 0) : Int32) + a2))).bind fun w34 =>
    some (w34, h32)
    else
    (zaI h32 w30 (((((w31 : Int32) + 8) : Int32) + a2))).bind fun w35 =>
    some (w35, h32)
    else
    some (0, h23)
    else
    zb2 (fX7_refused h20 (a0) (0)) fun w36 h37 =>
    if (w36 : Int32) = 0 then
    (zgP h37 7 a0 24).bind fun w39 =>
    zb2 (fX7_at h37 (a1)) fun w40 h41 =>
    (zaI h41 w39 (((((w40 : Int32) + 16) : Int32) + a2))).bind fun w42 =>
    if (w42 : Int32) = 0 then
    some ((-9), h41)
    else
    (zgP h41 7 a0 24).bind fun w44 =>
    zb2 (fX7_at h41 (a1)) fun w45 h46 =>
    if (a3 : Int32) = 0 then
    (zaI h46 w44 (((((w45 : Int32) + 0) : Int32) + a2))).bind fun w48 =>
    some (w48, h46)
    else
    (zaI h46 w44 (((((w45 : Int32) + 8) : Int32) + a2))).bind fun w49 =>
    some (w49, h46)
    else
    some (0, h37)
    else none
theorem kfX7_form {h : zH} {a0 : Nat} {a1 : Int32} {a2 : Int32} {a3 : Int32} {r : Int32 × zH} (hf : fX7_form h a0 a1 a2 a3 = some r) : zkd h a0 = 8 := by
  unfold fX7_form at hf
  exact (zck hf).1
def fX7_pinnedIn_L4 (k : zH → Int32 → Int32 → Option (Int32 × zH)) (u0 : Nat) (u1 : Nat) : Nat → zH → Int32 → Int32 → Option (Int32 × zH)
  | 0, _, _, _ => none
  | n + 1, h, v2, v3 => (zaI h u1 (0)).bind fun w1 =>
    if (w1 : Int32) ≤ v3 then
    k h (v2) (v3)
    else
    zb2 (fX7_at h (v3)) fun w3 h4 =>
    (zaI h4 u1 (((w3 : Int32) + 24))).bind fun w5 =>
    fX7_pinnedIn_L4 k u0 u1 n h4 (((v2 : Int32) + w5)) ((v3 + 1))
def fX7_pinnedIn (h : zH) (a0 : Nat) (a1 : Nat) : Option (Int32 × zH) :=
    if zkd h a0 = 8 then
    fX7_pinnedIn_L4 (fun h1 y2 y3 =>
    some (y2, h1)) (a0) (a1) zF h (0) (0)
    else none
theorem kfX7_pinnedIn {h : zH} {a0 : Nat} {a1 : Nat} {r : Int32 × zH} (hf : fX7_pinnedIn h a0 a1 = some r) : zkd h a0 = 8 := by
  unfold fX7_pinnedIn at hf
  exact (zck hf).1
def fX7_insert_L9 (k : zH → Int32 → Option (zH)) (u0 : Nat) : Nat → zH → Int32 → Option (zH)
  | 0, _, _ => none
  | n + 1, h, v1 => if (v1 : Int32) < 24 then
    k h (v1)
    else
    (zaI h u0 (v1)).bind fun w2 =>
    (zbI h u0 (((v1 : Int32) + 28)) (w2)).bind fun h3 =>
    fX7_insert_L9 k u0 n h3 ((v1 + (-1)))
def fX7_insert_L32 (k : zH → Int32 → Option (zH)) (u0 : Nat) : Nat → zH → Int32 → Option (zH)
  | 0, _, _ => none
  | n + 1, h, v1 => if (28 : Int32) ≤ v1 then
    k h (v1)
    else
    (zbI h u0 (((24 : Int32) + v1)) (0)).bind fun h2 =>
    fX7_insert_L32 k u0 n h2 ((v1 + 1))
def fX7_insert (h : zH) (a0 : Nat) : Option (zH) :=
    (zaI h a0 (0)).bind fun w1 =>
    zb2 (fX7_at h (w1)) fun w2 h3 =>
    fX7_insert_L9 (fun h4 y5 =>
    fX7_insert_L32 (fun h6 y7 =>
    (zaI h6 a0 (0)).bind fun w8 =>
    (zbI h6 a0 (0) (((w8 : Int32) + 1))).bind fun h9 =>
    some h9) (a0) zF h4 (0)) (a0) zF h3 (((w2 : Int32) - 1))
def fX7_copyOn (h : zH) (a0 : Nat) (a1 : Nat) (a2 : Int32) (a3 : Int32) : Option (Int32 × zH) :=
    if zkd h a0 = 8 then
    zb2 (fX7_isFormat h (a0) (a2)) fun w1 h2 =>
    if (w1 : Int32) = 0 then
    some (1, h2)
    else
    zb2 (fX7_in h2 ((a3 : Int32).toInt64) (1) (9999)) fun w4 h5 =>
    if (w4 : Int32) = 0 then
    some (2, h5)
    else
    (zaI h5 a1 (1)).bind fun w7 =>
    (zbI h5 a1 (1) (((w7 : Int32) + 1))).bind fun h8 =>
    (zaI h8 a1 (0)).bind fun w9 =>
    if (w9 : Int32) = 12 then
    zb2 (fX7_heaviest h8 (a1) ((-9))) fun w11 h12 =>
    if (w11 : Int32) = (-9) then
    some (3, h12)
    else
    (fX7_drop h12 (a1) (w11)).bind fun h14 =>
    zb2 (fX7_makeRoom h14 (a1) (a3) ((-9)) (1)) fun w15 h16 =>
    if (w15 : Int32) = 0 then
    some (3, h16)
    else
    (fX7_insert h16 (a1)).bind fun h18 =>
    (fX7_putForm h18 (a1) (0) (a2) (a3) (0) (1)).bind fun h19 =>
    (zaI h19 a1 (1)).bind fun w20 =>
    (zbI h19 a1 (50) (w20)).bind fun h21 =>
    (zbI h21 a1 (51) ((-9))).bind fun h22 =>
    some (0, h22)
    else
    zb2 (fX7_makeRoom h8 (a1) (a3) ((-9)) (1)) fun w23 h24 =>
    if (w23 : Int32) = 0 then
    some (3, h24)
    else
    (fX7_insert h24 (a1)).bind fun h26 =>
    (fX7_putForm h26 (a1) (0) (a2) (a3) (0) (1)).bind fun h27 =>
    (zaI h27 a1 (1)).bind fun w28 =>
    (zbI h27 a1 (50) (w28)).bind fun h29 =>
    (zbI h29 a1 (51) ((-9))).bind fun h30 =>
    some (0, h30)
    else none
theorem kfX7_copyOn {h : zH} {a0 : Nat} {a1 : Nat} {a2 : Int32} {a3 : Int32} {r : Int32 × zH} (hf : fX7_copyOn h a0 a1 a2 a3 = some r) : zkd h a0 = 8 := by
  unfold fX7_copyOn at hf
  exact (zck hf).1
def fX7_offerOn (h : zH) (a0 : Nat) (a1 : Nat) (a2 : Int32) (a3 : Int32) : Option (Int32 × zH) :=
    if zkd h a0 = 8 then
    zb2 (fX7_isFormat h (a0) (a2)) fun w1 h2 =>
    if (w1 : Int32) = 0 then
    some (1, h2)
    else
    zb2 (fX7_in h2 ((a3 : Int32).toInt64) (1) (9999)) fun w4 h5 =>
    if (w4 : Int32) = 0 then
    some (2, h5)
    else
    (zaI h5 a1 (0)).bind fun w7 =>
    if (w7 : Int32) = 0 then
    some (3, h5)
    else
    (zaI h5 a1 (((40 : Int32) + a2))).bind fun w9 =>
    if (w9 : Int32) = 1 then
    some (3, h5)
    else
    (zaI h5 a1 (1)).bind fun w11 =>
    (zbI h5 a1 (1) (((w11 : Int32) + 1))).bind fun h12 =>
    (fX7_dropForm h12 (a1) (0) (a2)).bind fun h13 =>
    zb2 (fX7_makeRoom h13 (a1) (a3) (0) (1)) fun w14 h15 =>
    if (w14 : Int32) = 0 then
    some (3, h15)
    else
    (fX7_putForm h15 (a1) (0) (a2) (a3) (0) (1)).bind fun h17 =>
    some (0, h17)
    else none
theorem kfX7_offerOn {h : zH} {a0 : Nat} {a1 : Nat} {a2 : Int32} {a3 : Int32} {r : Int32 × zH} (hf : fX7_offerOn h a0 a1 a2 a3 = some r) : zkd h a0 = 8 := by
  unfold fX7_offerOn at hf
  exact (zck hf).1
def fX7_layTable_L2 (k : zH → Int32 → Option (zH)) (u0 : Nat) (u1 : Nat) (u2 : Int32) : Nat → zH → Int32 → Option (zH)
  | 0, _, _ => none
  | n + 1, h, v3 => if (64 : Int32) ≤ v3 then
    k h (v3)
    else
    (zgP h 7 u0 32).bind fun w2 =>
    (zbI h w2 (v3) (1000000)).bind fun h3 =>
    fX7_layTable_L2 k u0 u1 u2 n h3 ((v3 + 1))
def fX7_layTable_L25 (k : zH → Int32 → Option (zH)) (u0 : Nat) (u1 : Nat) (u2 : Int32) : Nat → zH → Int32 → Option (zH)
  | 0, _, _ => none
  | n + 1, h, v3 => (zgI h 7 u0 5).bind fun w1 =>
    if (w1 : Int32) ≤ v3 then
    k h (v3)
    else
    (zgP h 7 u0 32).bind fun w3 =>
    (zgP h 7 u0 7).bind fun w4 =>
    (zaI h w4 (v3)).bind fun w5 =>
    (zgP h 7 u0 8).bind fun w6 =>
    (zaI h w6 (v3)).bind fun w7 =>
    if (v3 : Int32) = u2 then
    (zbI h w3 (((((8 : Int32) * w5) : Int32) + w7)) (1000000)).bind fun h9 =>
    fX7_layTable_L25 k u0 u1 u2 n h9 ((v3 + 1))
    else
    (zaI h u1 (((4 : Int32) + v3))).bind fun w10 =>
    (zbI h w3 (((((8 : Int32) * w5) : Int32) + w7)) (((((16 : Int32) * w10) : Int32) + 1))).bind fun h11 =>
    fX7_layTable_L25 k u0 u1 u2 n h11 ((v3 + 1))
def fX7_layTable_L83 (k : zH → Int32 → Option (zH)) (u0 : Nat) (u1 : Nat) (u2 : Int32) : Nat → zH → Int32 → Option (zH)
  | 0, _, _ => none
  | n + 1, h, v3 => if (64 : Int32) ≤ v3 then
    k h (v3)
    else
    (zgP h 7 u0 31).bind fun w2 =>
    if (((v3 : Int32) - v3 / 8 * 8) : Int32) = ((v3 : Int32) / 8) then
    (zbI h w2 (v3) (0)).bind fun h4 =>
    fX7_layTable_L83 k u0 u1 u2 n h4 ((v3 + 1))
    else
    (zgP h 7 u0 32).bind fun w5 =>
    (zaI h w5 (v3)).bind fun w6 =>
    (zbI h w2 (v3) (w6)).bind fun h7 =>
    fX7_layTable_L83 k u0 u1 u2 n h7 ((v3 + 1))
def fX7_layTable_L147 (k : zH → Int32 → Option (zH)) (u0 : Nat) (u1 : Nat) (u2 : Int32) (u3 : Int32) (u4 : Int32) : Nat → zH → Int32 → Option (zH)
  | 0, _, _ => none
  | n + 1, h, v5 => (zgI h 7 u0 4).bind fun w1 =>
    if (w1 : Int32) ≤ v5 then
    k h (v5)
    else
    (zgP h 7 u0 31).bind fun w3 =>
    (zaI h w3 (((((8 : Int32) * u4) : Int32) + u3))).bind fun w4 =>
    (zgP h 7 u0 31).bind fun w5 =>
    (zaI h w5 (((((8 : Int32) * u3) : Int32) + v5))).bind fun w6 =>
    (zgP h 7 u0 31).bind fun w7 =>
    (zgP h 7 u0 31).bind fun w8 =>
    (zaI h w8 (((((8 : Int32) * u4) : Int32) + v5))).bind fun w9 =>
    if (w9 : Int32) ≤ ((w4 : Int32) + w6) then
    (zgP h 7 u0 31).bind fun w11 =>
    (zaI h w11 (((((8 : Int32) * u4) : Int32) + v5))).bind fun w12 =>
    (zbI h w7 (((((8 : Int32) * u4) : Int32) + v5)) (w12)).bind fun h13 =>
    fX7_layTable_L147 k u0 u1 u2 u3 u4 n h13 ((v5 + 1))
    else
    (zbI h w7 (((((8 : Int32) * u4) : Int32) + v5)) (((w4 : Int32) + w6))).bind fun h14 =>
    fX7_layTable_L147 k u0 u1 u2 u3 u4 n h14 ((v5 + 1))
def fX7_layTable_L135 (k : zH → Int32 → Option (zH)) (u0 : Nat) (u1 : Nat) (u2 : Int32) (u3 : Int32) : Nat → zH → Int32 → Option (zH)
  | 0, _, _ => none
  | n + 1, h, v4 => (zgI h 7 u0 4).bind fun w1 =>
    if (w1 : Int32) ≤ v4 then
    k h (v4)
    else
    fX7_layTable_L147 (fun h3 y4 =>
    fX7_layTable_L135 k u0 u1 u2 u3 n h3 ((v4 + 1))) (u0) (u1) (u2) (u3) (v4) zF h (0)
def fX7_layTable_L124 (k : zH → Int32 → Option (zH)) (u0 : Nat) (u1 : Nat) (u2 : Int32) : Nat → zH → Int32 → Option (zH)
  | 0, _, _ => none
  | n + 1, h, v3 => (zgI h 7 u0 4).bind fun w1 =>
    if (w1 : Int32) ≤ v3 then
    k h (v3)
    else
    fX7_layTable_L135 (fun h3 y4 =>
    fX7_layTable_L124 k u0 u1 u2 n h3 ((v3 + 1))) (u0) (u1) (u2) (v3) zF h (0)
def fX7_layTable (h : zH) (a0 : Nat) (a1 : Nat) (a2 : Int32) : Option (zH) :=
    if zkd h a0 = 8 then
    fX7_layTable_L2 (fun h1 y2 =>
    fX7_layTable_L25 (fun h3 y4 =>
    fX7_layTable_L83 (fun h5 y6 =>
    fX7_layTable_L124 (fun h7 y8 =>
    some h7) (a0) (a1) (a2) zF h5 (0)) (a0) (a1) (a2) zF h3 (0)) (a0) (a1) (a2) zF h1 (0)) (a0) (a1) (a2) zF h (0)
    else none
theorem kfX7_layTable {h : zH} {a0 : Nat} {a1 : Nat} {a2 : Int32} {r : zH} (hf : fX7_layTable h a0 a1 a2 = some r) : zkd h a0 = 8 := by
  unfold fX7_layTable at hf
  exact (zck hf).1
def fX7_costOf (h : zH) (a0 : Nat) (a1 : Int32) (a2 : Int32) : Option (Int32 × zH) :=
    if zkd h a0 = 8 then
    (zgP h 7 a0 31).bind fun w1 =>
    (zaI h w1 (((((8 : Int32) * a1) : Int32) + a2))).bind fun w2 =>
    some (w2, h)
    else none
theorem kfX7_costOf {h : zH} {a0 : Nat} {a1 : Int32} {a2 : Int32} {r : Int32 × zH} (hf : fX7_costOf h a0 a1 a2 = some r) : zkd h a0 = 8 := by
  unfold fX7_costOf at hf
  exact (zck hf).1
def fX7_nextOn_L2 (k : zH → Int32 → Option (Int32 × zH)) (u0 : Nat) (u1 : Int32) (u2 : Int32) : Nat → zH → Int32 → Option (Int32 × zH)
  | 0, _, _ => none
  | n + 1, h, v3 => (zgI h 7 u0 4).bind fun w1 =>
    if (w1 : Int32) ≤ v3 then
    k h (v3)
    else
    if (v3 : Int32) = u1 then
    fX7_nextOn_L2 k u0 u1 u2 n h ((v3 + 1))
    else
    (zgP h 7 u0 32).bind fun w4 =>
    (zaI h w4 (((((8 : Int32) * u1) : Int32) + v3))).bind fun w5 =>
    if (1000000 : Int32) ≤ w5 then
    fX7_nextOn_L2 k u0 u1 u2 n h ((v3 + 1))
    else
    (zgP h 7 u0 32).bind fun w7 =>
    (zaI h w7 (((((8 : Int32) * u1) : Int32) + v3))).bind fun w8 =>
    zb2 (fX7_costOf h (u0) (v3) (u2)) fun w9 h10 =>
    zb2 (fX7_costOf h10 (u0) (u1) (u2)) fun w11 h12 =>
    if (((w8 : Int32) + w9) : Int32) = w11 then
    some (v3, h12)
    else
    fX7_nextOn_L2 k u0 u1 u2 n h12 ((v3 + 1))
def fX7_nextOn (h : zH) (a0 : Nat) (a1 : Int32) (a2 : Int32) : Option (Int32 × zH) :=
    if zkd h a0 = 8 then
    fX7_nextOn_L2 (fun h1 y2 =>
    some ((-9), h1)) (a0) (a1) (a2) zF h (0)
    else none
theorem kfX7_nextOn {h : zH} {a0 : Nat} {a1 : Int32} {a2 : Int32} {r : Int32 × zH} (hf : fX7_nextOn h a0 a1 a2 = some r) : zkd h a0 = 8 := by
  unfold fX7_nextOn at hf
  exact (zck hf).1
def fX7_conversionOf_L6 (k : zH → Int32 → Int32 → Option (Int32 × zH)) (u0 : Nat) (u1 : Int32) (u2 : Int32) : Nat → zH → Int32 → Int32 → Option (Int32 × zH)
  | 0, _, _, _ => none
  | n + 1, h, v3, v4 => (zgI h 7 u0 5).bind fun w1 =>
    if (w1 : Int32) ≤ v4 then
    k h (v3) (v4)
    else
    (zgP h 7 u0 7).bind fun w3 =>
    (zaI h w3 (v4)).bind fun w4 =>
    if (w4 : Int32) = u1 then
    (zgP h 7 u0 8).bind fun w6 =>
    (zaI h w6 (v4)).bind fun w7 =>
    if (w7 : Int32) = u2 then
    fX7_conversionOf_L6 k u0 u1 u2 n h (v4) ((v4 + 1))
    else
    fX7_conversionOf_L6 k u0 u1 u2 n h (v3) ((v4 + 1))
    else
    fX7_conversionOf_L6 k u0 u1 u2 n h (v3) ((v4 + 1))
def fX7_conversionOf (h : zH) (a0 : Nat) (a1 : Int32) (a2 : Int32) : Option (Int32 × zH) :=
    if zkd h a0 = 8 then
    fX7_conversionOf_L6 (fun h1 y2 y3 =>
    some (y2, h1)) (a0) (a1) (a2) zF h ((-9)) (0)
    else none
theorem kfX7_conversionOf {h : zH} {a0 : Nat} {a1 : Int32} {a2 : Int32} {r : Int32 × zH} (hf : fX7_conversionOf h a0 a1 a2 = some r) : zkd h a0 = 8 := by
  unfold fX7_conversionOf at hf
  exact (zck hf).1
def fX7_sizeOn_L6 (k : zH → Int32 → Int32 → Option (Int32 × zH)) (u0 : Nat) (u1 : Int32) (u2 : Int32) (u3 : Int32) : Nat → zH → Int32 → Int32 → Option (Int32 × zH)
  | 0, _, _, _ => none
  | n + 1, h, v4, v5 => if (v5 : Int32) = u2 then
    k h (v4) (v5)
    else
    zb2 (fX7_nextOn h (u0) (v5) (u2)) fun w2 h3 =>
    (zgP h3 7 u0 9).bind fun w4 =>
    zb2 (fX7_conversionOf h3 (u0) (v5) (w2)) fun w5 h6 =>
    (zaI h6 w4 (w5)).bind fun w7 =>
    if (((((((v4 : Int32) * w7) : Int32) + 9) : Int32) / 10) : Int32) ≤ 99999 then
    fX7_sizeOn_L6 k u0 u1 u2 u3 n h6 (((((((v4 : Int32) * w7) : Int32) + 9) : Int32) / 10)) (w2)
    else
    fX7_sizeOn_L6 k u0 u1 u2 u3 n h6 (99999) (w2)
def fX7_sizeOn (h : zH) (a0 : Nat) (a1 : Int32) (a2 : Int32) (a3 : Int32) : Option (Int32 × zH) :=
    if zkd h a0 = 8 then
    fX7_sizeOn_L6 (fun h1 y2 y3 =>
    some (y2, h1)) (a0) (a1) (a2) (a3) zF h (a3) (a1)
    else none
theorem kfX7_sizeOn {h : zH} {a0 : Nat} {a1 : Int32} {a2 : Int32} {a3 : Int32} {r : Int32 × zH} (hf : fX7_sizeOn h a0 a1 a2 a3 = some r) : zkd h a0 = 8 := by
  unfold fX7_sizeOn at hf
  exact (zck hf).1
def fX7_lossOn_L5 (k : zH → Int32 → Int32 → Option (Int32 × zH)) (u0 : Nat) (u1 : Int32) (u2 : Int32) : Nat → zH → Int32 → Int32 → Option (Int32 × zH)
  | 0, _, _, _ => none
  | n + 1, h, v3, v4 => if (v4 : Int32) = u2 then
    k h (v3) (v4)
    else
    zb2 (fX7_nextOn h (u0) (v4) (u2)) fun w2 h3 =>
    (zgP h3 7 u0 10).bind fun w4 =>
    zb2 (fX7_conversionOf h3 (u0) (v4) (w2)) fun w5 h6 =>
    (zaI h6 w4 (w5)).bind fun w7 =>
    fX7_lossOn_L5 k u0 u1 u2 n h6 (((v3 : Int32) + w7)) (w2)
def fX7_lossOn (h : zH) (a0 : Nat) (a1 : Int32) (a2 : Int32) : Option (Int32 × zH) :=
    if zkd h a0 = 8 then
    fX7_lossOn_L5 (fun h1 y2 y3 =>
    some (y2, h1)) (a0) (a1) (a2) zF h (0) (a1)
    else none
theorem kfX7_lossOn {h : zH} {a0 : Nat} {a1 : Int32} {a2 : Int32} {r : Int32 × zH} (hf : fX7_lossOn h a0 a1 a2 = some r) : zkd h a0 = 8 := by
  unfold fX7_lossOn at hf
  exact (zck hf).1
def fX7_findWay_L27 (k : zH → Int32 → Int32 → Option (Int32 × zH)) (u0 : Nat) (u1 : Nat) (u2 : Int32) (u3 : Int32) (u5 : Int32) : Nat → zH → Int32 → Int32 → Option (Int32 × zH)
  | 0, _, _, _ => none
  | n + 1, h, v4, v6 => (zgI h 7 u0 4).bind fun w1 =>
    if (w1 : Int32) ≤ v6 then
    k h (v4) (v6)
    else
    (zgP h 7 u0 11).bind fun w3 =>
    (zaI h w3 (u3)).bind fun w4 =>
    if (((((w4 : Int32) >>> (u5 &&& 31)) : Int32) &&& 1) : Int32) = 1 then
    zb2 (fX7_at h (u2)) fun w6 h7 =>
    (zaI h7 u1 (((((w6 : Int32) + 16) : Int32) + v6))).bind fun w8 =>
    if (w8 : Int32) ≤ 0 then
    fX7_findWay_L27 k u0 u1 u2 u3 u5 n h7 (v4) ((v6 + 1))
    else
    (zgP h7 7 u0 31).bind fun w10 =>
    (zaI h7 w10 (((((8 : Int32) * v6) : Int32) + u5))).bind fun w11 =>
    if (v4 : Int32) ≤ w11 then
    fX7_findWay_L27 k u0 u1 u2 u3 u5 n h7 (v4) ((v6 + 1))
    else
    zb2 (fX7_at h7 (u2)) fun w13 h14 =>
    (zaI h14 u1 (((((w13 : Int32) + 0) : Int32) + v6))).bind fun w15 =>
    zb2 (fX7_sizeOn h14 (u0) (v6) (u5) (w15)) fun w16 h17 =>
    (zgP h17 7 u0 12).bind fun w18 =>
    (zaI h17 w18 (u3)).bind fun w19 =>
    if (w19 : Int32) < w16 then
    fX7_findWay_L27 k u0 u1 u2 u3 u5 n h17 (v4) ((v6 + 1))
    else
    (zgP h17 7 u0 31).bind fun w21 =>
    (zaI h17 w21 (((((8 : Int32) * v6) : Int32) + u5))).bind fun w22 =>
    (zpI h17 7 u0 33 v6).bind fun h23 =>
    (zpI h23 7 u0 34 u5).bind fun h24 =>
    fX7_findWay_L27 k u0 u1 u2 u3 u5 n h24 (w22) ((v6 + 1))
    else
    fX7_findWay_L27 k u0 u1 u2 u3 u5 n h (v4) ((v6 + 1))
def fX7_findWay_L15 (k : zH → Int32 → Int32 → Option (Int32 × zH)) (u0 : Nat) (u1 : Nat) (u2 : Int32) (u3 : Int32) : Nat → zH → Int32 → Int32 → Option (Int32 × zH)
  | 0, _, _, _ => none
  | n + 1, h, v4, v5 => (zgI h 7 u0 4).bind fun w1 =>
    if (w1 : Int32) ≤ v5 then
    k h (v4) (v5)
    else
    fX7_findWay_L27 (fun h3 y4 y5 =>
    fX7_findWay_L15 k u0 u1 u2 u3 n h3 (y4) ((v5 + 1))) (u0) (u1) (u2) (u3) (v5) zF h (v4) (0)
def fX7_findWay (h : zH) (a0 : Nat) (a1 : Nat) (a2 : Int32) (a3 : Int32) : Option (Int32 × zH) :=
    if zkd h a0 = 8 then
    (fX7_layTable h (a0) (a1) ((-9))).bind fun h1 =>
    fX7_findWay_L15 (fun h2 y3 y4 =>
    if (y3 : Int32) = 1000000 then
    some (0, h2)
    else
    (zpI h2 7 a0 35 ((y3 : Int32) / 16)).bind fun h6 =>
    (zgI h6 7 a0 33).bind fun w7 =>
    (zgI h6 7 a0 34).bind fun w8 =>
    zb2 (fX7_at h6 (a2)) fun w9 h10 =>
    (zgI h10 7 a0 33).bind fun w11 =>
    (zaI h10 a1 (((((w9 : Int32) + 0) : Int32) + w11))).bind fun w12 =>
    zb2 (fX7_sizeOn h10 (a0) (w7) (w8) (w12)) fun w13 h14 =>
    (zpI h14 7 a0 36 w13).bind fun h15 =>
    zb2 (fX7_at h15 (a2)) fun w16 h17 =>
    (zgI h17 7 a0 33).bind fun w18 =>
    (zaI h17 a1 (((((w16 : Int32) + 8) : Int32) + w18))).bind fun w19 =>
    (zgI h17 7 a0 33).bind fun w20 =>
    (zgI h17 7 a0 34).bind fun w21 =>
    zb2 (fX7_lossOn h17 (a0) (w20) (w21)) fun w22 h23 =>
    (zpI h23 7 a0 37 ((w19 : Int32) + w22)).bind fun h24 =>
    some (1, h24)) (a0) (a1) (a2) (a3) zF h1 (1000000) (0)
    else none
theorem kfX7_findWay {h : zH} {a0 : Nat} {a1 : Nat} {a2 : Int32} {a3 : Int32} {r : Int32 × zH} (hf : fX7_findWay h a0 a1 a2 a3 = some r) : zkd h a0 = 8 := by
  unfold fX7_findWay at hf
  exact (zck hf).1
def fX7_pasteOn_L168 (k : zH → Int32 → Option (Int32 × zH)) (u0 : Nat) (u1 : Nat) (u2 : Int32) (u3 : Int32) (u4 : Int32) : Nat → zH → Int32 → Option (Int32 × zH)
  | 0, _, _ => none
  | n + 1, h, v5 => if (v5 : Int32) < 24 then
    k h (v5)
    else
    (zaI h u1 (v5)).bind fun w2 =>
    (zbI h u1 (((v5 : Int32) + 28)) (w2)).bind fun h3 =>
    fX7_pasteOn_L168 k u0 u1 u2 u3 u4 n h3 ((v5 + (-1)))
def fX7_pasteOn (h : zH) (a0 : Nat) (a1 : Nat) (a2 : Int32) (a3 : Int32) : Option (Int32 × zH) :=
    if zkd h a0 = 8 then
    zb2 (fX7_isEntry h (a1) (a2)) fun w1 h2 =>
    if (w1 : Int32) = 0 then
    some (1, h2)
    else
    zb2 (fX7_isPlace h2 (a0) (a3)) fun w4 h5 =>
    if (w4 : Int32) = 0 then
    some (1, h5)
    else
    zb2 (fX7_findWay h5 (a0) (a1) (a2) (a3)) fun w7 h8 =>
    if (w7 : Int32) = 0 then
    some (2, h8)
    else
    zb2 (fX7_at h8 (a2)) fun w10 h11 =>
    (zaI h11 a1 (1)).bind fun w12 =>
    (zbI h11 a1 (1) (((w12 : Int32) + 1))).bind fun h13 =>
    (zaI h13 a1 (2)).bind fun w14 =>
    (zgI h13 7 a0 35).bind fun w15 =>
    (zbI h13 a1 (2) (((w14 : Int32) + w15))).bind fun h16 =>
    (zaI h16 a1 (((w10 : Int32) + 25))).bind fun w17 =>
    (zbI h16 a1 (((w10 : Int32) + 25)) (((w17 : Int32) + 1))).bind fun h18 =>
    (zaI h18 a1 (1)).bind fun w19 =>
    (zbI h18 a1 (((w10 : Int32) + 26)) (w19)).bind fun h20 =>
    (zgI h20 7 a0 34).bind fun w21 =>
    (zaI h20 a1 (((((w10 : Int32) + 16) : Int32) + w21))).bind fun w22 =>
    if (w22 : Int32) = 0 then
    (zgP h20 7 a0 26).bind fun w24 =>
    (fX7_copyRow h20 (a1) (0) (w24) (0) (360)).bind fun h25 =>
    (zgP h25 7 a0 26).bind fun w26 =>
    (zgI h25 7 a0 36).bind fun w27 =>
    zb2 (fX7_makeRoom h25 (w26) (w27) (a2) (0)) fun w28 h29 =>
    if (w28 : Int32) = 0 then
    (zgP h29 7 a0 26).bind fun w31 =>
    (fX7_copyRow h29 (a1) (w10) (w31) (0) (28)).bind fun h32 =>
    fX7_pasteOn_L168 (fun h33 y34 =>
    (zgP h33 7 a0 26).bind fun w35 =>
    (fX7_copyRow h33 (w35) (0) (a1) (24) (28)).bind fun h36 =>
    some (0, h36)) (a0) (a1) (a2) (a3) (w10) zF h32 (((w10 : Int32) - 1))
    else
    (zgP h29 7 a0 26).bind fun w37 =>
    (fX7_copyRow h29 (w37) (0) (a1) (0) (360)).bind fun h38 =>
    (zgI h38 7 a0 34).bind fun w39 =>
    (zgI h38 7 a0 36).bind fun w40 =>
    (zgI h38 7 a0 37).bind fun w41 =>
    (fX7_putForm h38 (a1) (a2) (w39) (w40) (w41) (2)).bind fun h42 =>
    (zgP h42 7 a0 26).bind fun w43 =>
    (fX7_copyRow h42 (a1) (w10) (w43) (0) (28)).bind fun h44 =>
    fX7_pasteOn_L168 (fun h45 y46 =>
    (zgP h45 7 a0 26).bind fun w47 =>
    (fX7_copyRow h45 (w47) (0) (a1) (24) (28)).bind fun h48 =>
    some (0, h48)) (a0) (a1) (a2) (a3) (w10) zF h44 (((w10 : Int32) - 1))
    else
    (zgP h20 7 a0 26).bind fun w49 =>
    (fX7_copyRow h20 (a1) (w10) (w49) (0) (28)).bind fun h50 =>
    fX7_pasteOn_L168 (fun h51 y52 =>
    (zgP h51 7 a0 26).bind fun w53 =>
    (fX7_copyRow h51 (w53) (0) (a1) (24) (28)).bind fun h54 =>
    some (0, h54)) (a0) (a1) (a2) (a3) (w10) zF h50 (((w10 : Int32) - 1))
    else none
theorem kfX7_pasteOn {h : zH} {a0 : Nat} {a1 : Nat} {a2 : Int32} {a3 : Int32} {r : Int32 × zH} (hf : fX7_pasteOn h a0 a1 a2 a3 = some r) : zkd h a0 = 8 := by
  unfold fX7_pasteOn at hf
  exact (zck hf).1
def fX7_copy (h : zH) (a0 : Nat) (a1 : Int32) (a2 : Int32) : Option (Int32 × zH) :=
    if zkd h a0 = 8 then
    (fX7_tryNow h (a0)).bind fun h1 =>
    (zgP h1 7 a0 25).bind fun w2 =>
    zb2 (fX7_copyOn h1 (a0) (w2) (a1) (a2)) fun w3 h4 =>
    zb2 (fX7_refused h4 (a0) (w3)) fun w5 h6 =>
    if (w5 : Int32) = 0 then
    (fX7_accept h6 (a0)).bind fun h8 =>
    (zgP h8 7 a0 24).bind fun w9 =>
    zb2 (fX7_used h8 (w9)) fun w10 h11 =>
    some (w10, h11)
    else
    some (0, h6)
    else none
theorem kfX7_copy {h : zH} {a0 : Nat} {a1 : Int32} {a2 : Int32} {r : Int32 × zH} (hf : fX7_copy h a0 a1 a2 = some r) : zkd h a0 = 8 := by
  unfold fX7_copy at hf
  exact (zck hf).1
def fX7_offer (h : zH) (a0 : Nat) (a1 : Int32) (a2 : Int32) : Option (Int32 × zH) :=
    if zkd h a0 = 8 then
    (fX7_tryNow h (a0)).bind fun h1 =>
    (zgP h1 7 a0 25).bind fun w2 =>
    zb2 (fX7_offerOn h1 (a0) (w2) (a1) (a2)) fun w3 h4 =>
    zb2 (fX7_refused h4 (a0) (w3)) fun w5 h6 =>
    if (w5 : Int32) = 0 then
    (fX7_accept h6 (a0)).bind fun h8 =>
    (zgP h8 7 a0 24).bind fun w9 =>
    zb2 (fX7_used h8 (w9)) fun w10 h11 =>
    some (w10, h11)
    else
    some (0, h6)
    else none
theorem kfX7_offer {h : zH} {a0 : Nat} {a1 : Int32} {a2 : Int32} {r : Int32 × zH} (hf : fX7_offer h a0 a1 a2 = some r) : zkd h a0 = 8 := by
  unfold fX7_offer at hf
  exact (zck hf).1
def fX7_paste (h : zH) (a0 : Nat) (a1 : Int32) (a2 : Int32) : Option (Int32 × zH) :=
    if zkd h a0 = 8 then
    (fX7_tryNow h (a0)).bind fun h1 =>
    (zgP h1 7 a0 25).bind fun w2 =>
    zb2 (fX7_pasteOn h1 (a0) (w2) (a1) (a2)) fun w3 h4 =>
    zb2 (fX7_refused h4 (a0) (w3)) fun w5 h6 =>
    if (w5 : Int32) = 0 then
    (fX7_accept h6 (a0)).bind fun h8 =>
    (zgI h8 7 a0 34).bind fun w9 =>
    some (w9, h8)
    else
    some (0, h6)
    else none
theorem kfX7_paste {h : zH} {a0 : Nat} {a1 : Int32} {a2 : Int32} {r : Int32 × zH} (hf : fX7_paste h a0 a1 a2 = some r) : zkd h a0 = 8 := by
  unfold fX7_paste at hf
  exact (zck hf).1
def fX7_togglePin (h : zH) (a0 : Nat) (a1 : Int32) : Option (Int32 × zH) :=
    if zkd h a0 = 8 then
    (zgP h 7 a0 24).bind fun w1 =>
    zb2 (fX7_isEntry h (w1) (a1)) fun w2 h3 =>
    if (w2 : Int32) = 0 then
    zb2 (fX7_refused h3 (a0) (1)) fun w5 h6 =>
    if (w5 : Int32) = 0 then
    (fX7_note h6 (a0)).bind fun h8 =>
    (zgP h8 7 a0 24).bind fun w9 =>
    zb2 (fX7_at h8 (a1)) fun w10 h11 =>
    (zgP h11 7 a0 24).bind fun w12 =>
    zb2 (fX7_at h11 (a1)) fun w13 h14 =>
    (zaI h14 w12 (((w13 : Int32) + 24))).bind fun w15 =>
    (zbI h14 w9 (((w10 : Int32) + 24)) (((1 : Int32) - w15))).bind fun h16 =>
    (zgP h16 7 a0 24).bind fun w17 =>
    zb2 (fX7_pinnedIn h16 (a0) (w17)) fun w18 h19 =>
    some (w18, h19)
    else
    some (0, h6)
    else
    zb2 (fX7_refused h3 (a0) (0)) fun w20 h21 =>
    if (w20 : Int32) = 0 then
    (fX7_note h21 (a0)).bind fun h23 =>
    (zgP h23 7 a0 24).bind fun w24 =>
    zb2 (fX7_at h23 (a1)) fun w25 h26 =>
    (zgP h26 7 a0 24).bind fun w27 =>
    zb2 (fX7_at h26 (a1)) fun w28 h29 =>
    (zaI h29 w27 (((w28 : Int32) + 24))).bind fun w30 =>
    (zbI h29 w24 (((w25 : Int32) + 24)) (((1 : Int32) - w30))).bind fun h31 =>
    (zgP h31 7 a0 24).bind fun w32 =>
    zb2 (fX7_pinnedIn h31 (a0) (w32)) fun w33 h34 =>
    some (w33, h34)
    else
    some (0, h21)
    else none
theorem kfX7_togglePin {h : zH} {a0 : Nat} {a1 : Int32} {r : Int32 × zH} (hf : fX7_togglePin h a0 a1 = some r) : zkd h a0 = 8 := by
  unfold fX7_togglePin at hf
  exact (zck hf).1
abbrev rm_X7_conversion : Room := { frames := 2, cells := 0, slots := 0, locals := 46 }
set_option maxRecDepth 100000 in
set_option maxHeartbeats 4000000 in
theorem tX7_conversion {l : Launch} {G : zG} (hst : l.stackTraces = false) {h : zH} {a0 : Nat} {a1 : Int32} {a2 : Int32} {r : Int32 × zH} (hf : fX7_conversion h a0 a1 a2 = some r) : zMet l G yX7_conversion (.code yX7_conversion cX7_conversion 3 (some .int)) rm_X7_conversion 0 0 [.ref a0, .int a1, .int a2] h (zoi r) := by
  unfold fX7_conversion at hf
  obtain ⟨-, hf⟩ := zck hf
  refine z_enter (by decide) (Nat.le_of_ble_eq_true rfl) hst (fun x hx B hE => ?_)
  subst hx
  have B : zB G x cX7_conversion 3 RX7 "conversion" rm_X7_conversion (some .int) := B
  show zV G x 3 (zQ G x (zoi r) 0 0) h 0 0 0 [(0, .ref a0), (1, .int a1), (2, .int a2)] []
  refine z_aload_n B dX7_conversion_0 rfl 0 rfl ?_
  refine z_aload_n B dX7_conversion_1 rfl 0 rfl ?_
  refine z_iload_n B dX7_conversion_2 rfl 1 rfl ?_
  obtain ⟨w1, h2, ew1, hf⟩ := zb2s hf
  refine z_callVi B [.int a1] [.ref a0] cw_X7_isConversion mv_RX7_196 (tX7_isConversion hst ew1) rfl (by decide) (kfX7_isConversion ew1) ⟨rfl, rfl, (Nat.le_of_ble_eq_true rfl), (Nat.le_of_ble_eq_true rfl), (Nat.le_of_ble_eq_true rfl), (Nat.le_of_ble_eq_true rfl)⟩ rfl rfl (Nat.le_of_ble_eq_true rfl) dX7_conversion_3 ?_
  rcases zite hf with ⟨c3, hf⟩ | ⟨c3, hf⟩
  · refine z_if_ne B 13 dX7_conversion_6 (by decide) (fun e => absurd c3 e) (fun _ => ?_)
    refine z_iconst (v := 1) B dX7_conversion_9 (by decide) ?_
    refine z_goto B 30 dX7_conversion_10 (by decide) ?_
    obtain ⟨w4, h5, ew4, hf⟩ := zb2s hf
    refine z_callVi B [.int 1] [] cw_X7_refused mv_RX7_112 (tX7_refused hst ew4) rfl (by decide) (kfX7_refused ew4) ⟨rfl, rfl, (Nat.le_of_ble_eq_true rfl), (Nat.le_of_ble_eq_true rfl), (Nat.le_of_ble_eq_true rfl), (Nat.le_of_ble_eq_true rfl)⟩ rfl rfl (Nat.le_of_ble_eq_true rfl) dX7_conversion_30 ?_
    rcases zite hf with ⟨c6, hf⟩ | ⟨c6, hf⟩
    · refine z_if_eq B 38 dX7_conversion_33 (by decide) (fun _ => ?_) (fun e => absurd c6 e)
      refine z_iload_n B dX7_conversion_38 rfl 2 rfl ?_
      rcases zite hf with ⟨c7, hf⟩ | ⟨c7, hf⟩
      · refine z_if_ne B 51 dX7_conversion_39 (by decide) (fun e => absurd c7 e) (fun _ => ?_)
        refine z_aload_n B dX7_conversion_42 rfl 0 rfl ?_
        obtain ⟨w8, ew8, hf⟩ := zbs hf
        refine z_gP B fl_RX7_17 ew8 rfl dX7_conversion_43 ?_
        refine z_iload_n B dX7_conversion_46 rfl 1 rfl ?_
        obtain ⟨w9, ew9, hf⟩ := zbs hf
        refine z_aI B ew9 dX7_conversion_47 ?_
        refine z_goto B 101 dX7_conversion_48 (by decide) ?_
        cases hf
        exact z_iret B dX7_conversion_101 (Nat.le_of_ble_eq_true rfl) (Nat.le_of_ble_eq_true rfl)
      refine z_if_ne B 51 dX7_conversion_39 (by decide) (fun _ => ?_) (fun e => absurd e c7)
      refine z_iload_n B dX7_conversion_51 rfl 2 rfl ?_
      refine z_iconst (v := 1) B dX7_conversion_52 (by decide) ?_
      rcases zite hf with ⟨c10, hf⟩ | ⟨c10, hf⟩
      · refine z_icmp_ne B 65 dX7_conversion_53 (by decide) (fun e => absurd c10 e) (fun _ => ?_)
        refine z_aload_n B dX7_conversion_56 rfl 0 rfl ?_
        obtain ⟨w11, ew11, hf⟩ := zbs hf
        refine z_gP B fl_RX7_20 ew11 rfl dX7_conversion_57 ?_
        refine z_iload_n B dX7_conversion_60 rfl 1 rfl ?_
        obtain ⟨w12, ew12, hf⟩ := zbs hf
        refine z_aI B ew12 dX7_conversion_61 ?_
        refine z_goto B 101 dX7_conversion_62 (by decide) ?_
        cases hf
        exact z_iret B dX7_conversion_101 (Nat.le_of_ble_eq_true rfl) (Nat.le_of_ble_eq_true rfl)
      refine z_icmp_ne B 65 dX7_conversion_53 (by decide) (fun _ => ?_) (fun e => absurd e c10)
      refine z_iload_n B dX7_conversion_65 rfl 2 rfl ?_
      refine z_iconst (v := 2) B dX7_conversion_66 (by decide) ?_
      rcases zite hf with ⟨c13, hf⟩ | ⟨c13, hf⟩
      · refine z_icmp_ne B 81 dX7_conversion_67 (by decide) (fun e => absurd c13 e) (fun _ => ?_)
        refine z_aload_n B dX7_conversion_70 rfl 0 rfl ?_
        obtain ⟨w14, ew14, hf⟩ := zbs hf
        refine z_gP B fl_RX7_56 ew14 rfl dX7_conversion_71 ?_
        refine z_iconst (v := 4) B dX7_conversion_74 (by decide) ?_
        refine z_iload_n B dX7_conversion_75 rfl 1 rfl ?_
        refine z_iadd B dX7_conversion_76 ?_
        obtain ⟨w15, ew15, hf⟩ := zbs hf
        refine z_aI B ew15 dX7_conversion_77 ?_
        refine z_goto B 101 dX7_conversion_78 (by decide) ?_
        cases hf
        exact z_iret B dX7_conversion_101 (Nat.le_of_ble_eq_true rfl) (Nat.le_of_ble_eq_true rfl)
      refine z_icmp_ne B 81 dX7_conversion_67 (by decide) (fun _ => ?_) (fun e => absurd e c13)
      refine z_iload_n B dX7_conversion_81 rfl 2 rfl ?_
      refine z_iconst (v := 3) B dX7_conversion_82 (by decide) ?_
      rcases zite hf with ⟨c16, hf⟩ | ⟨c16, hf⟩
      · refine z_icmp_ne B 95 dX7_conversion_83 (by decide) (fun e => absurd c16 e) (fun _ => ?_)
        refine z_aload_n B dX7_conversion_86 rfl 0 rfl ?_
        obtain ⟨w17, ew17, hf⟩ := zbs hf
        refine z_gP B fl_RX7_23 ew17 rfl dX7_conversion_87 ?_
        refine z_iload_n B dX7_conversion_90 rfl 1 rfl ?_
        obtain ⟨w18, ew18, hf⟩ := zbs hf
        refine z_aI B ew18 dX7_conversion_91 ?_
        refine z_goto B 101 dX7_conversion_92 (by decide) ?_
        cases hf
        exact z_iret B dX7_conversion_101 (Nat.le_of_ble_eq_true rfl) (Nat.le_of_ble_eq_true rfl)
      refine z_icmp_ne B 95 dX7_conversion_83 (by decide) (fun _ => ?_) (fun e => absurd e c16)
      refine z_aload_n B dX7_conversion_95 rfl 0 rfl ?_
      obtain ⟨w19, ew19, hf⟩ := zbs hf
      refine z_gP B fl_RX7_26 ew19 rfl dX7_conversion_96 ?_
      refine z_iload_n B dX7_conversion_99 rfl 1 rfl ?_
      obtain ⟨w20, ew20, hf⟩ := zbs hf
      refine z_aI B ew20 dX7_conversion_100 ?_
      cases hf
      exact z_iret B dX7_conversion_101 (Nat.le_of_ble_eq_true rfl) (Nat.le_of_ble_eq_true rfl)
    refine z_if_eq B 38 dX7_conversion_33 (by decide) (fun e => absurd e c6) (fun _ => ?_)
    refine z_iconst (v := 0) B dX7_conversion_36 (by decide) ?_
    cases hf
    exact z_iret B dX7_conversion_37 (Nat.le_of_ble_eq_true rfl) (Nat.le_of_ble_eq_true rfl)
  refine z_if_ne B 13 dX7_conversion_6 (by decide) (fun _ => ?_) (fun e => absurd e c3)
  refine z_iload_n B dX7_conversion_13 rfl 2 rfl ?_
  refine z_i2l B dX7_conversion_14 ?_
  refine z_lconst (v := 0) B dX7_conversion_15 (by decide) ?_
  refine z_ldc2 B dX7_conversion_16 kl_RX7_199 ?_
  obtain ⟨w21, h22, ew21, hf⟩ := zb2s hf
  refine z_callSi B [.long (a2 : Int32).toInt64, .long 0, .long 4] [.ref a0] cw_X7_in mt_RX7_97 (tX7_in hst ew21) ⟨rfl, rfl, (Nat.le_of_ble_eq_true rfl), (Nat.le_of_ble_eq_true rfl), (Nat.le_of_ble_eq_true rfl), (Nat.le_of_ble_eq_true rfl)⟩ rfl rfl (Nat.le_of_ble_eq_true rfl) dX7_conversion_19 ?_
  rcases zite hf with ⟨c23, hf⟩ | ⟨c23, hf⟩
  · refine z_if_ne B 29 dX7_conversion_22 (by decide) (fun e => absurd c23 e) (fun _ => ?_)
    refine z_iconst (v := 2) B dX7_conversion_25 (by decide) ?_
    refine z_goto B 30 dX7_conversion_26 (by decide) ?_
    obtain ⟨w24, h25, ew24, hf⟩ := zb2s hf
    refine z_callVi B [.int 2] [] cw_X7_refused mv_RX7_112 (tX7_refused hst ew24) rfl (by decide) (kfX7_refused ew24) ⟨rfl, rfl, (Nat.le_of_ble_eq_true rfl), (Nat.le_of_ble_eq_true rfl), (Nat.le_of_ble_eq_true rfl), (Nat.le_of_ble_eq_true rfl)⟩ rfl rfl (Nat.le_of_ble_eq_true rfl) dX7_conversion_30 ?_
    rcases zite hf with ⟨c26, hf⟩ | ⟨c26, hf⟩
    · refine z_if_eq B 38 dX7_conversion_33 (by decide) (fun _ => ?_) (fun e => absurd c26 e)
      refine z_iload_n B dX7_conversion_38 rfl 2 rfl ?_
      rcases zite hf with ⟨c27, hf⟩ | ⟨c27, hf⟩
      · refine z_if_ne B 51 dX7_conversion_39 (by decide) (fun e => absurd c27 e) (fun _ => ?_)
        refine z_aload_n B dX7_conversion_42 rfl 0 rfl ?_
        obtain ⟨w28, ew28, hf⟩ := zbs hf
        refine z_gP B fl_RX7_17 ew28 rfl dX7_conversion_43 ?_
        refine z_iload_n B dX7_conversion_46 rfl 1 rfl ?_
        obtain ⟨w29, ew29, hf⟩ := zbs hf
        refine z_aI B ew29 dX7_conversion_47 ?_
        refine z_goto B 101 dX7_conversion_48 (by decide) ?_
        cases hf
        exact z_iret B dX7_conversion_101 (Nat.le_of_ble_eq_true rfl) (Nat.le_of_ble_eq_true rfl)
      refine z_if_ne B 51 dX7_conversion_39 (by decide) (fun _ => ?_) (fun e => absurd e c27)
      refine z_iload_n B dX7_conversion_51 rfl 2 rfl ?_
      refine z_iconst (v := 1) B dX7_conversion_52 (by decide) ?_
      rcases zite hf with ⟨c30, hf⟩ | ⟨c30, hf⟩
      · refine z_icmp_ne B 65 dX7_conversion_53 (by decide) (fun e => absurd c30 e) (fun _ => ?_)
        refine z_aload_n B dX7_conversion_56 rfl 0 rfl ?_
        obtain ⟨w31, ew31, hf⟩ := zbs hf
        refine z_gP B fl_RX7_20 ew31 rfl dX7_conversion_57 ?_
        refine z_iload_n B dX7_conversion_60 rfl 1 rfl ?_
        obtain ⟨w32, ew32, hf⟩ := zbs hf
        refine z_aI B ew32 dX7_conversion_61 ?_
        refine z_goto B 101 dX7_conversion_62 (by decide) ?_
        cases hf
        exact z_iret B dX7_conversion_101 (Nat.le_of_ble_eq_true rfl) (Nat.le_of_ble_eq_true rfl)
      refine z_icmp_ne B 65 dX7_conversion_53 (by decide) (fun _ => ?_) (fun e => absurd e c30)
      refine z_iload_n B dX7_conversion_65 rfl 2 rfl ?_
      refine z_iconst (v := 2) B dX7_conversion_66 (by decide) ?_
      rcases zite hf with ⟨c33, hf⟩ | ⟨c33, hf⟩
      · refine z_icmp_ne B 81 dX7_conversion_67 (by decide) (fun e => absurd c33 e) (fun _ => ?_)
        refine z_aload_n B dX7_conversion_70 rfl 0 rfl ?_
        obtain ⟨w34, ew34, hf⟩ := zbs hf
        refine z_gP B fl_RX7_56 ew34 rfl dX7_conversion_71 ?_
        refine z_iconst (v := 4) B dX7_conversion_74 (by decide) ?_
        refine z_iload_n B dX7_conversion_75 rfl 1 rfl ?_
        refine z_iadd B dX7_conversion_76 ?_
        obtain ⟨w35, ew35, hf⟩ := zbs hf
        refine z_aI B ew35 dX7_conversion_77 ?_
        refine z_goto B 101 dX7_conversion_78 (by decide) ?_
        cases hf
        exact z_iret B dX7_conversion_101 (Nat.le_of_ble_eq_true rfl) (Nat.le_of_ble_eq_true rfl)
      refine z_icmp_ne B 81 dX7_conversion_67 (by decide) (fun _ => ?_) (fun e => absurd e c33)
      refine z_iload_n B dX7_conversion_81 rfl 2 rfl ?_
      refine z_iconst (v := 3) B dX7_conversion_82 (by decide) ?_
      rcases zite hf with ⟨c36, hf⟩ | ⟨c36, hf⟩
      · refine z_icmp_ne B 95 dX7_conversion_83 (by decide) (fun e => absurd c36 e) (fun _ => ?_)
        refine z_aload_n B dX7_conversion_86 rfl 0 rfl ?_
        obtain ⟨w37, ew37, hf⟩ := zbs hf
        refine z_gP B fl_RX7_23 ew37 rfl dX7_conversion_87 ?_
        refine z_iload_n B dX7_conversion_90 rfl 1 rfl ?_
        obtain ⟨w38, ew38, hf⟩ := zbs hf
        refine z_aI B ew38 dX7_conversion_91 ?_
        refine z_goto B 101 dX7_conversion_92 (by decide) ?_
        cases hf
        exact z_iret B dX7_conversion_101 (Nat.le_of_ble_eq_true rfl) (Nat.le_of_ble_eq_true rfl)
      refine z_icmp_ne B 95 dX7_conversion_83 (by decide) (fun _ => ?_) (fun e => absurd e c36)
      refine z_aload_n B dX7_conversion_95 rfl 0 rfl ?_
      obtain ⟨w39, ew39, hf⟩ := zbs hf
      refine z_gP B fl_RX7_26 ew39 rfl dX7_conversion_96 ?_
      refine z_iload_n B dX7_conversion_99 rfl 1 rfl ?_
      obtain ⟨w40, ew40, hf⟩ := zbs hf
      refine z_aI B ew40 dX7_conversion_100 ?_
      cases hf
      exact z_iret B dX7_conversion_101 (Nat.le_of_ble_eq_true rfl) (Nat.le_of_ble_eq_true rfl)
    refine z_if_eq B 38 dX7_conversion_33 (by decide) (fun e => absurd e c26) (fun _ => ?_)
    refine z_iconst (v := 0) B dX7_conversion_36 (by decide) ?_
    cases hf
    exact z_iret B dX7_conversion_37 (Nat.le_of_ble_eq_true rfl) (Nat.le_of_ble_eq_true rfl)
  refine z_if_ne B 29 dX7_conversion_22 (by decide) (fun _ => ?_) (fun e => absurd e c23)
  refine z_iconst (v := 0) B dX7_conversion_29 (by decide) ?_
  obtain ⟨w41, h42, ew41, hf⟩ := zb2s hf
  refine z_callVi B [.int 0] [] cw_X7_refused mv_RX7_112 (tX7_refused hst ew41) rfl (by decide) (kfX7_refused ew41) ⟨rfl, rfl, (Nat.le_of_ble_eq_true rfl), (Nat.le_of_ble_eq_true rfl), (Nat.le_of_ble_eq_true rfl), (Nat.le_of_ble_eq_true rfl)⟩ rfl rfl (Nat.le_of_ble_eq_true rfl) dX7_conversion_30 ?_
  rcases zite hf with ⟨c43, hf⟩ | ⟨c43, hf⟩
  · refine z_if_eq B 38 dX7_conversion_33 (by decide) (fun _ => ?_) (fun e => absurd c43 e)
    refine z_iload_n B dX7_conversion_38 rfl 2 rfl ?_
    rcases zite hf with ⟨c44, hf⟩ | ⟨c44, hf⟩
    · refine z_if_ne B 51 dX7_conversion_39 (by decide) (fun e => absurd c44 e) (fun _ => ?_)
      refine z_aload_n B dX7_conversion_42 rfl 0 rfl ?_
      obtain ⟨w45, ew45, hf⟩ := zbs hf
      refine z_gP B fl_RX7_17 ew45 rfl dX7_conversion_43 ?_
      refine z_iload_n B dX7_conversion_46 rfl 1 rfl ?_
      obtain ⟨w46, ew46, hf⟩ := zbs hf
      refine z_aI B ew46 dX7_conversion_47 ?_
      refine z_goto B 101 dX7_conversion_48 (by decide) ?_
      cases hf
      exact z_iret B dX7_conversion_101 (Nat.le_of_ble_eq_true rfl) (Nat.le_of_ble_eq_true rfl)
    refine z_if_ne B 51 dX7_conversion_39 (by decide) (fun _ => ?_) (fun e => absurd e c44)
    refine z_iload_n B dX7_conversion_51 rfl 2 rfl ?_
    refine z_iconst (v := 1) B dX7_conversion_52 (by decide) ?_
    rcases zite hf with ⟨c47, hf⟩ | ⟨c47, hf⟩
    · refine z_icmp_ne B 65 dX7_conversion_53 (by decide) (fun e => absurd c47 e) (fun _ => ?_)
      refine z_aload_n B dX7_conversion_56 rfl 0 rfl ?_
      obtain ⟨w48, ew48, hf⟩ := zbs hf
      refine z_gP B fl_RX7_20 ew48 rfl dX7_conversion_57 ?_
      refine z_iload_n B dX7_conversion_60 rfl 1 rfl ?_
      obtain ⟨w49, ew49, hf⟩ := zbs hf
      refine z_aI B ew49 dX7_conversion_61 ?_
      refine z_goto B 101 dX7_conversion_62 (by decide) ?_
      cases hf
      exact z_iret B dX7_conversion_101 (Nat.le_of_ble_eq_true rfl) (Nat.le_of_ble_eq_true rfl)
    refine z_icmp_ne B 65 dX7_conversion_53 (by decide) (fun _ => ?_) (fun e => absurd e c47)
    refine z_iload_n B dX7_conversion_65 rfl 2 rfl ?_
    refine z_iconst (v := 2) B dX7_conversion_66 (by decide) ?_
    rcases zite hf with ⟨c50, hf⟩ | ⟨c50, hf⟩
    · refine z_icmp_ne B 81 dX7_conversion_67 (by decide) (fun e => absurd c50 e) (fun _ => ?_)
      refine z_aload_n B dX7_conversion_70 rfl 0 rfl ?_
      obtain ⟨w51, ew51, hf⟩ := zbs hf
      refine z_gP B fl_RX7_56 ew51 rfl dX7_conversion_71 ?_
      refine z_iconst (v := 4) B dX7_conversion_74 (by decide) ?_
      refine z_iload_n B dX7_conversion_75 rfl 1 rfl ?_
      refine z_iadd B dX7_conversion_76 ?_
      obtain ⟨w52, ew52, hf⟩ := zbs hf
      refine z_aI B ew52 dX7_conversion_77 ?_
      refine z_goto B 101 dX7_conversion_78 (by decide) ?_
      cases hf
      exact z_iret B dX7_conversion_101 (Nat.le_of_ble_eq_true rfl) (Nat.le_of_ble_eq_true rfl)
    refine z_icmp_ne B 81 dX7_conversion_67 (by decide) (fun _ => ?_) (fun e => absurd e c50)
    refine z_iload_n B dX7_conversion_81 rfl 2 rfl ?_
    refine z_iconst (v := 3) B dX7_conversion_82 (by decide) ?_
    rcases zite hf with ⟨c53, hf⟩ | ⟨c53, hf⟩
    · refine z_icmp_ne B 95 dX7_conversion_83 (by decide) (fun e => absurd c53 e) (fun _ => ?_)
      refine z_aload_n B dX7_conversion_86 rfl 0 rfl ?_
      obtain ⟨w54, ew54, hf⟩ := zbs hf
      refine z_gP B fl_RX7_23 ew54 rfl dX7_conversion_87 ?_
      refine z_iload_n B dX7_conversion_90 rfl 1 rfl ?_
      obtain ⟨w55, ew55, hf⟩ := zbs hf
      refine z_aI B ew55 dX7_conversion_91 ?_
      refine z_goto B 101 dX7_conversion_92 (by decide) ?_
      cases hf
      exact z_iret B dX7_conversion_101 (Nat.le_of_ble_eq_true rfl) (Nat.le_of_ble_eq_true rfl)
    refine z_icmp_ne B 95 dX7_conversion_83 (by decide) (fun _ => ?_) (fun e => absurd e c53)
    refine z_aload_n B dX7_conversion_95 rfl 0 rfl ?_
    obtain ⟨w56, ew56, hf⟩ := zbs hf
    refine z_gP B fl_RX7_26 ew56 rfl dX7_conversion_96 ?_
    refine z_iload_n B dX7_conversion_99 rfl 1 rfl ?_
    obtain ⟨w57, ew57, hf⟩ := zbs hf
    refine z_aI B ew57 dX7_conversion_100 ?_
    cases hf
    exact z_iret B dX7_conversion_101 (Nat.le_of_ble_eq_true rfl) (Nat.le_of_ble_eq_true rfl)
  refine z_if_eq B 38 dX7_conversion_33 (by decide) (fun e => absurd e c43) (fun _ => ?_)
  refine z_iconst (v := 0) B dX7_conversion_36 (by decide) ?_
  cases hf
  exact z_iret B dX7_conversion_37 (Nat.le_of_ble_eq_true rfl) (Nat.le_of_ble_eq_true rfl)
abbrev rm_X7_place : Room := { frames := 2, cells := 0, slots := 0, locals := 46 }
set_option maxRecDepth 100000 in
set_option maxHeartbeats 4000000 in
theorem tX7_place {l : Launch} {G : zG} (hst : l.stackTraces = false) {h : zH} {a0 : Nat} {a1 : Int32} {a2 : Int32} {r : Int32 × zH} (hf : fX7_place h a0 a1 a2 = some r) : zMet l G yX7_place (.code yX7_place cX7_place 3 (some .int)) rm_X7_place 0 0 [.ref a0, .int a1, .int a2] h (zoi r) := by
  unfold fX7_place at hf
  obtain ⟨-, hf⟩ := zck hf
  refine z_enter (by decide) (Nat.le_of_ble_eq_true rfl) hst (fun x hx B hE => ?_)
  subst hx
  have B : zB G x cX7_place 3 RX7 "place" rm_X7_place (some .int) := B
  show zV G x 3 (zQ G x (zoi r) 0 0) h 0 0 0 [(0, .ref a0), (1, .int a1), (2, .int a2)] []
  refine z_aload_n B dX7_place_0 rfl 0 rfl ?_
  refine z_aload_n B dX7_place_1 rfl 0 rfl ?_
  refine z_iload_n B dX7_place_2 rfl 1 rfl ?_
  obtain ⟨w1, h2, ew1, hf⟩ := zb2s hf
  refine z_callVi B [.int a1] [.ref a0] cw_X7_isPlace mv_RX7_201 (tX7_isPlace hst ew1) rfl (by decide) (kfX7_isPlace ew1) ⟨rfl, rfl, (Nat.le_of_ble_eq_true rfl), (Nat.le_of_ble_eq_true rfl), (Nat.le_of_ble_eq_true rfl), (Nat.le_of_ble_eq_true rfl)⟩ rfl rfl (Nat.le_of_ble_eq_true rfl) dX7_place_3 ?_
  rcases zite hf with ⟨c3, hf⟩ | ⟨c3, hf⟩
  · refine z_if_ne B 13 dX7_place_6 (by decide) (fun e => absurd c3 e) (fun _ => ?_)
    refine z_iconst (v := 1) B dX7_place_9 (by decide) ?_
    refine z_goto B 28 dX7_place_10 (by decide) ?_
    obtain ⟨w4, h5, ew4, hf⟩ := zb2s hf
    refine z_callVi B [.int 1] [] cw_X7_refused mv_RX7_112 (tX7_refused hst ew4) rfl (by decide) (kfX7_refused ew4) ⟨rfl, rfl, (Nat.le_of_ble_eq_true rfl), (Nat.le_of_ble_eq_true rfl), (Nat.le_of_ble_eq_true rfl), (Nat.le_of_ble_eq_true rfl)⟩ rfl rfl (Nat.le_of_ble_eq_true rfl) dX7_place_28 ?_
    rcases zite hf with ⟨c6, hf⟩ | ⟨c6, hf⟩
    · refine z_if_eq B 36 dX7_place_31 (by decide) (fun _ => ?_) (fun e => absurd c6 e)
      refine z_iload_n B dX7_place_36 rfl 2 rfl ?_
      rcases zite hf with ⟨c7, hf⟩ | ⟨c7, hf⟩
      · refine z_if_ne B 49 dX7_place_37 (by decide) (fun e => absurd c7 e) (fun _ => ?_)
        refine z_aload_n B dX7_place_40 rfl 0 rfl ?_
        obtain ⟨w8, ew8, hf⟩ := zbs hf
        refine z_gP B fl_RX7_29 ew8 rfl dX7_place_41 ?_
        refine z_iload_n B dX7_place_44 rfl 1 rfl ?_
        obtain ⟨w9, ew9, hf⟩ := zbs hf
        refine z_aI B ew9 dX7_place_45 ?_
        refine z_goto B 55 dX7_place_46 (by decide) ?_
        cases hf
        exact z_iret B dX7_place_55 (Nat.le_of_ble_eq_true rfl) (Nat.le_of_ble_eq_true rfl)
      refine z_if_ne B 49 dX7_place_37 (by decide) (fun _ => ?_) (fun e => absurd e c7)
      refine z_aload_n B dX7_place_49 rfl 0 rfl ?_
      obtain ⟨w10, ew10, hf⟩ := zbs hf
      refine z_gP B fl_RX7_32 ew10 rfl dX7_place_50 ?_
      refine z_iload_n B dX7_place_53 rfl 1 rfl ?_
      obtain ⟨w11, ew11, hf⟩ := zbs hf
      refine z_aI B ew11 dX7_place_54 ?_
      cases hf
      exact z_iret B dX7_place_55 (Nat.le_of_ble_eq_true rfl) (Nat.le_of_ble_eq_true rfl)
    refine z_if_eq B 36 dX7_place_31 (by decide) (fun e => absurd e c6) (fun _ => ?_)
    refine z_iconst (v := 0) B dX7_place_34 (by decide) ?_
    cases hf
    exact z_iret B dX7_place_35 (Nat.le_of_ble_eq_true rfl) (Nat.le_of_ble_eq_true rfl)
  refine z_if_ne B 13 dX7_place_6 (by decide) (fun _ => ?_) (fun e => absurd e c3)
  refine z_iload_n B dX7_place_13 rfl 2 rfl ?_
  refine z_i2l B dX7_place_14 ?_
  refine z_lconst (v := 0) B dX7_place_15 (by decide) ?_
  refine z_lconst (v := 1) B dX7_place_16 (by decide) ?_
  obtain ⟨w12, h13, ew12, hf⟩ := zb2s hf
  refine z_callSi B [.long (a2 : Int32).toInt64, .long 0, .long 1] [.ref a0] cw_X7_in mt_RX7_97 (tX7_in hst ew12) ⟨rfl, rfl, (Nat.le_of_ble_eq_true rfl), (Nat.le_of_ble_eq_true rfl), (Nat.le_of_ble_eq_true rfl), (Nat.le_of_ble_eq_true rfl)⟩ rfl rfl (Nat.le_of_ble_eq_true rfl) dX7_place_17 ?_
  rcases zite hf with ⟨c14, hf⟩ | ⟨c14, hf⟩
  · refine z_if_ne B 27 dX7_place_20 (by decide) (fun e => absurd c14 e) (fun _ => ?_)
    refine z_iconst (v := 2) B dX7_place_23 (by decide) ?_
    refine z_goto B 28 dX7_place_24 (by decide) ?_
    obtain ⟨w15, h16, ew15, hf⟩ := zb2s hf
    refine z_callVi B [.int 2] [] cw_X7_refused mv_RX7_112 (tX7_refused hst ew15) rfl (by decide) (kfX7_refused ew15) ⟨rfl, rfl, (Nat.le_of_ble_eq_true rfl), (Nat.le_of_ble_eq_true rfl), (Nat.le_of_ble_eq_true rfl), (Nat.le_of_ble_eq_true rfl)⟩ rfl rfl (Nat.le_of_ble_eq_true rfl) dX7_place_28 ?_
    rcases zite hf with ⟨c17, hf⟩ | ⟨c17, hf⟩
    · refine z_if_eq B 36 dX7_place_31 (by decide) (fun _ => ?_) (fun e => absurd c17 e)
      refine z_iload_n B dX7_place_36 rfl 2 rfl ?_
      rcases zite hf with ⟨c18, hf⟩ | ⟨c18, hf⟩
      · refine z_if_ne B 49 dX7_place_37 (by decide) (fun e => absurd c18 e) (fun _ => ?_)
        refine z_aload_n B dX7_place_40 rfl 0 rfl ?_
        obtain ⟨w19, ew19, hf⟩ := zbs hf
        refine z_gP B fl_RX7_29 ew19 rfl dX7_place_41 ?_
        refine z_iload_n B dX7_place_44 rfl 1 rfl ?_
        obtain ⟨w20, ew20, hf⟩ := zbs hf
        refine z_aI B ew20 dX7_place_45 ?_
        refine z_goto B 55 dX7_place_46 (by decide) ?_
        cases hf
        exact z_iret B dX7_place_55 (Nat.le_of_ble_eq_true rfl) (Nat.le_of_ble_eq_true rfl)
      refine z_if_ne B 49 dX7_place_37 (by decide) (fun _ => ?_) (fun e => absurd e c18)
      refine z_aload_n B dX7_place_49 rfl 0 rfl ?_
      obtain ⟨w21, ew21, hf⟩ := zbs hf
      refine z_gP B fl_RX7_32 ew21 rfl dX7_place_50 ?_
      refine z_iload_n B dX7_place_53 rfl 1 rfl ?_
      obtain ⟨w22, ew22, hf⟩ := zbs hf
      refine z_aI B ew22 dX7_place_54 ?_
      cases hf
      exact z_iret B dX7_place_55 (Nat.le_of_ble_eq_true rfl) (Nat.le_of_ble_eq_true rfl)
    refine z_if_eq B 36 dX7_place_31 (by decide) (fun e => absurd e c17) (fun _ => ?_)
    refine z_iconst (v := 0) B dX7_place_34 (by decide) ?_
    cases hf
    exact z_iret B dX7_place_35 (Nat.le_of_ble_eq_true rfl) (Nat.le_of_ble_eq_true rfl)
  refine z_if_ne B 27 dX7_place_20 (by decide) (fun _ => ?_) (fun e => absurd e c14)
  refine z_iconst (v := 0) B dX7_place_27 (by decide) ?_
  obtain ⟨w23, h24, ew23, hf⟩ := zb2s hf
  refine z_callVi B [.int 0] [] cw_X7_refused mv_RX7_112 (tX7_refused hst ew23) rfl (by decide) (kfX7_refused ew23) ⟨rfl, rfl, (Nat.le_of_ble_eq_true rfl), (Nat.le_of_ble_eq_true rfl), (Nat.le_of_ble_eq_true rfl), (Nat.le_of_ble_eq_true rfl)⟩ rfl rfl (Nat.le_of_ble_eq_true rfl) dX7_place_28 ?_
  rcases zite hf with ⟨c25, hf⟩ | ⟨c25, hf⟩
  · refine z_if_eq B 36 dX7_place_31 (by decide) (fun _ => ?_) (fun e => absurd c25 e)
    refine z_iload_n B dX7_place_36 rfl 2 rfl ?_
    rcases zite hf with ⟨c26, hf⟩ | ⟨c26, hf⟩
    · refine z_if_ne B 49 dX7_place_37 (by decide) (fun e => absurd c26 e) (fun _ => ?_)
      refine z_aload_n B dX7_place_40 rfl 0 rfl ?_
      obtain ⟨w27, ew27, hf⟩ := zbs hf
      refine z_gP B fl_RX7_29 ew27 rfl dX7_place_41 ?_
      refine z_iload_n B dX7_place_44 rfl 1 rfl ?_
      obtain ⟨w28, ew28, hf⟩ := zbs hf
      refine z_aI B ew28 dX7_place_45 ?_
      refine z_goto B 55 dX7_place_46 (by decide) ?_
      cases hf
      exact z_iret B dX7_place_55 (Nat.le_of_ble_eq_true rfl) (Nat.le_of_ble_eq_true rfl)
    refine z_if_ne B 49 dX7_place_37 (by decide) (fun _ => ?_) (fun e => absurd e c26)
    refine z_aload_n B dX7_place_49 rfl 0 rfl ?_
    obtain ⟨w29, ew29, hf⟩ := zbs hf
    refine z_gP B fl_RX7_32 ew29 rfl dX7_place_50 ?_
    refine z_iload_n B dX7_place_53 rfl 1 rfl ?_
    obtain ⟨w30, ew30, hf⟩ := zbs hf
    refine z_aI B ew30 dX7_place_54 ?_
    cases hf
    exact z_iret B dX7_place_55 (Nat.le_of_ble_eq_true rfl) (Nat.le_of_ble_eq_true rfl)
  refine z_if_eq B 36 dX7_place_31 (by decide) (fun e => absurd e c25) (fun _ => ?_)
  refine z_iconst (v := 0) B dX7_place_34 (by decide) ?_
  cases hf
  exact z_iret B dX7_place_35 (Nat.le_of_ble_eq_true rfl) (Nat.le_of_ble_eq_true rfl)
abbrev rm_X7_entry : Room := { frames := 3, cells := 0, slots := 0, locals := 66 }
set_option maxRecDepth 100000 in
set_option maxHeartbeats 4000000 in
theorem tX7_entry {l : Launch} {G : zG} (hst : l.stackTraces = false) {h : zH} {a0 : Nat} {a1 : Int32} {a2 : Int32} {r : Int32 × zH} (hf : fX7_entry h a0 a1 a2 = some r) : zMet l G yX7_entry (.code yX7_entry cX7_entry 3 (some .int)) rm_X7_entry 0 0 [.ref a0, .int a1, .int a2] h (zoi r) := by
  unfold fX7_entry at hf
  obtain ⟨-, hf⟩ := zck hf
  refine z_enter (by decide) (Nat.le_of_ble_eq_true rfl) hst (fun x hx B hE => ?_)
  subst hx
  have B : zB G x cX7_entry 3 RX7 "entry" rm_X7_entry (some .int) := B
  show zV G x 3 (zQ G x (zoi r) 0 0) h 0 0 0 [(0, .ref a0), (1, .int a1), (2, .int a2)] []
  refine z_aload_n B dX7_entry_0 rfl 0 rfl ?_
  refine z_aload_n B dX7_entry_1 rfl 0 rfl ?_
  obtain ⟨w1, ew1, hf⟩ := zbs hf
  refine z_gP B fl_RX7_56 ew1 rfl dX7_entry_2 ?_
  refine z_iload_n B dX7_entry_5 rfl 1 rfl ?_
  obtain ⟨w2, h3, ew2, hf⟩ := zb2s hf
  refine z_callSi B [.ref w1, .int a1] [.ref a0] cw_X7_isEntry mt_RX7_204 (tX7_isEntry hst ew2) ⟨rfl, rfl, (Nat.le_of_ble_eq_true rfl), (Nat.le_of_ble_eq_true rfl), (Nat.le_of_ble_eq_true rfl), (Nat.le_of_ble_eq_true rfl)⟩ rfl rfl (Nat.le_of_ble_eq_true rfl) dX7_entry_6 ?_
  rcases zite hf with ⟨c4, hf⟩ | ⟨c4, hf⟩
  · refine z_if_ne B 16 dX7_entry_9 (by decide) (fun e => absurd c4 e) (fun _ => ?_)
    refine z_iconst (v := 1) B dX7_entry_12 (by decide) ?_
    refine z_goto B 33 dX7_entry_13 (by decide) ?_
    obtain ⟨w5, h6, ew5, hf⟩ := zb2s hf
    refine z_callVi B [.int 1] [] cw_X7_refused mv_RX7_112 (tX7_refused hst ew5) rfl (by decide) (kfX7_refused ew5) ⟨rfl, rfl, (Nat.le_of_ble_eq_true rfl), (Nat.le_of_ble_eq_true rfl), (Nat.le_of_ble_eq_true rfl), (Nat.le_of_ble_eq_true rfl)⟩ rfl rfl (Nat.le_of_ble_eq_true rfl) dX7_entry_33 ?_
    rcases zite hf with ⟨c7, hf⟩ | ⟨c7, hf⟩
    · refine z_if_eq B 41 dX7_entry_36 (by decide) (fun _ => ?_) (fun e => absurd c7 e)
      refine z_iload_n B dX7_entry_41 rfl 2 rfl ?_
      rcases zite hf with ⟨c8, hf⟩ | ⟨c8, hf⟩
      · refine z_tabIn B 0 80 dX7_entry_42 c8 (by decide) (by decide) rfl (by decide) ?_
        refine z_aload_n B dX7_entry_80 rfl 0 rfl ?_
        obtain ⟨w9, ew9, hf⟩ := zbs hf
        refine z_gP B fl_RX7_56 ew9 rfl dX7_entry_81 ?_
        refine z_iload_n B dX7_entry_84 rfl 1 rfl ?_
        obtain ⟨w10, h11, ew10, hf⟩ := zb2s hf
        refine z_callSi B [.ref w9, .int a1] [] cw_X7_sizeOf mt_RX7_166 (tX7_sizeOf hst ew10) ⟨rfl, rfl, (Nat.le_of_ble_eq_true rfl), (Nat.le_of_ble_eq_true rfl), (Nat.le_of_ble_eq_true rfl), (Nat.le_of_ble_eq_true rfl)⟩ rfl rfl (Nat.le_of_ble_eq_true rfl) dX7_entry_85 ?_
        cases hf
        exact z_iret B dX7_entry_88 (Nat.le_of_ble_eq_true rfl) (Nat.le_of_ble_eq_true rfl)
      rcases zite hf with ⟨c12, hf⟩ | ⟨c12, hf⟩
      · refine z_tabIn B 1 89 dX7_entry_42 c12 (by decide) (by decide) rfl (by decide) ?_
        refine z_aload_n B dX7_entry_89 rfl 0 rfl ?_
        obtain ⟨w13, ew13, hf⟩ := zbs hf
        refine z_gP B fl_RX7_56 ew13 rfl dX7_entry_90 ?_
        refine z_iload_n B dX7_entry_93 rfl 1 rfl ?_
        refine z_iconst (v := 1) B dX7_entry_94 (by decide) ?_
        obtain ⟨w14, h15, ew14, hf⟩ := zb2s hf
        refine z_callSi B [.ref w13, .int a1, .int 1] [] cw_X7_formsOf mt_RX7_210 (tX7_formsOf hst ew14) ⟨rfl, rfl, (Nat.le_of_ble_eq_true rfl), (Nat.le_of_ble_eq_true rfl), (Nat.le_of_ble_eq_true rfl), (Nat.le_of_ble_eq_true rfl)⟩ rfl rfl (Nat.le_of_ble_eq_true rfl) dX7_entry_95 ?_
        cases hf
        exact z_iret B dX7_entry_98 (Nat.le_of_ble_eq_true rfl) (Nat.le_of_ble_eq_true rfl)
      rcases zite hf with ⟨c16, hf⟩ | ⟨c16, hf⟩
      · refine z_tabIn B 2 99 dX7_entry_42 c16 (by decide) (by decide) rfl (by decide) ?_
        refine z_aload_n B dX7_entry_99 rfl 0 rfl ?_
        obtain ⟨w17, ew17, hf⟩ := zbs hf
        refine z_gP B fl_RX7_56 ew17 rfl dX7_entry_100 ?_
        refine z_iload_n B dX7_entry_103 rfl 1 rfl ?_
        refine z_iconst (v := 2) B dX7_entry_104 (by decide) ?_
        obtain ⟨w18, h19, ew18, hf⟩ := zb2s hf
        refine z_callSi B [.ref w17, .int a1, .int 2] [] cw_X7_formsOf mt_RX7_210 (tX7_formsOf hst ew18) ⟨rfl, rfl, (Nat.le_of_ble_eq_true rfl), (Nat.le_of_ble_eq_true rfl), (Nat.le_of_ble_eq_true rfl), (Nat.le_of_ble_eq_true rfl)⟩ rfl rfl (Nat.le_of_ble_eq_true rfl) dX7_entry_105 ?_
        cases hf
        exact z_iret B dX7_entry_108 (Nat.le_of_ble_eq_true rfl) (Nat.le_of_ble_eq_true rfl)
      rcases zite hf with ⟨c20, hf⟩ | ⟨c20, hf⟩
      · refine z_tabIn B 3 109 dX7_entry_42 c20 (by decide) (by decide) rfl (by decide) ?_
        refine z_aload_n B dX7_entry_109 rfl 0 rfl ?_
        obtain ⟨w21, ew21, hf⟩ := zbs hf
        refine z_gP B fl_RX7_56 ew21 rfl dX7_entry_110 ?_
        refine z_iload_n B dX7_entry_113 rfl 1 rfl ?_
        obtain ⟨w22, h23, ew22, hf⟩ := zb2s hf
        refine z_callSi B [.int a1] [.ref w21] cw_X7_at mt_RX7_163 (tX7_at hst ew22) ⟨rfl, rfl, (Nat.le_of_ble_eq_true rfl), (Nat.le_of_ble_eq_true rfl), (Nat.le_of_ble_eq_true rfl), (Nat.le_of_ble_eq_true rfl)⟩ rfl rfl (Nat.le_of_ble_eq_true rfl) dX7_entry_114 ?_
        refine z_bipush (v := 24) B dX7_entry_117 (by decide) ?_
        refine z_iadd B dX7_entry_119 ?_
        obtain ⟨w24, ew24, hf⟩ := zbs hf
        refine z_aI B ew24 dX7_entry_120 ?_
        cases hf
        exact z_iret B dX7_entry_121 (Nat.le_of_ble_eq_true rfl) (Nat.le_of_ble_eq_true rfl)
      rcases zite hf with ⟨c25, hf⟩ | ⟨c25, hf⟩
      · refine z_tabIn B 4 122 dX7_entry_42 c25 (by decide) (by decide) rfl (by decide) ?_
        refine z_aload_n B dX7_entry_122 rfl 0 rfl ?_
        obtain ⟨w26, ew26, hf⟩ := zbs hf
        refine z_gP B fl_RX7_56 ew26 rfl dX7_entry_123 ?_
        refine z_iload_n B dX7_entry_126 rfl 1 rfl ?_
        obtain ⟨w27, h28, ew27, hf⟩ := zb2s hf
        refine z_callSi B [.int a1] [.ref w26] cw_X7_at mt_RX7_163 (tX7_at hst ew27) ⟨rfl, rfl, (Nat.le_of_ble_eq_true rfl), (Nat.le_of_ble_eq_true rfl), (Nat.le_of_ble_eq_true rfl), (Nat.le_of_ble_eq_true rfl)⟩ rfl rfl (Nat.le_of_ble_eq_true rfl) dX7_entry_127 ?_
        refine z_bipush (v := 25) B dX7_entry_130 (by decide) ?_
        refine z_iadd B dX7_entry_132 ?_
        obtain ⟨w29, ew29, hf⟩ := zbs hf
        refine z_aI B ew29 dX7_entry_133 ?_
        cases hf
        exact z_iret B dX7_entry_134 (Nat.le_of_ble_eq_true rfl) (Nat.le_of_ble_eq_true rfl)
      rcases zite hf with ⟨c30, hf⟩ | ⟨c30, hf⟩
      · refine z_tabIn B 5 135 dX7_entry_42 c30 (by decide) (by decide) rfl (by decide) ?_
        refine z_aload_n B dX7_entry_135 rfl 0 rfl ?_
        obtain ⟨w31, ew31, hf⟩ := zbs hf
        refine z_gP B fl_RX7_56 ew31 rfl dX7_entry_136 ?_
        refine z_iload_n B dX7_entry_139 rfl 1 rfl ?_
        obtain ⟨w32, h33, ew32, hf⟩ := zb2s hf
        refine z_callSi B [.int a1] [.ref w31] cw_X7_at mt_RX7_163 (tX7_at hst ew32) ⟨rfl, rfl, (Nat.le_of_ble_eq_true rfl), (Nat.le_of_ble_eq_true rfl), (Nat.le_of_ble_eq_true rfl), (Nat.le_of_ble_eq_true rfl)⟩ rfl rfl (Nat.le_of_ble_eq_true rfl) dX7_entry_140 ?_
        refine z_bipush (v := 26) B dX7_entry_143 (by decide) ?_
        refine z_iadd B dX7_entry_145 ?_
        obtain ⟨w34, ew34, hf⟩ := zbs hf
        refine z_aI B ew34 dX7_entry_146 ?_
        cases hf
        exact z_iret B dX7_entry_147 (Nat.le_of_ble_eq_true rfl) (Nat.le_of_ble_eq_true rfl)
      refine z_tabOut B 148 dX7_entry_42 (z_outL 0 6 (by decide) (fun j hj0 hj => by rcases (show j = 0 ∨ j = 1 ∨ j = 2 ∨ j = 3 ∨ j = 4 ∨ j = 5 by omega) with rfl | rfl | rfl | rfl | rfl | rfl <;> assumption)) (by decide) ?_
      refine z_aload_n B dX7_entry_148 rfl 0 rfl ?_
      obtain ⟨w35, ew35, hf⟩ := zbs hf
      refine z_gP B fl_RX7_56 ew35 rfl dX7_entry_149 ?_
      refine z_iload_n B dX7_entry_152 rfl 1 rfl ?_
      obtain ⟨w36, h37, ew36, hf⟩ := zb2s hf
      refine z_callSi B [.ref w35, .int a1] [] cw_X7_weight mt_RX7_173 (tX7_weight hst ew36) ⟨rfl, rfl, (Nat.le_of_ble_eq_true rfl), (Nat.le_of_ble_eq_true rfl), (Nat.le_of_ble_eq_true rfl), (Nat.le_of_ble_eq_true rfl)⟩ rfl rfl (Nat.le_of_ble_eq_true rfl) dX7_entry_153 ?_
      cases hf
      exact z_iret B dX7_entry_156 (Nat.le_of_ble_eq_true rfl) (Nat.le_of_ble_eq_true rfl)
    refine z_if_eq B 41 dX7_entry_36 (by decide) (fun e => absurd e c7) (fun _ => ?_)
    refine z_iconst (v := 0) B dX7_entry_39 (by decide) ?_
    cases hf
    exact z_iret B dX7_entry_40 (Nat.le_of_ble_eq_true rfl) (Nat.le_of_ble_eq_true rfl)
  refine z_if_ne B 16 dX7_entry_9 (by decide) (fun _ => ?_) (fun e => absurd e c4)
  refine z_iload_n B dX7_entry_16 rfl 2 rfl ?_
  refine z_i2l B dX7_entry_17 ?_
  refine z_lconst (v := 0) B dX7_entry_18 (by decide) ?_
  refine z_ldc2 B dX7_entry_19 kl_RX7_208 ?_
  obtain ⟨w38, h39, ew38, hf⟩ := zb2s hf
  refine z_callSi B [.long (a2 : Int32).toInt64, .long 0, .long 6] [.ref a0] cw_X7_in mt_RX7_97 (tX7_in hst ew38) ⟨rfl, rfl, (Nat.le_of_ble_eq_true rfl), (Nat.le_of_ble_eq_true rfl), (Nat.le_of_ble_eq_true rfl), (Nat.le_of_ble_eq_true rfl)⟩ rfl rfl (Nat.le_of_ble_eq_true rfl) dX7_entry_22 ?_
  rcases zite hf with ⟨c40, hf⟩ | ⟨c40, hf⟩
  · refine z_if_ne B 32 dX7_entry_25 (by decide) (fun e => absurd c40 e) (fun _ => ?_)
    refine z_iconst (v := 2) B dX7_entry_28 (by decide) ?_
    refine z_goto B 33 dX7_entry_29 (by decide) ?_
    obtain ⟨w41, h42, ew41, hf⟩ := zb2s hf
    refine z_callVi B [.int 2] [] cw_X7_refused mv_RX7_112 (tX7_refused hst ew41) rfl (by decide) (kfX7_refused ew41) ⟨rfl, rfl, (Nat.le_of_ble_eq_true rfl), (Nat.le_of_ble_eq_true rfl), (Nat.le_of_ble_eq_true rfl), (Nat.le_of_ble_eq_true rfl)⟩ rfl rfl (Nat.le_of_ble_eq_true rfl) dX7_entry_33 ?_
    rcases zite hf with ⟨c43, hf⟩ | ⟨c43, hf⟩
    · refine z_if_eq B 41 dX7_entry_36 (by decide) (fun _ => ?_) (fun e => absurd c43 e)
      refine z_iload_n B dX7_entry_41 rfl 2 rfl ?_
      rcases zite hf with ⟨c44, hf⟩ | ⟨c44, hf⟩
      · refine z_tabIn B 0 80 dX7_entry_42 c44 (by decide) (by decide) rfl (by decide) ?_
        refine z_aload_n B dX7_entry_80 rfl 0 rfl ?_
        obtain ⟨w45, ew45, hf⟩ := zbs hf
        refine z_gP B fl_RX7_56 ew45 rfl dX7_entry_81 ?_
        refine z_iload_n B dX7_entry_84 rfl 1 rfl ?_
        obtain ⟨w46, h47, ew46, hf⟩ := zb2s hf
        refine z_callSi B [.ref w45, .int a1] [] cw_X7_sizeOf mt_RX7_166 (tX7_sizeOf hst ew46) ⟨rfl, rfl, (Nat.le_of_ble_eq_true rfl), (Nat.le_of_ble_eq_true rfl), (Nat.le_of_ble_eq_true rfl), (Nat.le_of_ble_eq_true rfl)⟩ rfl rfl (Nat.le_of_ble_eq_true rfl) dX7_entry_85 ?_
        cases hf
        exact z_iret B dX7_entry_88 (Nat.le_of_ble_eq_true rfl) (Nat.le_of_ble_eq_true rfl)
      rcases zite hf with ⟨c48, hf⟩ | ⟨c48, hf⟩
      · refine z_tabIn B 1 89 dX7_entry_42 c48 (by decide) (by decide) rfl (by decide) ?_
        refine z_aload_n B dX7_entry_89 rfl 0 rfl ?_
        obtain ⟨w49, ew49, hf⟩ := zbs hf
        refine z_gP B fl_RX7_56 ew49 rfl dX7_entry_90 ?_
        refine z_iload_n B dX7_entry_93 rfl 1 rfl ?_
        refine z_iconst (v := 1) B dX7_entry_94 (by decide) ?_
        obtain ⟨w50, h51, ew50, hf⟩ := zb2s hf
        refine z_callSi B [.ref w49, .int a1, .int 1] [] cw_X7_formsOf mt_RX7_210 (tX7_formsOf hst ew50) ⟨rfl, rfl, (Nat.le_of_ble_eq_true rfl), (Nat.le_of_ble_eq_true rfl), (Nat.le_of_ble_eq_true rfl), (Nat.le_of_ble_eq_true rfl)⟩ rfl rfl (Nat.le_of_ble_eq_true rfl) dX7_entry_95 ?_
        cases hf
        exact z_iret B dX7_entry_98 (Nat.le_of_ble_eq_true rfl) (Nat.le_of_ble_eq_true rfl)
      rcases zite hf with ⟨c52, hf⟩ | ⟨c52, hf⟩
      · refine z_tabIn B 2 99 dX7_entry_42 c52 (by decide) (by decide) rfl (by decide) ?_
        refine z_aload_n B dX7_entry_99 rfl 0 rfl ?_
        obtain ⟨w53, ew53, hf⟩ := zbs hf
        refine z_gP B fl_RX7_56 ew53 rfl dX7_entry_100 ?_
        refine z_iload_n B dX7_entry_103 rfl 1 rfl ?_
        refine z_iconst (v := 2) B dX7_entry_104 (by decide) ?_
        obtain ⟨w54, h55, ew54, hf⟩ := zb2s hf
        refine z_callSi B [.ref w53, .int a1, .int 2] [] cw_X7_formsOf mt_RX7_210 (tX7_formsOf hst ew54) ⟨rfl, rfl, (Nat.le_of_ble_eq_true rfl), (Nat.le_of_ble_eq_true rfl), (Nat.le_of_ble_eq_true rfl), (Nat.le_of_ble_eq_true rfl)⟩ rfl rfl (Nat.le_of_ble_eq_true rfl) dX7_entry_105 ?_
        cases hf
        exact z_iret B dX7_entry_108 (Nat.le_of_ble_eq_true rfl) (Nat.le_of_ble_eq_true rfl)
      rcases zite hf with ⟨c56, hf⟩ | ⟨c56, hf⟩
      · refine z_tabIn B 3 109 dX7_entry_42 c56 (by decide) (by decide) rfl (by decide) ?_
        refine z_aload_n B dX7_entry_109 rfl 0 rfl ?_
        obtain ⟨w57, ew57, hf⟩ := zbs hf
        refine z_gP B fl_RX7_56 ew57 rfl dX7_entry_110 ?_
        refine z_iload_n B dX7_entry_113 rfl 1 rfl ?_
        obtain ⟨w58, h59, ew58, hf⟩ := zb2s hf
        refine z_callSi B [.int a1] [.ref w57] cw_X7_at mt_RX7_163 (tX7_at hst ew58) ⟨rfl, rfl, (Nat.le_of_ble_eq_true rfl), (Nat.le_of_ble_eq_true rfl), (Nat.le_of_ble_eq_true rfl), (Nat.le_of_ble_eq_true rfl)⟩ rfl rfl (Nat.le_of_ble_eq_true rfl) dX7_entry_114 ?_
        refine z_bipush (v := 24) B dX7_entry_117 (by decide) ?_
        refine z_iadd B dX7_entry_119 ?_
        obtain ⟨w60, ew60, hf⟩ := zbs hf
        refine z_aI B ew60 dX7_entry_120 ?_
        cases hf
        exact z_iret B dX7_entry_121 (Nat.le_of_ble_eq_true rfl) (Nat.le_of_ble_eq_true rfl)
      rcases zite hf with ⟨c61, hf⟩ | ⟨c61, hf⟩
      · refine z_tabIn B 4 122 dX7_entry_42 c61 (by decide) (by decide) rfl (by decide) ?_
        refine z_aload_n B dX7_entry_122 rfl 0 rfl ?_
        obtain ⟨w62, ew62, hf⟩ := zbs hf
        refine z_gP B fl_RX7_56 ew62 rfl dX7_entry_123 ?_
        refine z_iload_n B dX7_entry_126 rfl 1 rfl ?_
        obtain ⟨w63, h64, ew63, hf⟩ := zb2s hf
        refine z_callSi B [.int a1] [.ref w62] cw_X7_at mt_RX7_163 (tX7_at hst ew63) ⟨rfl, rfl, (Nat.le_of_ble_eq_true rfl), (Nat.le_of_ble_eq_true rfl), (Nat.le_of_ble_eq_true rfl), (Nat.le_of_ble_eq_true rfl)⟩ rfl rfl (Nat.le_of_ble_eq_true rfl) dX7_entry_127 ?_
        refine z_bipush (v := 25) B dX7_entry_130 (by decide) ?_
        refine z_iadd B dX7_entry_132 ?_
        obtain ⟨w65, ew65, hf⟩ := zbs hf
        refine z_aI B ew65 dX7_entry_133 ?_
        cases hf
        exact z_iret B dX7_entry_134 (Nat.le_of_ble_eq_true rfl) (Nat.le_of_ble_eq_true rfl)
      rcases zite hf with ⟨c66, hf⟩ | ⟨c66, hf⟩
      · refine z_tabIn B 5 135 dX7_entry_42 c66 (by decide) (by decide) rfl (by decide) ?_
        refine z_aload_n B dX7_entry_135 rfl 0 rfl ?_
        obtain ⟨w67, ew67, hf⟩ := zbs hf
        refine z_gP B fl_RX7_56 ew67 rfl dX7_entry_136 ?_
        refine z_iload_n B dX7_entry_139 rfl 1 rfl ?_
        obtain ⟨w68, h69, ew68, hf⟩ := zb2s hf
        refine z_callSi B [.int a1] [.ref w67] cw_X7_at mt_RX7_163 (tX7_at hst ew68) ⟨rfl, rfl, (Nat.le_of_ble_eq_true rfl), (Nat.le_of_ble_eq_true rfl), (Nat.le_of_ble_eq_true rfl), (Nat.le_of_ble_eq_true rfl)⟩ rfl rfl (Nat.le_of_ble_eq_true rfl) dX7_entry_140 ?_
        refine z_bipush (v := 26) B dX7_entry_143 (by decide) ?_
        refine z_iadd B dX7_entry_145 ?_
        obtain ⟨w70, ew70, hf⟩ := zbs hf
        refine z_aI B ew70 dX7_entry_146 ?_
        cases hf
        exact z_iret B dX7_entry_147 (Nat.le_of_ble_eq_true rfl) (Nat.le_of_ble_eq_true rfl)
      refine z_tabOut B 148 dX7_entry_42 (z_outL 0 6 (by decide) (fun j hj0 hj => by rcases (show j = 0 ∨ j = 1 ∨ j = 2 ∨ j = 3 ∨ j = 4 ∨ j = 5 by omega) with rfl | rfl | rfl | rfl | rfl | rfl <;> assumption)) (by decide) ?_
      refine z_aload_n B dX7_entry_148 rfl 0 rfl ?_
      obtain ⟨w71, ew71, hf⟩ := zbs hf
      refine z_gP B fl_RX7_56 ew71 rfl dX7_entry_149 ?_
      refine z_iload_n B dX7_entry_152 rfl 1 rfl ?_
      obtain ⟨w72, h73, ew72, hf⟩ := zb2s hf
      refine z_callSi B [.ref w71, .int a1] [] cw_X7_weight mt_RX7_173 (tX7_weight hst ew72) ⟨rfl, rfl, (Nat.le_of_ble_eq_true rfl), (Nat.le_of_ble_eq_true rfl), (Nat.le_of_ble_eq_true rfl), (Nat.le_of_ble_eq_true rfl)⟩ rfl rfl (Nat.le_of_ble_eq_true rfl) dX7_entry_153 ?_
      cases hf
      exact z_iret B dX7_entry_156 (Nat.le_of_ble_eq_true rfl) (Nat.le_of_ble_eq_true rfl)
    refine z_if_eq B 41 dX7_entry_36 (by decide) (fun e => absurd e c43) (fun _ => ?_)
    refine z_iconst (v := 0) B dX7_entry_39 (by decide) ?_
    cases hf
    exact z_iret B dX7_entry_40 (Nat.le_of_ble_eq_true rfl) (Nat.le_of_ble_eq_true rfl)
  refine z_if_ne B 32 dX7_entry_25 (by decide) (fun _ => ?_) (fun e => absurd e c40)
  refine z_iconst (v := 0) B dX7_entry_32 (by decide) ?_
  obtain ⟨w74, h75, ew74, hf⟩ := zb2s hf
  refine z_callVi B [.int 0] [] cw_X7_refused mv_RX7_112 (tX7_refused hst ew74) rfl (by decide) (kfX7_refused ew74) ⟨rfl, rfl, (Nat.le_of_ble_eq_true rfl), (Nat.le_of_ble_eq_true rfl), (Nat.le_of_ble_eq_true rfl), (Nat.le_of_ble_eq_true rfl)⟩ rfl rfl (Nat.le_of_ble_eq_true rfl) dX7_entry_33 ?_
  rcases zite hf with ⟨c76, hf⟩ | ⟨c76, hf⟩
  · refine z_if_eq B 41 dX7_entry_36 (by decide) (fun _ => ?_) (fun e => absurd c76 e)
    refine z_iload_n B dX7_entry_41 rfl 2 rfl ?_
    rcases zite hf with ⟨c77, hf⟩ | ⟨c77, hf⟩
    · refine z_tabIn B 0 80 dX7_entry_42 c77 (by decide) (by decide) rfl (by decide) ?_
      refine z_aload_n B dX7_entry_80 rfl 0 rfl ?_
      obtain ⟨w78, ew78, hf⟩ := zbs hf
      refine z_gP B fl_RX7_56 ew78 rfl dX7_entry_81 ?_
      refine z_iload_n B dX7_entry_84 rfl 1 rfl ?_
      obtain ⟨w79, h80, ew79, hf⟩ := zb2s hf
      refine z_callSi B [.ref w78, .int a1] [] cw_X7_sizeOf mt_RX7_166 (tX7_sizeOf hst ew79) ⟨rfl, rfl, (Nat.le_of_ble_eq_true rfl), (Nat.le_of_ble_eq_true rfl), (Nat.le_of_ble_eq_true rfl), (Nat.le_of_ble_eq_true rfl)⟩ rfl rfl (Nat.le_of_ble_eq_true rfl) dX7_entry_85 ?_
      cases hf
      exact z_iret B dX7_entry_88 (Nat.le_of_ble_eq_true rfl) (Nat.le_of_ble_eq_true rfl)
    rcases zite hf with ⟨c81, hf⟩ | ⟨c81, hf⟩
    · refine z_tabIn B 1 89 dX7_entry_42 c81 (by decide) (by decide) rfl (by decide) ?_
      refine z_aload_n B dX7_entry_89 rfl 0 rfl ?_
      obtain ⟨w82, ew82, hf⟩ := zbs hf
      refine z_gP B fl_RX7_56 ew82 rfl dX7_entry_90 ?_
      refine z_iload_n B dX7_entry_93 rfl 1 rfl ?_
      refine z_iconst (v := 1) B dX7_entry_94 (by decide) ?_
      obtain ⟨w83, h84, ew83, hf⟩ := zb2s hf
      refine z_callSi B [.ref w82, .int a1, .int 1] [] cw_X7_formsOf mt_RX7_210 (tX7_formsOf hst ew83) ⟨rfl, rfl, (Nat.le_of_ble_eq_true rfl), (Nat.le_of_ble_eq_true rfl), (Nat.le_of_ble_eq_true rfl), (Nat.le_of_ble_eq_true rfl)⟩ rfl rfl (Nat.le_of_ble_eq_true rfl) dX7_entry_95 ?_
      cases hf
      exact z_iret B dX7_entry_98 (Nat.le_of_ble_eq_true rfl) (Nat.le_of_ble_eq_true rfl)
    rcases zite hf with ⟨c85, hf⟩ | ⟨c85, hf⟩
    · refine z_tabIn B 2 99 dX7_entry_42 c85 (by decide) (by decide) rfl (by decide) ?_
      refine z_aload_n B dX7_entry_99 rfl 0 rfl ?_
      obtain ⟨w86, ew86, hf⟩ := zbs hf
      refine z_gP B fl_RX7_56 ew86 rfl dX7_entry_100 ?_
      refine z_iload_n B dX7_entry_103 rfl 1 rfl ?_
      refine z_iconst (v := 2) B dX7_entry_104 (by decide) ?_
      obtain ⟨w87, h88, ew87, hf⟩ := zb2s hf
      refine z_callSi B [.ref w86, .int a1, .int 2] [] cw_X7_formsOf mt_RX7_210 (tX7_formsOf hst ew87) ⟨rfl, rfl, (Nat.le_of_ble_eq_true rfl), (Nat.le_of_ble_eq_true rfl), (Nat.le_of_ble_eq_true rfl), (Nat.le_of_ble_eq_true rfl)⟩ rfl rfl (Nat.le_of_ble_eq_true rfl) dX7_entry_105 ?_
      cases hf
      exact z_iret B dX7_entry_108 (Nat.le_of_ble_eq_true rfl) (Nat.le_of_ble_eq_true rfl)
    rcases zite hf with ⟨c89, hf⟩ | ⟨c89, hf⟩
    · refine z_tabIn B 3 109 dX7_entry_42 c89 (by decide) (by decide) rfl (by decide) ?_
      refine z_aload_n B dX7_entry_109 rfl 0 rfl ?_
      obtain ⟨w90, ew90, hf⟩ := zbs hf
      refine z_gP B fl_RX7_56 ew90 rfl dX7_entry_110 ?_
      refine z_iload_n B dX7_entry_113 rfl 1 rfl ?_
      obtain ⟨w91, h92, ew91, hf⟩ := zb2s hf
      refine z_callSi B [.int a1] [.ref w90] cw_X7_at mt_RX7_163 (tX7_at hst ew91) ⟨rfl, rfl, (Nat.le_of_ble_eq_true rfl), (Nat.le_of_ble_eq_true rfl), (Nat.le_of_ble_eq_true rfl), (Nat.le_of_ble_eq_true rfl)⟩ rfl rfl (Nat.le_of_ble_eq_true rfl) dX7_entry_114 ?_
      refine z_bipush (v := 24) B dX7_entry_117 (by decide) ?_
      refine z_iadd B dX7_entry_119 ?_
      obtain ⟨w93, ew93, hf⟩ := zbs hf
      refine z_aI B ew93 dX7_entry_120 ?_
      cases hf
      exact z_iret B dX7_entry_121 (Nat.le_of_ble_eq_true rfl) (Nat.le_of_ble_eq_true rfl)
    rcases zite hf with ⟨c94, hf⟩ | ⟨c94, hf⟩
    · refine z_tabIn B 4 122 dX7_entry_42 c94 (by decide) (by decide) rfl (by decide) ?_
      refine z_aload_n B dX7_entry_122 rfl 0 rfl ?_
      obtain ⟨w95, ew95, hf⟩ := zbs hf
      refine z_gP B fl_RX7_56 ew95 rfl dX7_entry_123 ?_
      refine z_iload_n B dX7_entry_126 rfl 1 rfl ?_
      obtain ⟨w96, h97, ew96, hf⟩ := zb2s hf
      refine z_callSi B [.int a1] [.ref w95] cw_X7_at mt_RX7_163 (tX7_at hst ew96) ⟨rfl, rfl, (Nat.le_of_ble_eq_true rfl), (Nat.le_of_ble_eq_true rfl), (Nat.le_of_ble_eq_true rfl), (Nat.le_of_ble_eq_true rfl)⟩ rfl rfl (Nat.le_of_ble_eq_true rfl) dX7_entry_127 ?_
      refine z_bipush (v := 25) B dX7_entry_130 (by decide) ?_
      refine z_iadd B dX7_entry_132 ?_
      obtain ⟨w98, ew98, hf⟩ := zbs hf
      refine z_aI B ew98 dX7_entry_133 ?_
      cases hf
      exact z_iret B dX7_entry_134 (Nat.le_of_ble_eq_true rfl) (Nat.le_of_ble_eq_true rfl)
    rcases zite hf with ⟨c99, hf⟩ | ⟨c99, hf⟩
    · refine z_tabIn B 5 135 dX7_entry_42 c99 (by decide) (by decide) rfl (by decide) ?_
      refine z_aload_n B dX7_entry_135 rfl 0 rfl ?_
      obtain ⟨w100, ew100, hf⟩ := zbs hf
      refine z_gP B fl_RX7_56 ew100 rfl dX7_entry_136 ?_
      refine z_iload_n B dX7_entry_139 rfl 1 rfl ?_
      obtain ⟨w101, h102, ew101, hf⟩ := zb2s hf
      refine z_callSi B [.int a1] [.ref w100] cw_X7_at mt_RX7_163 (tX7_at hst ew101) ⟨rfl, rfl, (Nat.le_of_ble_eq_true rfl), (Nat.le_of_ble_eq_true rfl), (Nat.le_of_ble_eq_true rfl), (Nat.le_of_ble_eq_true rfl)⟩ rfl rfl (Nat.le_of_ble_eq_true rfl) dX7_entry_140 ?_
      refine z_bipush (v := 26) B dX7_entry_143 (by decide) ?_
      refine z_iadd B dX7_entry_145 ?_
      obtain ⟨w103, ew103, hf⟩ := zbs hf
      refine z_aI B ew103 dX7_entry_146 ?_
      cases hf
      exact z_iret B dX7_entry_147 (Nat.le_of_ble_eq_true rfl) (Nat.le_of_ble_eq_true rfl)
    refine z_tabOut B 148 dX7_entry_42 (z_outL 0 6 (by decide) (fun j hj0 hj => by rcases (show j = 0 ∨ j = 1 ∨ j = 2 ∨ j = 3 ∨ j = 4 ∨ j = 5 by omega) with rfl | rfl | rfl | rfl | rfl | rfl <;> assumption)) (by decide) ?_
    refine z_aload_n B dX7_entry_148 rfl 0 rfl ?_
    obtain ⟨w104, ew104, hf⟩ := zbs hf
    refine z_gP B fl_RX7_56 ew104 rfl dX7_entry_149 ?_
    refine z_iload_n B dX7_entry_152 rfl 1 rfl ?_
    obtain ⟨w105, h106, ew105, hf⟩ := zb2s hf
    refine z_callSi B [.ref w104, .int a1] [] cw_X7_weight mt_RX7_173 (tX7_weight hst ew105) ⟨rfl, rfl, (Nat.le_of_ble_eq_true rfl), (Nat.le_of_ble_eq_true rfl), (Nat.le_of_ble_eq_true rfl), (Nat.le_of_ble_eq_true rfl)⟩ rfl rfl (Nat.le_of_ble_eq_true rfl) dX7_entry_153 ?_
    cases hf
    exact z_iret B dX7_entry_156 (Nat.le_of_ble_eq_true rfl) (Nat.le_of_ble_eq_true rfl)
  refine z_if_eq B 41 dX7_entry_36 (by decide) (fun e => absurd e c76) (fun _ => ?_)
  refine z_iconst (v := 0) B dX7_entry_39 (by decide) ?_
  cases hf
  exact z_iret B dX7_entry_40 (Nat.le_of_ble_eq_true rfl) (Nat.le_of_ble_eq_true rfl)
abbrev rm_X7_form : Room := { frames := 2, cells := 0, slots := 0, locals := 46 }
set_option maxRecDepth 100000 in
set_option maxHeartbeats 4000000 in
theorem tX7_form {l : Launch} {G : zG} (hst : l.stackTraces = false) {h : zH} {a0 : Nat} {a1 : Int32} {a2 : Int32} {a3 : Int32} {r : Int32 × zH} (hf : fX7_form h a0 a1 a2 a3 = some r) : zMet l G yX7_form (.code yX7_form cX7_form 4 (some .int)) rm_X7_form 0 0 [.ref a0, .int a1, .int a2, .int a3] h (zoi r) := by
  unfold fX7_form at hf
  obtain ⟨-, hf⟩ := zck hf
  refine z_enter (by decide) (Nat.le_of_ble_eq_true rfl) hst (fun x hx B hE => ?_)
  subst hx
  have B : zB G x cX7_form 4 RX7 "form" rm_X7_form (some .int) := B
  show zV G x 4 (zQ G x (zoi r) 0 0) h 0 0 0 [(0, .ref a0), (1, .int a1), (2, .int a2), (3, .int a3)] []
  refine z_aload_n B dX7_form_0 rfl 0 rfl ?_
  refine z_aload_n B dX7_form_1 rfl 0 rfl ?_
  obtain ⟨w1, ew1, hf⟩ := zbs hf
  refine z_gP B fl_RX7_56 ew1 rfl dX7_form_2 ?_
  refine z_iload_n B dX7_form_5 rfl 1 rfl ?_
  obtain ⟨w2, h3, ew2, hf⟩ := zb2s hf
  refine z_callSi B [.ref w1, .int a1] [.ref a0] cw_X7_isEntry mt_RX7_204 (tX7_isEntry hst ew2) ⟨rfl, rfl, (Nat.le_of_ble_eq_true rfl), (Nat.le_of_ble_eq_true rfl), (Nat.le_of_ble_eq_true rfl), (Nat.le_of_ble_eq_true rfl)⟩ rfl rfl (Nat.le_of_ble_eq_true rfl) dX7_form_6 ?_
  rcases zite hf with ⟨c4, hf⟩ | ⟨c4, hf⟩
  · refine z_if_eq B 24 dX7_form_9 (by decide) (fun _ => ?_) (fun e => absurd c4 e)
    refine z_iconst (v := 1) B dX7_form_24 (by decide) ?_
    obtain ⟨w5, h6, ew5, hf⟩ := zb2s hf
    refine z_callVi B [.int 1] [] cw_X7_refused mv_RX7_112 (tX7_refused hst ew5) rfl (by decide) (kfX7_refused ew5) ⟨rfl, rfl, (Nat.le_of_ble_eq_true rfl), (Nat.le_of_ble_eq_true rfl), (Nat.le_of_ble_eq_true rfl), (Nat.le_of_ble_eq_true rfl)⟩ rfl rfl (Nat.le_of_ble_eq_true rfl) dX7_form_25 ?_
    rcases zite hf with ⟨c7, hf⟩ | ⟨c7, hf⟩
    · refine z_if_eq B 33 dX7_form_28 (by decide) (fun _ => ?_) (fun e => absurd c7 e)
      refine z_aload_n B dX7_form_33 rfl 0 rfl ?_
      obtain ⟨w8, ew8, hf⟩ := zbs hf
      refine z_gP B fl_RX7_56 ew8 rfl dX7_form_34 ?_
      refine z_iload_n B dX7_form_37 rfl 1 rfl ?_
      obtain ⟨w9, h10, ew9, hf⟩ := zb2s hf
      refine z_callSi B [.int a1] [.ref w8] cw_X7_at mt_RX7_163 (tX7_at hst ew9) ⟨rfl, rfl, (Nat.le_of_ble_eq_true rfl), (Nat.le_of_ble_eq_true rfl), (Nat.le_of_ble_eq_true rfl), (Nat.le_of_ble_eq_true rfl)⟩ rfl rfl (Nat.le_of_ble_eq_true rfl) dX7_form_38 ?_
      refine z_bipush (v := 16) B dX7_form_41 (by decide) ?_
      refine z_iadd B dX7_form_43 ?_
      refine z_iload_n B dX7_form_44 rfl 2 rfl ?_
      refine z_iadd B dX7_form_45 ?_
      obtain ⟨w11, ew11, hf⟩ := zbs hf
      refine z_aI B ew11 dX7_form_46 ?_
      rcases zite hf with ⟨c12, hf⟩ | ⟨c12, hf⟩
      · refine z_if_ne B 55 dX7_form_47 (by decide) (fun e => absurd c12 e) (fun _ => ?_)
        refine z_bipush (v := (-9)) B dX7_form_50 (by decide) ?_
        refine z_goto B 77 dX7_form_52 (by decide) ?_
        cases hf
        exact z_iret B dX7_form_77 (Nat.le_of_ble_eq_true rfl) (Nat.le_of_ble_eq_true rfl)
      refine z_if_ne B 55 dX7_form_47 (by decide) (fun _ => ?_) (fun e => absurd e c12)
      refine z_aload_n B dX7_form_55 rfl 0 rfl ?_
      obtain ⟨w13, ew13, hf⟩ := zbs hf
      refine z_gP B fl_RX7_56 ew13 rfl dX7_form_56 ?_
      refine z_iload_n B dX7_form_59 rfl 1 rfl ?_
      obtain ⟨w14, h15, ew14, hf⟩ := zb2s hf
      refine z_callSi B [.int a1] [.ref w13] cw_X7_at mt_RX7_163 (tX7_at hst ew14) ⟨rfl, rfl, (Nat.le_of_ble_eq_true rfl), (Nat.le_of_ble_eq_true rfl), (Nat.le_of_ble_eq_true rfl), (Nat.le_of_ble_eq_true rfl)⟩ rfl rfl (Nat.le_of_ble_eq_true rfl) dX7_form_60 ?_
      refine z_iload_n B dX7_form_63 rfl 3 rfl ?_
      rcases zite hf with ⟨c16, hf⟩ | ⟨c16, hf⟩
      · refine z_if_eq B 72 dX7_form_64 (by decide) (fun _ => ?_) (fun e => absurd c16 e)
        refine z_iconst (v := 0) B dX7_form_72 (by decide) ?_
        refine z_iadd B dX7_form_73 ?_
        refine z_iload_n B dX7_form_74 rfl 2 rfl ?_
        refine z_iadd B dX7_form_75 ?_
        obtain ⟨w17, ew17, hf⟩ := zbs hf
        refine z_aI B ew17 dX7_form_76 ?_
        cases hf
        exact z_iret B dX7_form_77 (Nat.le_of_ble_eq_true rfl) (Nat.le_of_ble_eq_true rfl)
      refine z_if_eq B 72 dX7_form_64 (by decide) (fun e => absurd e c16) (fun _ => ?_)
      refine z_bipush (v := 8) B dX7_form_67 (by decide) ?_
      refine z_goto B 73 dX7_form_69 (by decide) ?_
      refine z_iadd B dX7_form_73 ?_
      refine z_iload_n B dX7_form_74 rfl 2 rfl ?_
      refine z_iadd B dX7_form_75 ?_
      obtain ⟨w18, ew18, hf⟩ := zbs hf
      refine z_aI B ew18 dX7_form_76 ?_
      cases hf
      exact z_iret B dX7_form_77 (Nat.le_of_ble_eq_true rfl) (Nat.le_of_ble_eq_true rfl)
    refine z_if_eq B 33 dX7_form_28 (by decide) (fun e => absurd e c7) (fun _ => ?_)
    refine z_iconst (v := 0) B dX7_form_31 (by decide) ?_
    cases hf
    exact z_iret B dX7_form_32 (Nat.le_of_ble_eq_true rfl) (Nat.le_of_ble_eq_true rfl)
  refine z_if_eq B 24 dX7_form_9 (by decide) (fun e => absurd e c4) (fun _ => ?_)
  refine z_aload_n B dX7_form_12 rfl 0 rfl ?_
  refine z_iload_n B dX7_form_13 rfl 2 rfl ?_
  obtain ⟨w19, h20, ew19, hf⟩ := zb2s hf
  refine z_callVi B [.int a2] [.ref a0] cw_X7_isFormat mv_RX7_214 (tX7_isFormat hst ew19) rfl (by decide) (kfX7_isFormat ew19) ⟨rfl, rfl, (Nat.le_of_ble_eq_true rfl), (Nat.le_of_ble_eq_true rfl), (Nat.le_of_ble_eq_true rfl), (Nat.le_of_ble_eq_true rfl)⟩ rfl rfl (Nat.le_of_ble_eq_true rfl) dX7_form_14 ?_
  rcases zite hf with ⟨c21, hf⟩ | ⟨c21, hf⟩
  · refine z_if_eq B 24 dX7_form_17 (by decide) (fun _ => ?_) (fun e => absurd c21 e)
    refine z_iconst (v := 1) B dX7_form_24 (by decide) ?_
    obtain ⟨w22, h23, ew22, hf⟩ := zb2s hf
    refine z_callVi B [.int 1] [] cw_X7_refused mv_RX7_112 (tX7_refused hst ew22) rfl (by decide) (kfX7_refused ew22) ⟨rfl, rfl, (Nat.le_of_ble_eq_true rfl), (Nat.le_of_ble_eq_true rfl), (Nat.le_of_ble_eq_true rfl), (Nat.le_of_ble_eq_true rfl)⟩ rfl rfl (Nat.le_of_ble_eq_true rfl) dX7_form_25 ?_
    rcases zite hf with ⟨c24, hf⟩ | ⟨c24, hf⟩
    · refine z_if_eq B 33 dX7_form_28 (by decide) (fun _ => ?_) (fun e => absurd c24 e)
      refine z_aload_n B dX7_form_33 rfl 0 rfl ?_
      obtain ⟨w25, ew25, hf⟩ := zbs hf
      refine z_gP B fl_RX7_56 ew25 rfl dX7_form_34 ?_
      refine z_iload_n B dX7_form_37 rfl 1 rfl ?_
      obtain ⟨w26, h27, ew26, hf⟩ := zb2s hf
      refine z_callSi B [.int a1] [.ref w25] cw_X7_at mt_RX7_163 (tX7_at hst ew26) ⟨rfl, rfl, (Nat.le_of_ble_eq_true rfl), (Nat.le_of_ble_eq_true rfl), (Nat.le_of_ble_eq_true rfl), (Nat.le_of_ble_eq_true rfl)⟩ rfl rfl (Nat.le_of_ble_eq_true rfl) dX7_form_38 ?_
      refine z_bipush (v := 16) B dX7_form_41 (by decide) ?_
      refine z_iadd B dX7_form_43 ?_
      refine z_iload_n B dX7_form_44 rfl 2 rfl ?_
      refine z_iadd B dX7_form_45 ?_
      obtain ⟨w28, ew28, hf⟩ := zbs hf
      refine z_aI B ew28 dX7_form_46 ?_
      rcases zite hf with ⟨c29, hf⟩ | ⟨c29, hf⟩
      · refine z_if_ne B 55 dX7_form_47 (by decide) (fun e => absurd c29 e) (fun _ => ?_)
        refine z_bipush (v := (-9)) B dX7_form_50 (by decide) ?_
        refine z_goto B 77 dX7_form_52 (by decide) ?_
        cases hf
        exact z_iret B dX7_form_77 (Nat.le_of_ble_eq_true rfl) (Nat.le_of_ble_eq_true rfl)
      refine z_if_ne B 55 dX7_form_47 (by decide) (fun _ => ?_) (fun e => absurd e c29)
      refine z_aload_n B dX7_form_55 rfl 0 rfl ?_
      obtain ⟨w30, ew30, hf⟩ := zbs hf
      refine z_gP B fl_RX7_56 ew30 rfl dX7_form_56 ?_
      refine z_iload_n B dX7_form_59 rfl 1 rfl ?_
      obtain ⟨w31, h32, ew31, hf⟩ := zb2s hf
      refine z_callSi B [.int a1] [.ref w30] cw_X7_at mt_RX7_163 (tX7_at hst ew31) ⟨rfl, rfl, (Nat.le_of_ble_eq_true rfl), (Nat.le_of_ble_eq_true rfl), (Nat.le_of_ble_eq_true rfl), (Nat.le_of_ble_eq_true rfl)⟩ rfl rfl (Nat.le_of_ble_eq_true rfl) dX7_form_60 ?_
      refine z_iload_n B dX7_form_63 rfl 3 rfl ?_
      rcases zite hf with ⟨c33, hf⟩ | ⟨c33, hf⟩
      · refine z_if_eq B 72 dX7_form_64 (by decide) (fun _ => ?_) (fun e => absurd c33 e)
        refine z_iconst (v := 0) B dX7_form_72 (by decide) ?_
        refine z_iadd B dX7_form_73 ?_
        refine z_iload_n B dX7_form_74 rfl 2 rfl ?_
        refine z_iadd B dX7_form_75 ?_
        obtain ⟨w34, ew34, hf⟩ := zbs hf
        refine z_aI B ew34 dX7_form_76 ?_
        cases hf
        exact z_iret B dX7_form_77 (Nat.le_of_ble_eq_true rfl) (Nat.le_of_ble_eq_true rfl)
      refine z_if_eq B 72 dX7_form_64 (by decide) (fun e => absurd e c33) (fun _ => ?_)
      refine z_bipush (v := 8) B dX7_form_67 (by decide) ?_
      refine z_goto B 73 dX7_form_69 (by decide) ?_
      refine z_iadd B dX7_form_73 ?_
      refine z_iload_n B dX7_form_74 rfl 2 rfl ?_
      refine z_iadd B dX7_form_75 ?_
      obtain ⟨w35, ew35, hf⟩ := zbs hf
      refine z_aI B ew35 dX7_form_76 ?_
      cases hf
      exact z_iret B dX7_form_77 (Nat.le_of_ble_eq_true rfl) (Nat.le_of_ble_eq_true rfl)
    refine z_if_eq B 33 dX7_form_28 (by decide) (fun e => absurd e c24) (fun _ => ?_)
    refine z_iconst (v := 0) B dX7_form_31 (by decide) ?_
    cases hf
    exact z_iret B dX7_form_32 (Nat.le_of_ble_eq_true rfl) (Nat.le_of_ble_eq_true rfl)
  refine z_if_eq B 24 dX7_form_17 (by decide) (fun e => absurd e c21) (fun _ => ?_)
  refine z_iconst (v := 0) B dX7_form_20 (by decide) ?_
  refine z_goto B 25 dX7_form_21 (by decide) ?_
  obtain ⟨w36, h37, ew36, hf⟩ := zb2s hf
  refine z_callVi B [.int 0] [] cw_X7_refused mv_RX7_112 (tX7_refused hst ew36) rfl (by decide) (kfX7_refused ew36) ⟨rfl, rfl, (Nat.le_of_ble_eq_true rfl), (Nat.le_of_ble_eq_true rfl), (Nat.le_of_ble_eq_true rfl), (Nat.le_of_ble_eq_true rfl)⟩ rfl rfl (Nat.le_of_ble_eq_true rfl) dX7_form_25 ?_
  rcases zite hf with ⟨c38, hf⟩ | ⟨c38, hf⟩
  · refine z_if_eq B 33 dX7_form_28 (by decide) (fun _ => ?_) (fun e => absurd c38 e)
    refine z_aload_n B dX7_form_33 rfl 0 rfl ?_
    obtain ⟨w39, ew39, hf⟩ := zbs hf
    refine z_gP B fl_RX7_56 ew39 rfl dX7_form_34 ?_
    refine z_iload_n B dX7_form_37 rfl 1 rfl ?_
    obtain ⟨w40, h41, ew40, hf⟩ := zb2s hf
    refine z_callSi B [.int a1] [.ref w39] cw_X7_at mt_RX7_163 (tX7_at hst ew40) ⟨rfl, rfl, (Nat.le_of_ble_eq_true rfl), (Nat.le_of_ble_eq_true rfl), (Nat.le_of_ble_eq_true rfl), (Nat.le_of_ble_eq_true rfl)⟩ rfl rfl (Nat.le_of_ble_eq_true rfl) dX7_form_38 ?_
    refine z_bipush (v := 16) B dX7_form_41 (by decide) ?_
    refine z_iadd B dX7_form_43 ?_
    refine z_iload_n B dX7_form_44 rfl 2 rfl ?_
    refine z_iadd B dX7_form_45 ?_
    obtain ⟨w42, ew42, hf⟩ := zbs hf
    refine z_aI B ew42 dX7_form_46 ?_
    rcases zite hf with ⟨c43, hf⟩ | ⟨c43, hf⟩
    · refine z_if_ne B 55 dX7_form_47 (by decide) (fun e => absurd c43 e) (fun _ => ?_)
      refine z_bipush (v := (-9)) B dX7_form_50 (by decide) ?_
      refine z_goto B 77 dX7_form_52 (by decide) ?_
      cases hf
      exact z_iret B dX7_form_77 (Nat.le_of_ble_eq_true rfl) (Nat.le_of_ble_eq_true rfl)
    refine z_if_ne B 55 dX7_form_47 (by decide) (fun _ => ?_) (fun e => absurd e c43)
    refine z_aload_n B dX7_form_55 rfl 0 rfl ?_
    obtain ⟨w44, ew44, hf⟩ := zbs hf
    refine z_gP B fl_RX7_56 ew44 rfl dX7_form_56 ?_
    refine z_iload_n B dX7_form_59 rfl 1 rfl ?_
    obtain ⟨w45, h46, ew45, hf⟩ := zb2s hf
    refine z_callSi B [.int a1] [.ref w44] cw_X7_at mt_RX7_163 (tX7_at hst ew45) ⟨rfl, rfl, (Nat.le_of_ble_eq_true rfl), (Nat.le_of_ble_eq_true rfl), (Nat.le_of_ble_eq_true rfl), (Nat.le_of_ble_eq_true rfl)⟩ rfl rfl (Nat.le_of_ble_eq_true rfl) dX7_form_60 ?_
    refine z_iload_n B dX7_form_63 rfl 3 rfl ?_
    rcases zite hf with ⟨c47, hf⟩ | ⟨c47, hf⟩
    · refine z_if_eq B 72 dX7_form_64 (by decide) (fun _ => ?_) (fun e => absurd c47 e)
      refine z_iconst (v := 0) B dX7_form_72 (by decide) ?_
      refine z_iadd B dX7_form_73 ?_
      refine z_iload_n B dX7_form_74 rfl 2 rfl ?_
      refine z_iadd B dX7_form_75 ?_
      obtain ⟨w48, ew48, hf⟩ := zbs hf
      refine z_aI B ew48 dX7_form_76 ?_
      cases hf
      exact z_iret B dX7_form_77 (Nat.le_of_ble_eq_true rfl) (Nat.le_of_ble_eq_true rfl)
    refine z_if_eq B 72 dX7_form_64 (by decide) (fun e => absurd e c47) (fun _ => ?_)
    refine z_bipush (v := 8) B dX7_form_67 (by decide) ?_
    refine z_goto B 73 dX7_form_69 (by decide) ?_
    refine z_iadd B dX7_form_73 ?_
    refine z_iload_n B dX7_form_74 rfl 2 rfl ?_
    refine z_iadd B dX7_form_75 ?_
    obtain ⟨w49, ew49, hf⟩ := zbs hf
    refine z_aI B ew49 dX7_form_76 ?_
    cases hf
    exact z_iret B dX7_form_77 (Nat.le_of_ble_eq_true rfl) (Nat.le_of_ble_eq_true rfl)
  refine z_if_eq B 33 dX7_form_28 (by decide) (fun e => absurd e c38) (fun _ => ?_)
  refine z_iconst (v := 0) B dX7_form_31 (by decide) ?_
  cases hf
  exact z_iret B dX7_form_32 (Nat.le_of_ble_eq_true rfl) (Nat.le_of_ble_eq_true rfl)
abbrev rm_X7_pinnedIn : Room := { frames := 1, cells := 0, slots := 0, locals := 20 }
set_option maxRecDepth 100000 in
set_option maxHeartbeats 4000000 in
theorem fX7_pinnedIn_L4_ok {G : zG} {x : zX} (B : zB G x cX7_pinnedIn 4 RX7 "pinnedIn" rm_X7_pinnedIn (some .int)) (hst : (zl x).stackTraces = false) (hE : ∀ e ∈ (zc x).exceptionTable.toList, False) {r : Int32 × zH} {k : zH → Int32 → Int32 → Option (Int32 × zH)} {u0 : Nat} {u1 : Nat} (hk : ∀ h v2 v3, k h v2 v3 = some r → zV G x 4 (zQ G x (zoi r) 0 0) h 0 0 29 [(0, .ref u0), (1, .ref u1), (2, .int v2), (3, .int v3)] []) : ∀ n h v2 v3, fX7_pinnedIn_L4 k u0 u1 n h v2 v3 = some r → zV G x 4 (zQ G x (zoi r) 0 0) h 0 0 4 [(0, .ref u0), (1, .ref u1), (2, .int v2), (3, .int v3)] [] := by
  intro n
  induction n with
  | zero =>
    intro h v2 v3 hf
    have hf : (none : Option (Int32 × zH)) = some r := hf
    cases hf
  | succ n ih =>
    intro h v2 v3 hf
    rw [fX7_pinnedIn_L4] at hf
    refine z_iload_n B dX7_pinnedIn_4 rfl 3 rfl ?_
    refine z_aload_n B dX7_pinnedIn_5 rfl 1 rfl ?_
    refine z_iconst (v := 0) B dX7_pinnedIn_6 (by decide) ?_
    obtain ⟨w1, ew1, hf⟩ := zbs hf
    refine z_aI B ew1 dX7_pinnedIn_7 ?_
    rcases zite hf with ⟨c2, hf⟩ | ⟨c2, hf⟩
    · refine z_icmp_ge B 29 dX7_pinnedIn_8 (by decide) (fun _ => ?_) (fun e => absurd c2 e)
      exact hk _ _ _ hf
    refine z_icmp_ge B 29 dX7_pinnedIn_8 (by decide) (fun e => absurd e c2) (fun _ => ?_)
    refine z_iload_n B dX7_pinnedIn_11 rfl 2 rfl ?_
    refine z_aload_n B dX7_pinnedIn_12 rfl 1 rfl ?_
    refine z_iload_n B dX7_pinnedIn_13 rfl 3 rfl ?_
    obtain ⟨w3, h4, ew3, hf⟩ := zb2s hf
    refine z_callSi B [.int v3] [.ref u1, .int v2] cw_X7_at mt_RX7_163 (tX7_at hst ew3) ⟨rfl, rfl, (Nat.le_of_ble_eq_true rfl), (Nat.le_of_ble_eq_true rfl), (Nat.le_of_ble_eq_true rfl), (Nat.le_of_ble_eq_true rfl)⟩ rfl rfl (Nat.le_of_ble_eq_true rfl) dX7_pinnedIn_14 ?_
    refine z_bipush (v := 24) B dX7_pinnedIn_17 (by decide) ?_
    refine z_iadd B dX7_pinnedIn_19 ?_
    obtain ⟨w5, ew5, hf⟩ := zbs hf
    refine z_aI B ew5 dX7_pinnedIn_20 ?_
    refine z_iadd B dX7_pinnedIn_21 ?_
    refine z_istore_n (lv' := [(2, .int ((v2 : Int32) + w5)), (0, .ref u0), (1, .ref u1), (3, .int v3)]) B dX7_pinnedIn_22 rfl (by decide) rfl ?_
    refine z_iinc (v' := (v3 + 1)) (lv' := [(3, .int (v3 + 1)), (2, .int ((v2 : Int32) + w5)), (0, .ref u0), (1, .ref u1)]) B dX7_pinnedIn_23 3 rfl rfl (by decide) rfl ?_
    refine z_goto B 4 dX7_pinnedIn_26 (by decide) ?_
    refine zV.sub [2, 3, 1, 0] rfl ?_
    exact ih _ _ _ hf
set_option maxRecDepth 100000 in
set_option maxHeartbeats 4000000 in
theorem tX7_pinnedIn {l : Launch} {G : zG} (hst : l.stackTraces = false) {h : zH} {a0 : Nat} {a1 : Nat} {r : Int32 × zH} (hf : fX7_pinnedIn h a0 a1 = some r) : zMet l G yX7_pinnedIn (.code yX7_pinnedIn cX7_pinnedIn 4 (some .int)) rm_X7_pinnedIn 0 0 [.ref a0, .ref a1] h (zoi r) := by
  unfold fX7_pinnedIn at hf
  obtain ⟨-, hf⟩ := zck hf
  refine z_enter (by decide) (Nat.le_of_ble_eq_true rfl) hst (fun x hx B hE => ?_)
  subst hx
  have B : zB G x cX7_pinnedIn 4 RX7 "pinnedIn" rm_X7_pinnedIn (some .int) := B
  show zV G x 4 (zQ G x (zoi r) 0 0) h 0 0 0 [(0, .ref a0), (1, .ref a1)] []
  refine z_iconst (v := 0) B dX7_pinnedIn_0 (by decide) ?_
  refine z_istore_n (lv' := [(2, .int 0), (0, .ref a0), (1, .ref a1)]) B dX7_pinnedIn_1 rfl (by decide) rfl ?_
  refine z_iconst (v := 0) B dX7_pinnedIn_2 (by decide) ?_
  refine z_istore_n (lv' := [(3, .int 0), (2, .int 0), (0, .ref a0), (1, .ref a1)]) B dX7_pinnedIn_3 rfl (by decide) rfl ?_
  refine zV.sub [2, 3, 1, 0] rfl ?_
  refine fX7_pinnedIn_L4_ok B hst hE (fun h1 y2 y3 hf => ?_) _ _ _ _ hf
  refine z_iload_n B dX7_pinnedIn_29 rfl 2 rfl ?_
  cases hf
  exact z_iret B dX7_pinnedIn_30 (Nat.le_of_ble_eq_true rfl) (Nat.le_of_ble_eq_true rfl)
abbrev rm_X7_insert : Room := { frames := 1, cells := 0, slots := 0, locals := 20 }
set_option maxRecDepth 100000 in
set_option maxHeartbeats 4000000 in
theorem fX7_insert_L9_ok {G : zG} {x : zX} (B : zB G x cX7_insert 2 RX7 "insert" rm_X7_insert none) (hst : (zl x).stackTraces = false) (hE : ∀ e ∈ (zc x).exceptionTable.toList, False) {r : zH} {k : zH → Int32 → Option (zH)} {u0 : Nat} (hk : ∀ h v1, k h v1 = some r → zV G x 2 (zQ G x (zov r) 0 0) h 0 0 30 [(0, .ref u0), (1, .int v1)] []) : ∀ n h v1, fX7_insert_L9 k u0 n h v1 = some r → zV G x 2 (zQ G x (zov r) 0 0) h 0 0 9 [(0, .ref u0), (1, .int v1)] [] := by
  intro n
  induction n with
  | zero =>
    intro h v1 hf
    have hf : (none : Option (zH)) = some r := hf
    cases hf
  | succ n ih =>
    intro h v1 hf
    rw [fX7_insert_L9] at hf
    refine z_iload_n B dX7_insert_9 rfl 1 rfl ?_
    refine z_bipush (v := 24) B dX7_insert_10 (by decide) ?_
    rcases zite hf with ⟨c1, hf⟩ | ⟨c1, hf⟩
    · refine z_icmp_lt B 30 dX7_insert_12 (by decide) (fun _ => ?_) (fun e => absurd c1 e)
      exact hk _ _ hf
    refine z_icmp_lt B 30 dX7_insert_12 (by decide) (fun e => absurd e c1) (fun _ => ?_)
    refine z_aload_n B dX7_insert_15 rfl 0 rfl ?_
    refine z_iload_n B dX7_insert_16 rfl 1 rfl ?_
    refine z_bipush (v := 28) B dX7_insert_17 (by decide) ?_
    refine z_iadd B dX7_insert_19 ?_
    refine z_aload_n B dX7_insert_20 rfl 0 rfl ?_
    refine z_iload_n B dX7_insert_21 rfl 1 rfl ?_
    obtain ⟨w2, ew2, hf⟩ := zbs hf
    refine z_aI B ew2 dX7_insert_22 ?_
    obtain ⟨h3, eh3, hf⟩ := zbs hf
    refine z_bI B eh3 dX7_insert_23 ?_
    refine z_iinc (v' := (v1 + (-1))) (lv' := [(1, .int (v1 + (-1))), (0, .ref u0)]) B dX7_insert_24 1 rfl (zdec _) (by decide) rfl ?_
    refine z_goto B 9 dX7_insert_27 (by decide) ?_
    refine zV.sub [1, 0] rfl ?_
    exact ih _ _ hf
set_option maxRecDepth 100000 in
set_option maxHeartbeats 4000000 in
theorem fX7_insert_L32_ok {G : zG} {x : zX} (B : zB G x cX7_insert 2 RX7 "insert" rm_X7_insert none) (hst : (zl x).stackTraces = false) (hE : ∀ e ∈ (zc x).exceptionTable.toList, False) {r : zH} {k : zH → Int32 → Option (zH)} {u0 : Nat} (hk : ∀ h v1, k h v1 = some r → zV G x 2 (zQ G x (zov r) 0 0) h 0 0 51 [(0, .ref u0), (1, .int v1)] []) : ∀ n h v1, fX7_insert_L32 k u0 n h v1 = some r → zV G x 2 (zQ G x (zov r) 0 0) h 0 0 32 [(0, .ref u0), (1, .int v1)] [] := by
  intro n
  induction n with
  | zero =>
    intro h v1 hf
    have hf : (none : Option (zH)) = some r := hf
    cases hf
  | succ n ih =>
    intro h v1 hf
    rw [fX7_insert_L32] at hf
    refine z_iload_n B dX7_insert_32 rfl 1 rfl ?_
    refine z_bipush (v := 28) B dX7_insert_33 (by decide) ?_
    rcases zite hf with ⟨c1, hf⟩ | ⟨c1, hf⟩
    · refine z_icmp_ge B 51 dX7_insert_35 (by decide) (fun _ => ?_) (fun e => absurd c1 e)
      exact hk _ _ hf
    refine z_icmp_ge B 51 dX7_insert_35 (by decide) (fun e => absurd e c1) (fun _ => ?_)
    refine z_aload_n B dX7_insert_38 rfl 0 rfl ?_
    refine z_bipush (v := 24) B dX7_insert_39 (by decide) ?_
    refine z_iload_n B dX7_insert_41 rfl 1 rfl ?_
    refine z_iadd B dX7_insert_42 ?_
    refine z_iconst (v := 0) B dX7_insert_43 (by decide) ?_
    obtain ⟨h2, eh2, hf⟩ := zbs hf
    refine z_bI B eh2 dX7_insert_44 ?_
    refine z_iinc (v' := (v1 + 1)) (lv' := [(1, .int (v1 + 1)), (0, .ref u0)]) B dX7_insert_45 1 rfl rfl (by decide) rfl ?_
    refine z_goto B 32 dX7_insert_48 (by decide) ?_
    refine zV.sub [1, 0] rfl ?_
    exact ih _ _ hf
set_option maxRecDepth 100000 in
set_option maxHeartbeats 4000000 in
theorem tX7_insert {l : Launch} {G : zG} (hst : l.stackTraces = false) {h : zH} {a0 : Nat} {r : zH} (hf : fX7_insert h a0 = some r) : zMet l G yX7_insert (.code yX7_insert cX7_insert 2 none) rm_X7_insert 0 0 [.ref a0] h (zov r) := by
  unfold fX7_insert at hf
  refine z_enter (by decide) (Nat.le_of_ble_eq_true rfl) hst (fun x hx B hE => ?_)
  subst hx
  have B : zB G x cX7_insert 2 RX7 "insert" rm_X7_insert none := B
  show zV G x 2 (zQ G x (zov r) 0 0) h 0 0 0 [(0, .ref a0)] []
  refine z_aload_n B dX7_insert_0 rfl 0 rfl ?_
  refine z_iconst (v := 0) B dX7_insert_1 (by decide) ?_
  obtain ⟨w1, ew1, hf⟩ := zbs hf
  refine z_aI B ew1 dX7_insert_2 ?_
  obtain ⟨w2, h3, ew2, hf⟩ := zb2s hf
  refine z_callSi B [.int w1] [] cw_X7_at mt_RX7_163 (tX7_at hst ew2) ⟨rfl, rfl, (Nat.le_of_ble_eq_true rfl), (Nat.le_of_ble_eq_true rfl), (Nat.le_of_ble_eq_true rfl), (Nat.le_of_ble_eq_true rfl)⟩ rfl rfl (Nat.le_of_ble_eq_true rfl) dX7_insert_3 ?_
  refine z_iconst (v := 1) B dX7_insert_6 (by decide) ?_
  refine z_isub B dX7_insert_7 ?_
  refine z_istore_n (lv' := [(1, .int ((w2 : Int32) - 1)), (0, .ref a0)]) B dX7_insert_8 rfl (by decide) rfl ?_
  refine zV.sub [1, 0] rfl ?_
  refine fX7_insert_L9_ok B hst hE (fun h4 y5 hf => ?_) _ _ _ hf
  refine z_iconst (v := 0) B dX7_insert_30 (by decide) ?_
  refine z_istore_n (lv' := [(1, .int 0), (0, .ref a0)]) B dX7_insert_31 rfl (by decide) rfl ?_
  refine zV.sub [1, 0] rfl ?_
  refine fX7_insert_L32_ok B hst hE (fun h6 y7 hf => ?_) _ _ _ hf
  refine z_aload_n B dX7_insert_51 rfl 0 rfl ?_
  refine z_iconst (v := 0) B dX7_insert_52 (by decide) ?_
  refine z_dup2 B dX7_insert_53 rfl rfl ?_
  obtain ⟨w8, ew8, hf⟩ := zbs hf
  refine z_aI B ew8 dX7_insert_54 ?_
  refine z_iconst (v := 1) B dX7_insert_55 (by decide) ?_
  refine z_iadd B dX7_insert_56 ?_
  obtain ⟨h9, eh9, hf⟩ := zbs hf
  refine z_bI B eh9 dX7_insert_57 ?_
  cases hf
  exact z_vret B dX7_insert_58 (Nat.le_of_ble_eq_true rfl) (Nat.le_of_ble_eq_true rfl)
abbrev rm_X7_copyOn : Room := { frames := 5, cells := 0, slots := 0, locals := 115 }
set_option maxRecDepth 100000 in
set_option maxHeartbeats 4000000 in
theorem tX7_copyOn {l : Launch} {G : zG} (hst : l.stackTraces = false) {h : zH} {a0 : Nat} {a1 : Nat} {a2 : Int32} {a3 : Int32} {r : Int32 × zH} (hf : fX7_copyOn h a0 a1 a2 a3 = some r) : zMet l G yX7_copyOn (.code yX7_copyOn cX7_copyOn 5 (some .int)) rm_X7_copyOn 0 0 [.ref a0, .ref a1, .int a2, .int a3] h (zoi r) := by
  unfold fX7_copyOn at hf
  obtain ⟨-, hf⟩ := zck hf
  refine z_enter (by decide) (Nat.le_of_ble_eq_true rfl) hst (fun x hx B hE => ?_)
  subst hx
  have B : zB G x cX7_copyOn 5 RX7 "copyOn" rm_X7_copyOn (some .int) := B
  show zV G x 5 (zQ G x (zoi r) 0 0) h 0 0 0 [(0, .ref a0), (1, .ref a1), (2, .int a2), (3, .int a3)] []
  refine z_aload_n B dX7_copyOn_0 rfl 0 rfl ?_
  refine z_iload_n B dX7_copyOn_1 rfl 2 rfl ?_
  obtain ⟨w1, h2, ew1, hf⟩ := zb2s hf
  refine z_callVi B [.int a2] [] cw_X7_isFormat mv_RX7_214 (tX7_isFormat hst ew1) rfl (by decide) (kfX7_isFormat ew1) ⟨rfl, rfl, (Nat.le_of_ble_eq_true rfl), (Nat.le_of_ble_eq_true rfl), (Nat.le_of_ble_eq_true rfl), (Nat.le_of_ble_eq_true rfl)⟩ rfl rfl (Nat.le_of_ble_eq_true rfl) dX7_copyOn_2 ?_
  rcases zite hf with ⟨c3, hf⟩ | ⟨c3, hf⟩
  · refine z_if_ne B 10 dX7_copyOn_5 (by decide) (fun e => absurd c3 e) (fun _ => ?_)
    refine z_iconst (v := 1) B dX7_copyOn_8 (by decide) ?_
    cases hf
    exact z_iret B dX7_copyOn_9 (Nat.le_of_ble_eq_true rfl) (Nat.le_of_ble_eq_true rfl)
  refine z_if_ne B 10 dX7_copyOn_5 (by decide) (fun _ => ?_) (fun e => absurd e c3)
  refine z_iload_n B dX7_copyOn_10 rfl 3 rfl ?_
  refine z_i2l B dX7_copyOn_11 ?_
  refine z_lconst (v := 1) B dX7_copyOn_12 (by decide) ?_
  refine z_ldc2 B dX7_copyOn_13 kl_RX7_217 ?_
  obtain ⟨w4, h5, ew4, hf⟩ := zb2s hf
  refine z_callSi B [.long (a3 : Int32).toInt64, .long 1, .long 9999] [] cw_X7_in mt_RX7_97 (tX7_in hst ew4) ⟨rfl, rfl, (Nat.le_of_ble_eq_true rfl), (Nat.le_of_ble_eq_true rfl), (Nat.le_of_ble_eq_true rfl), (Nat.le_of_ble_eq_true rfl)⟩ rfl rfl (Nat.le_of_ble_eq_true rfl) dX7_copyOn_16 ?_
  rcases zite hf with ⟨c6, hf⟩ | ⟨c6, hf⟩
  · refine z_if_ne B 24 dX7_copyOn_19 (by decide) (fun e => absurd c6 e) (fun _ => ?_)
    refine z_iconst (v := 2) B dX7_copyOn_22 (by decide) ?_
    cases hf
    exact z_iret B dX7_copyOn_23 (Nat.le_of_ble_eq_true rfl) (Nat.le_of_ble_eq_true rfl)
  refine z_if_ne B 24 dX7_copyOn_19 (by decide) (fun _ => ?_) (fun e => absurd e c6)
  refine z_aload_n B dX7_copyOn_24 rfl 1 rfl ?_
  refine z_iconst (v := 1) B dX7_copyOn_25 (by decide) ?_
  refine z_dup2 B dX7_copyOn_26 rfl rfl ?_
  obtain ⟨w7, ew7, hf⟩ := zbs hf
  refine z_aI B ew7 dX7_copyOn_27 ?_
  refine z_iconst (v := 1) B dX7_copyOn_28 (by decide) ?_
  refine z_iadd B dX7_copyOn_29 ?_
  obtain ⟨h8, eh8, hf⟩ := zbs hf
  refine z_bI B eh8 dX7_copyOn_30 ?_
  refine z_aload_n B dX7_copyOn_31 rfl 1 rfl ?_
  refine z_iconst (v := 0) B dX7_copyOn_32 (by decide) ?_
  obtain ⟨w9, ew9, hf⟩ := zbs hf
  refine z_aI B ew9 dX7_copyOn_33 ?_
  refine z_bipush (v := 12) B dX7_copyOn_34 (by decide) ?_
  rcases zite hf with ⟨c10, hf⟩ | ⟨c10, hf⟩
  · refine z_icmp_ne B 62 dX7_copyOn_36 (by decide) (fun e => absurd c10 e) (fun _ => ?_)
    refine z_aload_n B dX7_copyOn_39 rfl 1 rfl ?_
    refine z_bipush (v := (-9)) B dX7_copyOn_40 (by decide) ?_
    obtain ⟨w11, h12, ew11, hf⟩ := zb2s hf
    refine z_callSi B [.ref a1, .int (-9)] [] cw_X7_heaviest mt_RX7_183 (tX7_heaviest hst ew11) ⟨rfl, rfl, (Nat.le_of_ble_eq_true rfl), (Nat.le_of_ble_eq_true rfl), (Nat.le_of_ble_eq_true rfl), (Nat.le_of_ble_eq_true rfl)⟩ rfl rfl (Nat.le_of_ble_eq_true rfl) dX7_copyOn_42 ?_
    refine z_istore (lv' := [(4, .int w11), (0, .ref a0), (1, .ref a1), (2, .int a2), (3, .int a3)]) B dX7_copyOn_45 (by decide) rfl ?_
    refine z_iload B dX7_copyOn_47 0 rfl ?_
    refine z_bipush (v := (-9)) B dX7_copyOn_49 (by decide) ?_
    rcases zite hf with ⟨c13, hf⟩ | ⟨c13, hf⟩
    · refine z_icmp_ne B 56 dX7_copyOn_51 (by decide) (fun e => absurd c13 e) (fun _ => ?_)
      refine z_iconst (v := 3) B dX7_copyOn_54 (by decide) ?_
      cases hf
      exact z_iret B dX7_copyOn_55 (Nat.le_of_ble_eq_true rfl) (Nat.le_of_ble_eq_true rfl)
    refine z_icmp_ne B 56 dX7_copyOn_51 (by decide) (fun _ => ?_) (fun e => absurd e c13)
    refine z_aload_n B dX7_copyOn_56 rfl 2 rfl ?_
    refine z_iload B dX7_copyOn_57 0 rfl ?_
    obtain ⟨h14, eh14, hf⟩ := zbs hf
    refine z_callSv B [.ref a1, .int w11] [] cw_X7_drop mt_RX7_190 (tX7_drop hst eh14) ⟨rfl, rfl, (Nat.le_of_ble_eq_true rfl), (Nat.le_of_ble_eq_true rfl), (Nat.le_of_ble_eq_true rfl), (Nat.le_of_ble_eq_true rfl)⟩ rfl rfl (Nat.le_of_ble_eq_true rfl) dX7_copyOn_59 ?_
    refine z_aload_n B dX7_copyOn_62 rfl 2 rfl ?_
    refine z_iload_n B dX7_copyOn_63 rfl 4 rfl ?_
    refine z_bipush (v := (-9)) B dX7_copyOn_64 (by decide) ?_
    refine z_iconst (v := 1) B dX7_copyOn_66 (by decide) ?_
    obtain ⟨w15, h16, ew15, hf⟩ := zb2s hf
    refine z_callSi B [.ref a1, .int a3, .int (-9), .int 1] [] cw_X7_makeRoom mt_RX7_219 (tX7_makeRoom hst ew15) ⟨rfl, rfl, (Nat.le_of_ble_eq_true rfl), (Nat.le_of_ble_eq_true rfl), (Nat.le_of_ble_eq_true rfl), (Nat.le_of_ble_eq_true rfl)⟩ rfl rfl (Nat.le_of_ble_eq_true rfl) dX7_copyOn_67 ?_
    rcases zite hf with ⟨c17, hf⟩ | ⟨c17, hf⟩
    · refine z_if_ne B 75 dX7_copyOn_70 (by decide) (fun e => absurd c17 e) (fun _ => ?_)
      refine z_iconst (v := 3) B dX7_copyOn_73 (by decide) ?_
      cases hf
      exact z_iret B dX7_copyOn_74 (Nat.le_of_ble_eq_true rfl) (Nat.le_of_ble_eq_true rfl)
    refine z_if_ne B 75 dX7_copyOn_70 (by decide) (fun _ => ?_) (fun e => absurd e c17)
    refine z_aload_n B dX7_copyOn_75 rfl 2 rfl ?_
    obtain ⟨h18, eh18, hf⟩ := zbs hf
    refine z_callSv B [.ref a1] [] cw_X7_insert mt_RX7_223 (tX7_insert hst eh18) ⟨rfl, rfl, (Nat.le_of_ble_eq_true rfl), (Nat.le_of_ble_eq_true rfl), (Nat.le_of_ble_eq_true rfl), (Nat.le_of_ble_eq_true rfl)⟩ rfl rfl (Nat.le_of_ble_eq_true rfl) dX7_copyOn_76 ?_
    refine z_aload_n B dX7_copyOn_79 rfl 2 rfl ?_
    refine z_iconst (v := 0) B dX7_copyOn_80 (by decide) ?_
    refine z_iload_n B dX7_copyOn_81 rfl 3 rfl ?_
    refine z_iload_n B dX7_copyOn_82 rfl 4 rfl ?_
    refine z_iconst (v := 0) B dX7_copyOn_83 (by decide) ?_
    refine z_iconst (v := 1) B dX7_copyOn_84 (by decide) ?_
    obtain ⟨h19, eh19, hf⟩ := zbs hf
    refine z_callSv B [.ref a1, .int 0, .int a2, .int a3, .int 0, .int 1] [] cw_X7_putForm mt_RX7_227 (tX7_putForm hst eh19) ⟨rfl, rfl, (Nat.le_of_ble_eq_true rfl), (Nat.le_of_ble_eq_true rfl), (Nat.le_of_ble_eq_true rfl), (Nat.le_of_ble_eq_true rfl)⟩ rfl rfl (Nat.le_of_ble_eq_true rfl) dX7_copyOn_85 ?_
    refine z_aload_n B dX7_copyOn_88 rfl 2 rfl ?_
    refine z_bipush (v := 50) B dX7_copyOn_89 (by decide) ?_
    refine z_aload_n B dX7_copyOn_91 rfl 2 rfl ?_
    refine z_iconst (v := 1) B dX7_copyOn_92 (by decide) ?_
    obtain ⟨w20, ew20, hf⟩ := zbs hf
    refine z_aI B ew20 dX7_copyOn_93 ?_
    obtain ⟨h21, eh21, hf⟩ := zbs hf
    refine z_bI B eh21 dX7_copyOn_94 ?_
    refine z_aload_n B dX7_copyOn_95 rfl 2 rfl ?_
    refine z_bipush (v := 51) B dX7_copyOn_96 (by decide) ?_
    refine z_bipush (v := (-9)) B dX7_copyOn_98 (by decide) ?_
    obtain ⟨h22, eh22, hf⟩ := zbs hf
    refine z_bI B eh22 dX7_copyOn_100 ?_
    refine z_iconst (v := 0) B dX7_copyOn_101 (by decide) ?_
    cases hf
    exact z_iret B dX7_copyOn_102 (Nat.le_of_ble_eq_true rfl) (Nat.le_of_ble_eq_true rfl)
  refine z_icmp_ne B 62 dX7_copyOn_36 (by decide) (fun _ => ?_) (fun e => absurd e c10)
  refine z_aload_n B dX7_copyOn_62 rfl 1 rfl ?_
  refine z_iload_n B dX7_copyOn_63 rfl 3 rfl ?_
  refine z_bipush (v := (-9)) B dX7_copyOn_64 (by decide) ?_
  refine z_iconst (v := 1) B dX7_copyOn_66 (by decide) ?_
  obtain ⟨w23, h24, ew23, hf⟩ := zb2s hf
  refine z_callSi B [.ref a1, .int a3, .int (-9), .int 1] [] cw_X7_makeRoom mt_RX7_219 (tX7_makeRoom hst ew23) ⟨rfl, rfl, (Nat.le_of_ble_eq_true rfl), (Nat.le_of_ble_eq_true rfl), (Nat.le_of_ble_eq_true rfl), (Nat.le_of_ble_eq_true rfl)⟩ rfl rfl (Nat.le_of_ble_eq_true rfl) dX7_copyOn_67 ?_
  rcases zite hf with ⟨c25, hf⟩ | ⟨c25, hf⟩
  · refine z_if_ne B 75 dX7_copyOn_70 (by decide) (fun e => absurd c25 e) (fun _ => ?_)
    refine z_iconst (v := 3) B dX7_copyOn_73 (by decide) ?_
    cases hf
    exact z_iret B dX7_copyOn_74 (Nat.le_of_ble_eq_true rfl) (Nat.le_of_ble_eq_true rfl)
  refine z_if_ne B 75 dX7_copyOn_70 (by decide) (fun _ => ?_) (fun e => absurd e c25)
  refine z_aload_n B dX7_copyOn_75 rfl 1 rfl ?_
  obtain ⟨h26, eh26, hf⟩ := zbs hf
  refine z_callSv B [.ref a1] [] cw_X7_insert mt_RX7_223 (tX7_insert hst eh26) ⟨rfl, rfl, (Nat.le_of_ble_eq_true rfl), (Nat.le_of_ble_eq_true rfl), (Nat.le_of_ble_eq_true rfl), (Nat.le_of_ble_eq_true rfl)⟩ rfl rfl (Nat.le_of_ble_eq_true rfl) dX7_copyOn_76 ?_
  refine z_aload_n B dX7_copyOn_79 rfl 1 rfl ?_
  refine z_iconst (v := 0) B dX7_copyOn_80 (by decide) ?_
  refine z_iload_n B dX7_copyOn_81 rfl 2 rfl ?_
  refine z_iload_n B dX7_copyOn_82 rfl 3 rfl ?_
  refine z_iconst (v := 0) B dX7_copyOn_83 (by decide) ?_
  refine z_iconst (v := 1) B dX7_copyOn_84 (by decide) ?_
  obtain ⟨h27, eh27, hf⟩ := zbs hf
  refine z_callSv B [.ref a1, .int 0, .int a2, .int a3, .int 0, .int 1] [] cw_X7_putForm mt_RX7_227 (tX7_putForm hst eh27) ⟨rfl, rfl, (Nat.le_of_ble_eq_true rfl), (Nat.le_of_ble_eq_true rfl), (Nat.le_of_ble_eq_true rfl), (Nat.le_of_ble_eq_true rfl)⟩ rfl rfl (Nat.le_of_ble_eq_true rfl) dX7_copyOn_85 ?_
  refine z_aload_n B dX7_copyOn_88 rfl 1 rfl ?_
  refine z_bipush (v := 50) B dX7_copyOn_89 (by decide) ?_
  refine z_aload_n B dX7_copyOn_91 rfl 1 rfl ?_
  refine z_iconst (v := 1) B dX7_copyOn_92 (by decide) ?_
  obtain ⟨w28, ew28, hf⟩ := zbs hf
  refine z_aI B ew28 dX7_copyOn_93 ?_
  obtain ⟨h29, eh29, hf⟩ := zbs hf
  refine z_bI B eh29 dX7_copyOn_94 ?_
  refine z_aload_n B dX7_copyOn_95 rfl 1 rfl ?_
  refine z_bipush (v := 51) B dX7_copyOn_96 (by decide) ?_
  refine z_bipush (v := (-9)) B dX7_copyOn_98 (by decide) ?_
  obtain ⟨h30, eh30, hf⟩ := zbs hf
  refine z_bI B eh30 dX7_copyOn_100 ?_
  refine z_iconst (v := 0) B dX7_copyOn_101 (by decide) ?_
  cases hf
  exact z_iret B dX7_copyOn_102 (Nat.le_of_ble_eq_true rfl) (Nat.le_of_ble_eq_true rfl)
abbrev rm_X7_offerOn : Room := { frames := 5, cells := 0, slots := 0, locals := 115 }
set_option maxRecDepth 100000 in
set_option maxHeartbeats 4000000 in
theorem tX7_offerOn {l : Launch} {G : zG} (hst : l.stackTraces = false) {h : zH} {a0 : Nat} {a1 : Nat} {a2 : Int32} {a3 : Int32} {r : Int32 × zH} (hf : fX7_offerOn h a0 a1 a2 a3 = some r) : zMet l G yX7_offerOn (.code yX7_offerOn cX7_offerOn 4 (some .int)) rm_X7_offerOn 0 0 [.ref a0, .ref a1, .int a2, .int a3] h (zoi r) := by
  unfold fX7_offerOn at hf
  obtain ⟨-, hf⟩ := zck hf
  refine z_enter (by decide) (Nat.le_of_ble_eq_true rfl) hst (fun x hx B hE => ?_)
  subst hx
  have B : zB G x cX7_offerOn 4 RX7 "offerOn" rm_X7_offerOn (some .int) := B
  show zV G x 4 (zQ G x (zoi r) 0 0) h 0 0 0 [(0, .ref a0), (1, .ref a1), (2, .int a2), (3, .int a3)] []
  refine z_aload_n B dX7_offerOn_0 rfl 0 rfl ?_
  refine z_iload_n B dX7_offerOn_1 rfl 2 rfl ?_
  obtain ⟨w1, h2, ew1, hf⟩ := zb2s hf
  refine z_callVi B [.int a2] [] cw_X7_isFormat mv_RX7_214 (tX7_isFormat hst ew1) rfl (by decide) (kfX7_isFormat ew1) ⟨rfl, rfl, (Nat.le_of_ble_eq_true rfl), (Nat.le_of_ble_eq_true rfl), (Nat.le_of_ble_eq_true rfl), (Nat.le_of_ble_eq_true rfl)⟩ rfl rfl (Nat.le_of_ble_eq_true rfl) dX7_offerOn_2 ?_
  rcases zite hf with ⟨c3, hf⟩ | ⟨c3, hf⟩
  · refine z_if_ne B 10 dX7_offerOn_5 (by decide) (fun e => absurd c3 e) (fun _ => ?_)
    refine z_iconst (v := 1) B dX7_offerOn_8 (by decide) ?_
    cases hf
    exact z_iret B dX7_offerOn_9 (Nat.le_of_ble_eq_true rfl) (Nat.le_of_ble_eq_true rfl)
  refine z_if_ne B 10 dX7_offerOn_5 (by decide) (fun _ => ?_) (fun e => absurd e c3)
  refine z_iload_n B dX7_offerOn_10 rfl 3 rfl ?_
  refine z_i2l B dX7_offerOn_11 ?_
  refine z_lconst (v := 1) B dX7_offerOn_12 (by decide) ?_
  refine z_ldc2 B dX7_offerOn_13 kl_RX7_217 ?_
  obtain ⟨w4, h5, ew4, hf⟩ := zb2s hf
  refine z_callSi B [.long (a3 : Int32).toInt64, .long 1, .long 9999] [] cw_X7_in mt_RX7_97 (tX7_in hst ew4) ⟨rfl, rfl, (Nat.le_of_ble_eq_true rfl), (Nat.le_of_ble_eq_true rfl), (Nat.le_of_ble_eq_true rfl), (Nat.le_of_ble_eq_true rfl)⟩ rfl rfl (Nat.le_of_ble_eq_true rfl) dX7_offerOn_16 ?_
  rcases zite hf with ⟨c6, hf⟩ | ⟨c6, hf⟩
  · refine z_if_ne B 24 dX7_offerOn_19 (by decide) (fun e => absurd c6 e) (fun _ => ?_)
    refine z_iconst (v := 2) B dX7_offerOn_22 (by decide) ?_
    cases hf
    exact z_iret B dX7_offerOn_23 (Nat.le_of_ble_eq_true rfl) (Nat.le_of_ble_eq_true rfl)
  refine z_if_ne B 24 dX7_offerOn_19 (by decide) (fun _ => ?_) (fun e => absurd e c6)
  refine z_aload_n B dX7_offerOn_24 rfl 1 rfl ?_
  refine z_iconst (v := 0) B dX7_offerOn_25 (by decide) ?_
  obtain ⟨w7, ew7, hf⟩ := zbs hf
  refine z_aI B ew7 dX7_offerOn_26 ?_
  rcases zite hf with ⟨c8, hf⟩ | ⟨c8, hf⟩
  · refine z_if_eq B 40 dX7_offerOn_27 (by decide) (fun _ => ?_) (fun e => absurd c8 e)
    refine z_iconst (v := 3) B dX7_offerOn_40 (by decide) ?_
    cases hf
    exact z_iret B dX7_offerOn_41 (Nat.le_of_ble_eq_true rfl) (Nat.le_of_ble_eq_true rfl)
  refine z_if_eq B 40 dX7_offerOn_27 (by decide) (fun e => absurd e c8) (fun _ => ?_)
  refine z_aload_n B dX7_offerOn_30 rfl 1 rfl ?_
  refine z_bipush (v := 40) B dX7_offerOn_31 (by decide) ?_
  refine z_iload_n B dX7_offerOn_33 rfl 2 rfl ?_
  refine z_iadd B dX7_offerOn_34 ?_
  obtain ⟨w9, ew9, hf⟩ := zbs hf
  refine z_aI B ew9 dX7_offerOn_35 ?_
  refine z_iconst (v := 1) B dX7_offerOn_36 (by decide) ?_
  rcases zite hf with ⟨c10, hf⟩ | ⟨c10, hf⟩
  · refine z_icmp_ne B 42 dX7_offerOn_37 (by decide) (fun e => absurd c10 e) (fun _ => ?_)
    refine z_iconst (v := 3) B dX7_offerOn_40 (by decide) ?_
    cases hf
    exact z_iret B dX7_offerOn_41 (Nat.le_of_ble_eq_true rfl) (Nat.le_of_ble_eq_true rfl)
  refine z_icmp_ne B 42 dX7_offerOn_37 (by decide) (fun _ => ?_) (fun e => absurd e c10)
  refine z_aload_n B dX7_offerOn_42 rfl 1 rfl ?_
  refine z_iconst (v := 1) B dX7_offerOn_43 (by decide) ?_
  refine z_dup2 B dX7_offerOn_44 rfl rfl ?_
  obtain ⟨w11, ew11, hf⟩ := zbs hf
  refine z_aI B ew11 dX7_offerOn_45 ?_
  refine z_iconst (v := 1) B dX7_offerOn_46 (by decide) ?_
  refine z_iadd B dX7_offerOn_47 ?_
  obtain ⟨h12, eh12, hf⟩ := zbs hf
  refine z_bI B eh12 dX7_offerOn_48 ?_
  refine z_aload_n B dX7_offerOn_49 rfl 1 rfl ?_
  refine z_iconst (v := 0) B dX7_offerOn_50 (by decide) ?_
  refine z_iload_n B dX7_offerOn_51 rfl 2 rfl ?_
  obtain ⟨h13, eh13, hf⟩ := zbs hf
  refine z_callSv B [.ref a1, .int 0, .int a2] [] cw_X7_dropForm mt_RX7_186 (tX7_dropForm hst eh13) ⟨rfl, rfl, (Nat.le_of_ble_eq_true rfl), (Nat.le_of_ble_eq_true rfl), (Nat.le_of_ble_eq_true rfl), (Nat.le_of_ble_eq_true rfl)⟩ rfl rfl (Nat.le_of_ble_eq_true rfl) dX7_offerOn_52 ?_
  refine z_aload_n B dX7_offerOn_55 rfl 1 rfl ?_
  refine z_iload_n B dX7_offerOn_56 rfl 3 rfl ?_
  refine z_iconst (v := 0) B dX7_offerOn_57 (by decide) ?_
  refine z_iconst (v := 1) B dX7_offerOn_58 (by decide) ?_
  obtain ⟨w14, h15, ew14, hf⟩ := zb2s hf
  refine z_callSi B [.ref a1, .int a3, .int 0, .int 1] [] cw_X7_makeRoom mt_RX7_219 (tX7_makeRoom hst ew14) ⟨rfl, rfl, (Nat.le_of_ble_eq_true rfl), (Nat.le_of_ble_eq_true rfl), (Nat.le_of_ble_eq_true rfl), (Nat.le_of_ble_eq_true rfl)⟩ rfl rfl (Nat.le_of_ble_eq_true rfl) dX7_offerOn_59 ?_
  rcases zite hf with ⟨c16, hf⟩ | ⟨c16, hf⟩
  · refine z_if_ne B 67 dX7_offerOn_62 (by decide) (fun e => absurd c16 e) (fun _ => ?_)
    refine z_iconst (v := 3) B dX7_offerOn_65 (by decide) ?_
    cases hf
    exact z_iret B dX7_offerOn_66 (Nat.le_of_ble_eq_true rfl) (Nat.le_of_ble_eq_true rfl)
  refine z_if_ne B 67 dX7_offerOn_62 (by decide) (fun _ => ?_) (fun e => absurd e c16)
  refine z_aload_n B dX7_offerOn_67 rfl 1 rfl ?_
  refine z_iconst (v := 0) B dX7_offerOn_68 (by decide) ?_
  refine z_iload_n B dX7_offerOn_69 rfl 2 rfl ?_
  refine z_iload_n B dX7_offerOn_70 rfl 3 rfl ?_
  refine z_iconst (v := 0) B dX7_offerOn_71 (by decide) ?_
  refine z_iconst (v := 1) B dX7_offerOn_72 (by decide) ?_
  obtain ⟨h17, eh17, hf⟩ := zbs hf
  refine z_callSv B [.ref a1, .int 0, .int a2, .int a3, .int 0, .int 1] [] cw_X7_putForm mt_RX7_227 (tX7_putForm hst eh17) ⟨rfl, rfl, (Nat.le_of_ble_eq_true rfl), (Nat.le_of_ble_eq_true rfl), (Nat.le_of_ble_eq_true rfl), (Nat.le_of_ble_eq_true rfl)⟩ rfl rfl (Nat.le_of_ble_eq_true rfl) dX7_offerOn_73 ?_
  refine z_iconst (v := 0) B dX7_offerOn_76 (by decide) ?_
  cases hf
  exact z_iret B dX7_offerOn_77 (Nat.le_of_ble_eq_true rfl) (Nat.le_of_ble_eq_true rfl)
abbrev rm_X7_layTable : Room := { frames := 0, cells := 0, slots := 0, locals := 0 }
set_option maxRecDepth 100000 in
set_option maxHeartbeats 4000000 in
theorem fX7_layTable_L2_ok {G : zG} {x : zX} (B : zB G x cX7_layTable 7 RX7 "layTable" rm_X7_layTable none) (hst : (zl x).stackTraces = false) (hE : ∀ e ∈ (zc x).exceptionTable.toList, False) {r : zH} {k : zH → Int32 → Option (zH)} {u0 : Nat} {u1 : Nat} {u2 : Int32} (hk : ∀ h v3, k h v3 = some r → zV G x 7 (zQ G x (zov r) 0 0) h 0 0 23 [(0, .ref u0), (1, .ref u1), (2, .int u2), (3, .int v3)] []) : ∀ n h v3, fX7_layTable_L2 k u0 u1 u2 n h v3 = some r → zV G x 7 (zQ G x (zov r) 0 0) h 0 0 2 [(0, .ref u0), (1, .ref u1), (2, .int u2), (3, .int v3)] [] := by
  intro n
  induction n with
  | zero =>
    intro h v3 hf
    have hf : (none : Option (zH)) = some r := hf
    cases hf
  | succ n ih =>
    intro h v3 hf
    rw [fX7_layTable_L2] at hf
    refine z_iload_n B dX7_layTable_2 rfl 3 rfl ?_
    refine z_bipush (v := 64) B dX7_layTable_3 (by decide) ?_
    rcases zite hf with ⟨c1, hf⟩ | ⟨c1, hf⟩
    · refine z_icmp_ge B 23 dX7_layTable_5 (by decide) (fun _ => ?_) (fun e => absurd c1 e)
      exact hk _ _ hf
    refine z_icmp_ge B 23 dX7_layTable_5 (by decide) (fun e => absurd e c1) (fun _ => ?_)
    refine z_aload_n B dX7_layTable_8 rfl 0 rfl ?_
    obtain ⟨w2, ew2, hf⟩ := zbs hf
    refine z_gP B fl_RX7_78 ew2 rfl dX7_layTable_9 ?_
    refine z_iload_n B dX7_layTable_12 rfl 3 rfl ?_
    refine z_ldcw B dX7_layTable_13 kc_RX7_269 ?_
    obtain ⟨h3, eh3, hf⟩ := zbs hf
    refine z_bI B eh3 dX7_layTable_16 ?_
    refine z_iinc (v' := (v3 + 1)) (lv' := [(3, .int (v3 + 1)), (0, .ref u0), (1, .ref u1), (2, .int u2)]) B dX7_layTable_17 3 rfl rfl (by decide) rfl ?_
    refine z_goto B 2 dX7_layTable_20 (by decide) ?_
    refine zV.sub [1, 2, 3, 0] rfl ?_
    exact ih _ _ hf
set_option maxRecDepth 100000 in
set_option maxHeartbeats 4000000 in
theorem fX7_layTable_L25_ok {G : zG} {x : zX} (B : zB G x cX7_layTable 7 RX7 "layTable" rm_X7_layTable none) (hst : (zl x).stackTraces = false) (hE : ∀ e ∈ (zc x).exceptionTable.toList, False) {r : zH} {k : zH → Int32 → Option (zH)} {u0 : Nat} {u1 : Nat} {u2 : Int32} (hk : ∀ h v3, k h v3 = some r → zV G x 7 (zQ G x (zov r) 0 0) h 0 0 81 [(0, .ref u0), (1, .ref u1), (2, .int u2), (3, .int v3)] []) : ∀ n h v3, fX7_layTable_L25 k u0 u1 u2 n h v3 = some r → zV G x 7 (zQ G x (zov r) 0 0) h 0 0 25 [(0, .ref u0), (1, .ref u1), (2, .int u2), (3, .int v3)] [] := by
  intro n
  induction n with
  | zero =>
    intro h v3 hf
    have hf : (none : Option (zH)) = some r := hf
    cases hf
  | succ n ih =>
    intro h v3 hf
    rw [fX7_layTable_L25] at hf
    refine z_iload_n B dX7_layTable_25 rfl 3 rfl ?_
    refine z_aload_n B dX7_layTable_26 rfl 0 rfl ?_
    obtain ⟨w1, ew1, hf⟩ := zbs hf
    refine z_gI B fl_RX7_101 ew1 rfl dX7_layTable_27 ?_
    rcases zite hf with ⟨c2, hf⟩ | ⟨c2, hf⟩
    · refine z_icmp_ge B 81 dX7_layTable_30 (by decide) (fun _ => ?_) (fun e => absurd c2 e)
      exact hk _ _ hf
    refine z_icmp_ge B 81 dX7_layTable_30 (by decide) (fun e => absurd e c2) (fun _ => ?_)
    refine z_aload_n B dX7_layTable_33 rfl 0 rfl ?_
    obtain ⟨w3, ew3, hf⟩ := zbs hf
    refine z_gP B fl_RX7_78 ew3 rfl dX7_layTable_34 ?_
    refine z_bipush (v := 8) B dX7_layTable_37 (by decide) ?_
    refine z_aload_n B dX7_layTable_39 rfl 0 rfl ?_
    obtain ⟨w4, ew4, hf⟩ := zbs hf
    refine z_gP B fl_RX7_17 ew4 rfl dX7_layTable_40 ?_
    refine z_iload_n B dX7_layTable_43 rfl 3 rfl ?_
    obtain ⟨w5, ew5, hf⟩ := zbs hf
    refine z_aI B ew5 dX7_layTable_44 ?_
    refine z_imul B dX7_layTable_45 ?_
    refine z_aload_n B dX7_layTable_46 rfl 0 rfl ?_
    obtain ⟨w6, ew6, hf⟩ := zbs hf
    refine z_gP B fl_RX7_20 ew6 rfl dX7_layTable_47 ?_
    refine z_iload_n B dX7_layTable_50 rfl 3 rfl ?_
    obtain ⟨w7, ew7, hf⟩ := zbs hf
    refine z_aI B ew7 dX7_layTable_51 ?_
    refine z_iadd B dX7_layTable_52 ?_
    refine z_iload_n B dX7_layTable_53 rfl 3 rfl ?_
    refine z_iload_n B dX7_layTable_54 rfl 2 rfl ?_
    rcases zite hf with ⟨c8, hf⟩ | ⟨c8, hf⟩
    · refine z_icmp_ne B 64 dX7_layTable_55 (by decide) (fun e => absurd c8 e) (fun _ => ?_)
      refine z_ldcw B dX7_layTable_58 kc_RX7_269 ?_
      refine z_goto B 74 dX7_layTable_61 (by decide) ?_
      obtain ⟨h9, eh9, hf⟩ := zbs hf
      refine z_bI B eh9 dX7_layTable_74 ?_
      refine z_iinc (v' := (v3 + 1)) (lv' := [(3, .int (v3 + 1)), (0, .ref u0), (1, .ref u1), (2, .int u2)]) B dX7_layTable_75 3 rfl rfl (by decide) rfl ?_
      refine z_goto B 25 dX7_layTable_78 (by decide) ?_
      refine zV.sub [1, 2, 3, 0] rfl ?_
      exact ih _ _ hf
    refine z_icmp_ne B 64 dX7_layTable_55 (by decide) (fun _ => ?_) (fun e => absurd e c8)
    refine z_bipush (v := 16) B dX7_layTable_64 (by decide) ?_
    refine z_aload_n B dX7_layTable_66 rfl 1 rfl ?_
    refine z_iconst (v := 4) B dX7_layTable_67 (by decide) ?_
    refine z_iload_n B dX7_layTable_68 rfl 3 rfl ?_
    refine z_iadd B dX7_layTable_69 ?_
    obtain ⟨w10, ew10, hf⟩ := zbs hf
    refine z_aI B ew10 dX7_layTable_70 ?_
    refine z_imul B dX7_layTable_71 ?_
    refine z_iconst (v := 1) B dX7_layTable_72 (by decide) ?_
    refine z_iadd B dX7_layTable_73 ?_
    obtain ⟨h11, eh11, hf⟩ := zbs hf
    refine z_bI B eh11 dX7_layTable_74 ?_
    refine z_iinc (v' := (v3 + 1)) (lv' := [(3, .int (v3 + 1)), (0, .ref u0), (1, .ref u1), (2, .int u2)]) B dX7_layTable_75 3 rfl rfl (by decide) rfl ?_
    refine z_goto B 25 dX7_layTable_78 (by decide) ?_
    refine zV.sub [1, 2, 3, 0] rfl ?_
    exact ih _ _ hf
set_option maxRecDepth 100000 in
set_option maxHeartbeats 4000000 in
theorem fX7_layTable_L83_ok {G : zG} {x : zX} (B : zB G x cX7_layTable 7 RX7 "layTable" rm_X7_layTable none) (hst : (zl x).stackTraces = false) (hE : ∀ e ∈ (zc x).exceptionTable.toList, False) {r : zH} {k : zH → Int32 → Option (zH)} {u0 : Nat} {u1 : Nat} {u2 : Int32} (hk : ∀ h v3, k h v3 = some r → zV G x 7 (zQ G x (zov r) 0 0) h 0 0 122 [(0, .ref u0), (1, .ref u1), (2, .int u2), (3, .int v3)] []) : ∀ n h v3, fX7_layTable_L83 k u0 u1 u2 n h v3 = some r → zV G x 7 (zQ G x (zov r) 0 0) h 0 0 83 [(0, .ref u0), (1, .ref u1), (2, .int u2), (3, .int v3)] [] := by
  intro n
  induction n with
  | zero =>
    intro h v3 hf
    have hf : (none : Option (zH)) = some r := hf
    cases hf
  | succ n ih =>
    intro h v3 hf
    rw [fX7_layTable_L83] at hf
    refine z_iload_n B dX7_layTable_83 rfl 3 rfl ?_
    refine z_bipush (v := 64) B dX7_layTable_84 (by decide) ?_
    rcases zite hf with ⟨c1, hf⟩ | ⟨c1, hf⟩
    · refine z_icmp_ge B 122 dX7_layTable_86 (by decide) (fun _ => ?_) (fun e => absurd c1 e)
      exact hk _ _ hf
    refine z_icmp_ge B 122 dX7_layTable_86 (by decide) (fun e => absurd e c1) (fun _ => ?_)
    refine z_aload_n B dX7_layTable_89 rfl 0 rfl ?_
    obtain ⟨w2, ew2, hf⟩ := zbs hf
    refine z_gP B fl_RX7_75 ew2 rfl dX7_layTable_90 ?_
    refine z_iload_n B dX7_layTable_93 rfl 3 rfl ?_
    refine z_iload_n B dX7_layTable_94 rfl 3 rfl ?_
    refine z_bipush (v := 8) B dX7_layTable_95 (by decide) ?_
    refine z_irem B dX7_layTable_97 (by decide) ?_
    refine z_iload_n B dX7_layTable_98 rfl 3 rfl ?_
    refine z_bipush (v := 8) B dX7_layTable_99 (by decide) ?_
    refine z_idiv B dX7_layTable_101 (by decide) ?_
    rcases zite hf with ⟨c3, hf⟩ | ⟨c3, hf⟩
    · refine z_icmp_ne B 109 dX7_layTable_102 (by decide) (fun e => absurd c3 e) (fun _ => ?_)
      refine z_iconst (v := 0) B dX7_layTable_105 (by decide) ?_
      refine z_goto B 115 dX7_layTable_106 (by decide) ?_
      obtain ⟨h4, eh4, hf⟩ := zbs hf
      refine z_bI B eh4 dX7_layTable_115 ?_
      refine z_iinc (v' := (v3 + 1)) (lv' := [(3, .int (v3 + 1)), (0, .ref u0), (1, .ref u1), (2, .int u2)]) B dX7_layTable_116 3 rfl rfl (by decide) rfl ?_
      refine z_goto B 83 dX7_layTable_119 (by decide) ?_
      refine zV.sub [1, 2, 3, 0] rfl ?_
      exact ih _ _ hf
    refine z_icmp_ne B 109 dX7_layTable_102 (by decide) (fun _ => ?_) (fun e => absurd e c3)
    refine z_aload_n B dX7_layTable_109 rfl 0 rfl ?_
    obtain ⟨w5, ew5, hf⟩ := zbs hf
    refine z_gP B fl_RX7_78 ew5 rfl dX7_layTable_110 ?_
    refine z_iload_n B dX7_layTable_113 rfl 3 rfl ?_
    obtain ⟨w6, ew6, hf⟩ := zbs hf
    refine z_aI B ew6 dX7_layTable_114 ?_
    obtain ⟨h7, eh7, hf⟩ := zbs hf
    refine z_bI B eh7 dX7_layTable_115 ?_
    refine z_iinc (v' := (v3 + 1)) (lv' := [(3, .int (v3 + 1)), (0, .ref u0), (1, .ref u1), (2, .int u2)]) B dX7_layTable_116 3 rfl rfl (by decide) rfl ?_
    refine z_goto B 83 dX7_layTable_119 (by decide) ?_
    refine zV.sub [1, 2, 3, 0] rfl ?_
    exact ih _ _ hf
set_option maxRecDepth 100000 in
set_option maxHeartbeats 4000000 in
theorem fX7_layTable_L147_ok {G : zG} {x : zX} (B : zB G x cX7_layTable 7 RX7 "layTable" rm_X7_layTable none) (hst : (zl x).stackTraces = false) (hE : ∀ e ∈ (zc x).exceptionTable.toList, False) {r : zH} {k : zH → Int32 → Option (zH)} {u0 : Nat} {u1 : Nat} {u2 : Int32} {u3 : Int32} {u4 : Int32} (hk : ∀ h v5, k h v5 = some r → zV G x 7 (zQ G x (zov r) 0 0) h 0 0 238 [(0, .ref u0), (1, .ref u1), (2, .int u2), (3, .int u3), (4, .int u4), (5, .int v5)] []) : ∀ n h v5, fX7_layTable_L147 k u0 u1 u2 u3 u4 n h v5 = some r → zV G x 7 (zQ G x (zov r) 0 0) h 0 0 147 [(0, .ref u0), (1, .ref u1), (2, .int u2), (3, .int u3), (4, .int u4), (5, .int v5)] [] := by
  intro n
  induction n with
  | zero =>
    intro h v5 hf
    have hf : (none : Option (zH)) = some r := hf
    cases hf
  | succ n ih =>
    intro h v5 hf
    rw [fX7_layTable_L147] at hf
    refine z_iload B dX7_layTable_147 5 rfl ?_
    refine z_aload_n B dX7_layTable_149 rfl 0 rfl ?_
    obtain ⟨w1, ew1, hf⟩ := zbs hf
    refine z_gI B fl_RX7_13 ew1 rfl dX7_layTable_150 ?_
    rcases zite hf with ⟨c2, hf⟩ | ⟨c2, hf⟩
    · refine z_icmp_ge B 238 dX7_layTable_153 (by decide) (fun _ => ?_) (fun e => absurd c2 e)
      exact hk _ _ hf
    refine z_icmp_ge B 238 dX7_layTable_153 (by decide) (fun e => absurd e c2) (fun _ => ?_)
    refine z_aload_n B dX7_layTable_156 rfl 0 rfl ?_
    obtain ⟨w3, ew3, hf⟩ := zbs hf
    refine z_gP B fl_RX7_75 ew3 rfl dX7_layTable_157 ?_
    refine z_bipush (v := 8) B dX7_layTable_160 (by decide) ?_
    refine z_iload B dX7_layTable_162 4 rfl ?_
    refine z_imul B dX7_layTable_164 ?_
    refine z_iload_n B dX7_layTable_165 rfl 3 rfl ?_
    refine z_iadd B dX7_layTable_166 ?_
    obtain ⟨w4, ew4, hf⟩ := zbs hf
    refine z_aI B ew4 dX7_layTable_167 ?_
    refine z_aload_n B dX7_layTable_168 rfl 0 rfl ?_
    obtain ⟨w5, ew5, hf⟩ := zbs hf
    refine z_gP B fl_RX7_75 ew5 rfl dX7_layTable_169 ?_
    refine z_bipush (v := 8) B dX7_layTable_172 (by decide) ?_
    refine z_iload_n B dX7_layTable_174 rfl 3 rfl ?_
    refine z_imul B dX7_layTable_175 ?_
    refine z_iload B dX7_layTable_176 5 rfl ?_
    refine z_iadd B dX7_layTable_178 ?_
    obtain ⟨w6, ew6, hf⟩ := zbs hf
    refine z_aI B ew6 dX7_layTable_179 ?_
    refine z_iadd B dX7_layTable_180 ?_
    refine z_istore (lv' := [(6, .int ((w4 : Int32) + w6)), (0, .ref u0), (1, .ref u1), (2, .int u2), (3, .int u3), (4, .int u4), (5, .int v5)]) B dX7_layTable_181 (by decide) rfl ?_
    refine z_aload_n B dX7_layTable_183 rfl 1 rfl ?_
    obtain ⟨w7, ew7, hf⟩ := zbs hf
    refine z_gP B fl_RX7_75 ew7 rfl dX7_layTable_184 ?_
    refine z_bipush (v := 8) B dX7_layTable_187 (by decide) ?_
    refine z_iload B dX7_layTable_189 5 rfl ?_
    refine z_imul B dX7_layTable_191 ?_
    refine z_iload B dX7_layTable_192 6 rfl ?_
    refine z_iadd B dX7_layTable_194 ?_
    refine z_iload B dX7_layTable_195 0 rfl ?_
    refine z_aload_n B dX7_layTable_197 rfl 1 rfl ?_
    obtain ⟨w8, ew8, hf⟩ := zbs hf
    refine z_gP B fl_RX7_75 ew8 rfl dX7_layTable_198 ?_
    refine z_bipush (v := 8) B dX7_layTable_201 (by decide) ?_
    refine z_iload B dX7_layTable_203 5 rfl ?_
    refine z_imul B dX7_layTable_205 ?_
    refine z_iload B dX7_layTable_206 6 rfl ?_
    refine z_iadd B dX7_layTable_208 ?_
    obtain ⟨w9, ew9, hf⟩ := zbs hf
    refine z_aI B ew9 dX7_layTable_209 ?_
    rcases zite hf with ⟨c10, hf⟩ | ⟨c10, hf⟩
    · refine z_icmp_ge B 218 dX7_layTable_210 (by decide) (fun _ => ?_) (fun e => absurd c10 e)
      refine z_aload_n B dX7_layTable_218 rfl 1 rfl ?_
      obtain ⟨w11, ew11, hf⟩ := zbs hf
      refine z_gP B fl_RX7_75 ew11 rfl dX7_layTable_219 ?_
      refine z_bipush (v := 8) B dX7_layTable_222 (by decide) ?_
      refine z_iload B dX7_layTable_224 5 rfl ?_
      refine z_imul B dX7_layTable_226 ?_
      refine z_iload B dX7_layTable_227 6 rfl ?_
      refine z_iadd B dX7_layTable_229 ?_
      obtain ⟨w12, ew12, hf⟩ := zbs hf
      refine z_aI B ew12 dX7_layTable_230 ?_
      obtain ⟨h13, eh13, hf⟩ := zbs hf
      refine z_bI B eh13 dX7_layTable_231 ?_
      refine z_iinc (v' := (v5 + 1)) (lv' := [(5, .int (v5 + 1)), (6, .int ((w4 : Int32) + w6)), (0, .ref u0), (1, .ref u1), (2, .int u2), (3, .int u3), (4, .int u4)]) B dX7_layTable_232 6 rfl rfl (by decide) rfl ?_
      refine z_goto B 147 dX7_layTable_235 (by decide) ?_
      refine zV.sub [2, 3, 4, 5, 6, 0] rfl ?_
      exact ih _ _ hf
    refine z_icmp_ge B 218 dX7_layTable_210 (by decide) (fun e => absurd e c10) (fun _ => ?_)
    refine z_iload B dX7_layTable_213 0 rfl ?_
    refine z_goto B 231 dX7_layTable_215 (by decide) ?_
    obtain ⟨h14, eh14, hf⟩ := zbs hf
    refine z_bI B eh14 dX7_layTable_231 ?_
    refine z_iinc (v' := (v5 + 1)) (lv' := [(5, .int (v5 + 1)), (6, .int ((w4 : Int32) + w6)), (0, .ref u0), (1, .ref u1), (2, .int u2), (3, .int u3), (4, .int u4)]) B dX7_layTable_232 6 rfl rfl (by decide) rfl ?_
    refine z_goto B 147 dX7_layTable_235 (by decide) ?_
    refine zV.sub [2, 3, 4, 5, 6, 0] rfl ?_
    exact ih _ _ hf
set_option maxRecDepth 100000 in
set_option maxHeartbeats 4000000 in
theorem fX7_layTable_L135_ok {G : zG} {x : zX} (B : zB G x cX7_layTable 7 RX7 "layTable" rm_X7_layTable none) (hst : (zl x).stackTraces = false) (hE : ∀ e ∈ (zc x).exceptionTable.toList, False) {r : zH} {k : zH → Int32 → Option (zH)} {u0 : Nat} {u1 : Nat} {u2 : Int32} {u3 : Int32} (hk : ∀ h v4, k h v4 = some r → zV G x 7 (zQ G x (zov r) 0 0) h 0 0 244 [(0, .ref u0), (1, .ref u1), (2, .int u2), (3, .int u3), (4, .int v4)] []) : ∀ n h v4, fX7_layTable_L135 k u0 u1 u2 u3 n h v4 = some r → zV G x 7 (zQ G x (zov r) 0 0) h 0 0 135 [(0, .ref u0), (1, .ref u1), (2, .int u2), (3, .int u3), (4, .int v4)] [] := by
  intro n
  induction n with
  | zero =>
    intro h v4 hf
    have hf : (none : Option (zH)) = some r := hf
    cases hf
  | succ n ih =>
    intro h v4 hf
    rw [fX7_layTable_L135] at hf
    refine z_iload B dX7_layTable_135 4 rfl ?_
    refine z_aload_n B dX7_layTable_137 rfl 0 rfl ?_
    obtain ⟨w1, ew1, hf⟩ := zbs hf
    refine z_gI B fl_RX7_13 ew1 rfl dX7_layTable_138 ?_
    rcases zite hf with ⟨c2, hf⟩ | ⟨c2, hf⟩
    · refine z_icmp_ge B 244 dX7_layTable_141 (by decide) (fun _ => ?_) (fun e => absurd c2 e)
      exact hk _ _ hf
    refine z_icmp_ge B 244 dX7_layTable_141 (by decide) (fun e => absurd e c2) (fun _ => ?_)
    refine z_iconst (v := 0) B dX7_layTable_144 (by decide) ?_
    refine z_istore (lv' := [(5, .int 0), (0, .ref u0), (1, .ref u1), (2, .int u2), (3, .int u3), (4, .int v4)]) B dX7_layTable_145 (by decide) rfl ?_
    refine zV.sub [1, 2, 3, 4, 5, 0] rfl ?_
    refine fX7_layTable_L147_ok B hst hE (fun h3 y4 hf => ?_) _ _ _ hf
    refine z_iinc (v' := (v4 + 1)) (lv' := [(4, .int (v4 + 1)), (0, .ref u0), (1, .ref u1), (2, .int u2), (3, .int u3), (5, .int y4)]) B dX7_layTable_238 4 rfl rfl (by decide) rfl ?_
    refine z_goto B 135 dX7_layTable_241 (by decide) ?_
    refine zV.sub [1, 2, 3, 4, 0] rfl ?_
    exact ih _ _ hf
set_option maxRecDepth 100000 in
set_option maxHeartbeats 4000000 in
theorem fX7_layTable_L124_ok {G : zG} {x : zX} (B : zB G x cX7_layTable 7 RX7 "layTable" rm_X7_layTable none) (hst : (zl x).stackTraces = false) (hE : ∀ e ∈ (zc x).exceptionTable.toList, False) {r : zH} {k : zH → Int32 → Option (zH)} {u0 : Nat} {u1 : Nat} {u2 : Int32} (hk : ∀ h v3, k h v3 = some r → zV G x 7 (zQ G x (zov r) 0 0) h 0 0 250 [(0, .ref u0), (1, .ref u1), (2, .int u2), (3, .int v3)] []) : ∀ n h v3, fX7_layTable_L124 k u0 u1 u2 n h v3 = some r → zV G x 7 (zQ G x (zov r) 0 0) h 0 0 124 [(0, .ref u0), (1, .ref u1), (2, .int u2), (3, .int v3)] [] := by
  intro n
  induction n with
  | zero =>
    intro h v3 hf
    have hf : (none : Option (zH)) = some r := hf
    cases hf
  | succ n ih =>
    intro h v3 hf
    rw [fX7_layTable_L124] at hf
    refine z_iload_n B dX7_layTable_124 rfl 3 rfl ?_
    refine z_aload_n B dX7_layTable_125 rfl 0 rfl ?_
    obtain ⟨w1, ew1, hf⟩ := zbs hf
    refine z_gI B fl_RX7_13 ew1 rfl dX7_layTable_126 ?_
    rcases zite hf with ⟨c2, hf⟩ | ⟨c2, hf⟩
    · refine z_icmp_ge B 250 dX7_layTable_129 (by decide) (fun _ => ?_) (fun e => absurd c2 e)
      exact hk _ _ hf
    refine z_icmp_ge B 250 dX7_layTable_129 (by decide) (fun e => absurd e c2) (fun _ => ?_)
    refine z_iconst (v := 0) B dX7_layTable_132 (by decide) ?_
    refine z_istore (lv' := [(4, .int 0), (0, .ref u0), (1, .ref u1), (2, .int u2), (3, .int v3)]) B dX7_layTable_133 (by decide) rfl ?_
    refine zV.sub [1, 2, 3, 4, 0] rfl ?_
    refine fX7_layTable_L135_ok B hst hE (fun h3 y4 hf => ?_) _ _ _ hf
    refine z_iinc (v' := (v3 + 1)) (lv' := [(3, .int (v3 + 1)), (0, .ref u0), (1, .ref u1), (2, .int u2), (4, .int y4)]) B dX7_layTable_244 3 rfl rfl (by decide) rfl ?_
    refine z_goto B 124 dX7_layTable_247 (by decide) ?_
    refine zV.sub [1, 2, 3, 0] rfl ?_
    exact ih _ _ hf
set_option maxRecDepth 100000 in
set_option maxHeartbeats 4000000 in
theorem tX7_layTable {l : Launch} {G : zG} (hst : l.stackTraces = false) {h : zH} {a0 : Nat} {a1 : Nat} {a2 : Int32} {r : zH} (hf : fX7_layTable h a0 a1 a2 = some r) : zMet l G yX7_layTable (.code yX7_layTable cX7_layTable 7 none) rm_X7_layTable 0 0 [.ref a0, .ref a1, .int a2] h (zov r) := by
  unfold fX7_layTable at hf
  obtain ⟨-, hf⟩ := zck hf
  refine z_enter (by decide) (Nat.le_of_ble_eq_true rfl) hst (fun x hx B hE => ?_)
  subst hx
  have B : zB G x cX7_layTable 7 RX7 "layTable" rm_X7_layTable none := B
  show zV G x 7 (zQ G x (zov r) 0 0) h 0 0 0 [(0, .ref a0), (1, .ref a1), (2, .int a2)] []
  refine z_iconst (v := 0) B dX7_layTable_0 (by decide) ?_
  refine z_istore_n (lv' := [(3, .int 0), (0, .ref a0), (1, .ref a1), (2, .int a2)]) B dX7_layTable_1 rfl (by decide) rfl ?_
  refine zV.sub [1, 2, 3, 0] rfl ?_
  refine fX7_layTable_L2_ok B hst hE (fun h1 y2 hf => ?_) _ _ _ hf
  refine z_iconst (v := 0) B dX7_layTable_23 (by decide) ?_
  refine z_istore_n (lv' := [(3, .int 0), (0, .ref a0), (1, .ref a1), (2, .int a2)]) B dX7_layTable_24 rfl (by decide) rfl ?_
  refine zV.sub [1, 2, 3, 0] rfl ?_
  refine fX7_layTable_L25_ok B hst hE (fun h3 y4 hf => ?_) _ _ _ hf
  refine z_iconst (v := 0) B dX7_layTable_81 (by decide) ?_
  refine z_istore_n (lv' := [(3, .int 0), (0, .ref a0), (1, .ref a1), (2, .int a2)]) B dX7_layTable_82 rfl (by decide) rfl ?_
  refine zV.sub [1, 2, 3, 0] rfl ?_
  refine fX7_layTable_L83_ok B hst hE (fun h5 y6 hf => ?_) _ _ _ hf
  refine z_iconst (v := 0) B dX7_layTable_122 (by decide) ?_
  refine z_istore_n (lv' := [(3, .int 0), (0, .ref a0), (1, .ref a1), (2, .int a2)]) B dX7_layTable_123 rfl (by decide) rfl ?_
  refine zV.sub [1, 2, 3, 0] rfl ?_
  refine fX7_layTable_L124_ok B hst hE (fun h7 y8 hf => ?_) _ _ _ hf
  cases hf
  exact z_vret B dX7_layTable_250 (Nat.le_of_ble_eq_true rfl) (Nat.le_of_ble_eq_true rfl)
abbrev rm_X7_costOf : Room := { frames := 0, cells := 0, slots := 0, locals := 0 }
set_option maxRecDepth 100000 in
set_option maxHeartbeats 4000000 in
theorem tX7_costOf {l : Launch} {G : zG} (hst : l.stackTraces = false) {h : zH} {a0 : Nat} {a1 : Int32} {a2 : Int32} {r : Int32 × zH} (hf : fX7_costOf h a0 a1 a2 = some r) : zMet l G yX7_costOf (.code yX7_costOf cX7_costOf 3 (some .int)) rm_X7_costOf 0 0 [.ref a0, .int a1, .int a2] h (zoi r) := by
  unfold fX7_costOf at hf
  obtain ⟨-, hf⟩ := zck hf
  refine z_enter (by decide) (Nat.le_of_ble_eq_true rfl) hst (fun x hx B hE => ?_)
  subst hx
  have B : zB G x cX7_costOf 3 RX7 "costOf" rm_X7_costOf (some .int) := B
  show zV G x 3 (zQ G x (zoi r) 0 0) h 0 0 0 [(0, .ref a0), (1, .int a1), (2, .int a2)] []
  refine z_aload_n B dX7_costOf_0 rfl 0 rfl ?_
  obtain ⟨w1, ew1, hf⟩ := zbs hf
  refine z_gP B fl_RX7_75 ew1 rfl dX7_costOf_1 ?_
  refine z_bipush (v := 8) B dX7_costOf_4 (by decide) ?_
  refine z_iload_n B dX7_costOf_6 rfl 1 rfl ?_
  refine z_imul B dX7_costOf_7 ?_
  refine z_iload_n B dX7_costOf_8 rfl 2 rfl ?_
  refine z_iadd B dX7_costOf_9 ?_
  obtain ⟨w2, ew2, hf⟩ := zbs hf
  refine z_aI B ew2 dX7_costOf_10 ?_
  cases hf
  exact z_iret B dX7_costOf_11 (Nat.le_of_ble_eq_true rfl) (Nat.le_of_ble_eq_true rfl)
abbrev rm_X7_nextOn : Room := { frames := 1, cells := 0, slots := 0, locals := 22 }
set_option maxRecDepth 100000 in
set_option maxHeartbeats 4000000 in
theorem fX7_nextOn_L2_ok {G : zG} {x : zX} (B : zB G x cX7_nextOn 4 RX7 "nextOn" rm_X7_nextOn (some .int)) (hst : (zl x).stackTraces = false) (hE : ∀ e ∈ (zc x).exceptionTable.toList, False) {r : Int32 × zH} {k : zH → Int32 → Option (Int32 × zH)} {u0 : Nat} {u1 : Int32} {u2 : Int32} (hk : ∀ h v3, k h v3 = some r → zV G x 4 (zQ G x (zoi r) 0 0) h 0 0 67 [(0, .ref u0), (1, .int u1), (2, .int u2), (3, .int v3)] []) : ∀ n h v3, fX7_nextOn_L2 k u0 u1 u2 n h v3 = some r → zV G x 4 (zQ G x (zoi r) 0 0) h 0 0 2 [(0, .ref u0), (1, .int u1), (2, .int u2), (3, .int v3)] [] := by
  intro n
  induction n with
  | zero =>
    intro h v3 hf
    have hf : (none : Option (Int32 × zH)) = some r := hf
    cases hf
  | succ n ih =>
    intro h v3 hf
    rw [fX7_nextOn_L2] at hf
    refine z_iload_n B dX7_nextOn_2 rfl 3 rfl ?_
    refine z_aload_n B dX7_nextOn_3 rfl 0 rfl ?_
    obtain ⟨w1, ew1, hf⟩ := zbs hf
    refine z_gI B fl_RX7_13 ew1 rfl dX7_nextOn_4 ?_
    rcases zite hf with ⟨c2, hf⟩ | ⟨c2, hf⟩
    · refine z_icmp_ge B 67 dX7_nextOn_7 (by decide) (fun _ => ?_) (fun e => absurd c2 e)
      exact hk _ _ hf
    refine z_icmp_ge B 67 dX7_nextOn_7 (by decide) (fun e => absurd e c2) (fun _ => ?_)
    refine z_iload_n B dX7_nextOn_10 rfl 3 rfl ?_
    refine z_iload_n B dX7_nextOn_11 rfl 1 rfl ?_
    rcases zite hf with ⟨c3, hf⟩ | ⟨c3, hf⟩
    · refine z_icmp_eq B 61 dX7_nextOn_12 (by decide) (fun _ => ?_) (fun e => absurd c3 e)
      refine z_iinc (v' := (v3 + 1)) (lv' := [(3, .int (v3 + 1)), (0, .ref u0), (1, .int u1), (2, .int u2)]) B dX7_nextOn_61 3 rfl rfl (by decide) rfl ?_
      refine z_goto B 2 dX7_nextOn_64 (by decide) ?_
      refine zV.sub [1, 2, 3, 0] rfl ?_
      exact ih _ _ hf
    refine z_icmp_eq B 61 dX7_nextOn_12 (by decide) (fun e => absurd e c3) (fun _ => ?_)
    refine z_aload_n B dX7_nextOn_15 rfl 0 rfl ?_
    obtain ⟨w4, ew4, hf⟩ := zbs hf
    refine z_gP B fl_RX7_78 ew4 rfl dX7_nextOn_16 ?_
    refine z_bipush (v := 8) B dX7_nextOn_19 (by decide) ?_
    refine z_iload_n B dX7_nextOn_21 rfl 1 rfl ?_
    refine z_imul B dX7_nextOn_22 ?_
    refine z_iload_n B dX7_nextOn_23 rfl 3 rfl ?_
    refine z_iadd B dX7_nextOn_24 ?_
    obtain ⟨w5, ew5, hf⟩ := zbs hf
    refine z_aI B ew5 dX7_nextOn_25 ?_
    refine z_ldcw B dX7_nextOn_26 kc_RX7_269 ?_
    rcases zite hf with ⟨c6, hf⟩ | ⟨c6, hf⟩
    · refine z_icmp_ge B 61 dX7_nextOn_29 (by decide) (fun _ => ?_) (fun e => absurd c6 e)
      refine z_iinc (v' := (v3 + 1)) (lv' := [(3, .int (v3 + 1)), (0, .ref u0), (1, .int u1), (2, .int u2)]) B dX7_nextOn_61 3 rfl rfl (by decide) rfl ?_
      refine z_goto B 2 dX7_nextOn_64 (by decide) ?_
      refine zV.sub [1, 2, 3, 0] rfl ?_
      exact ih _ _ hf
    refine z_icmp_ge B 61 dX7_nextOn_29 (by decide) (fun e => absurd e c6) (fun _ => ?_)
    refine z_aload_n B dX7_nextOn_32 rfl 0 rfl ?_
    obtain ⟨w7, ew7, hf⟩ := zbs hf
    refine z_gP B fl_RX7_78 ew7 rfl dX7_nextOn_33 ?_
    refine z_bipush (v := 8) B dX7_nextOn_36 (by decide) ?_
    refine z_iload_n B dX7_nextOn_38 rfl 1 rfl ?_
    refine z_imul B dX7_nextOn_39 ?_
    refine z_iload_n B dX7_nextOn_40 rfl 3 rfl ?_
    refine z_iadd B dX7_nextOn_41 ?_
    obtain ⟨w8, ew8, hf⟩ := zbs hf
    refine z_aI B ew8 dX7_nextOn_42 ?_
    refine z_aload_n B dX7_nextOn_43 rfl 0 rfl ?_
    refine z_iload_n B dX7_nextOn_44 rfl 3 rfl ?_
    refine z_iload_n B dX7_nextOn_45 rfl 2 rfl ?_
    obtain ⟨w9, h10, ew9, hf⟩ := zb2s hf
    refine z_callVi B [.int v3, .int u2] [.int w8] cw_X7_costOf mv_RX7_270 (tX7_costOf hst ew9) rfl (by decide) (kfX7_costOf ew9) ⟨rfl, rfl, (Nat.le_of_ble_eq_true rfl), (Nat.le_of_ble_eq_true rfl), (Nat.le_of_ble_eq_true rfl), (Nat.le_of_ble_eq_true rfl)⟩ rfl rfl (Nat.le_of_ble_eq_true rfl) dX7_nextOn_46 ?_
    refine z_iadd B dX7_nextOn_49 ?_
    refine z_aload_n B dX7_nextOn_50 rfl 0 rfl ?_
    refine z_iload_n B dX7_nextOn_51 rfl 1 rfl ?_
    refine z_iload_n B dX7_nextOn_52 rfl 2 rfl ?_
    obtain ⟨w11, h12, ew11, hf⟩ := zb2s hf
    refine z_callVi B [.int u1, .int u2] [.int ((w8 : Int32) + w9)] cw_X7_costOf mv_RX7_270 (tX7_costOf hst ew11) rfl (by decide) (kfX7_costOf ew11) ⟨rfl, rfl, (Nat.le_of_ble_eq_true rfl), (Nat.le_of_ble_eq_true rfl), (Nat.le_of_ble_eq_true rfl), (Nat.le_of_ble_eq_true rfl)⟩ rfl rfl (Nat.le_of_ble_eq_true rfl) dX7_nextOn_53 ?_
    rcases zite hf with ⟨c13, hf⟩ | ⟨c13, hf⟩
    · refine z_icmp_ne B 61 dX7_nextOn_56 (by decide) (fun e => absurd c13 e) (fun _ => ?_)
      refine z_iload_n B dX7_nextOn_59 rfl 3 rfl ?_
      cases hf
      exact z_iret B dX7_nextOn_60 (Nat.le_of_ble_eq_true rfl) (Nat.le_of_ble_eq_true rfl)
    refine z_icmp_ne B 61 dX7_nextOn_56 (by decide) (fun _ => ?_) (fun e => absurd e c13)
    refine z_iinc (v' := (v3 + 1)) (lv' := [(3, .int (v3 + 1)), (0, .ref u0), (1, .int u1), (2, .int u2)]) B dX7_nextOn_61 3 rfl rfl (by decide) rfl ?_
    refine z_goto B 2 dX7_nextOn_64 (by decide) ?_
    refine zV.sub [1, 2, 3, 0] rfl ?_
    exact ih _ _ hf
set_option maxRecDepth 100000 in
set_option maxHeartbeats 4000000 in
theorem tX7_nextOn {l : Launch} {G : zG} (hst : l.stackTraces = false) {h : zH} {a0 : Nat} {a1 : Int32} {a2 : Int32} {r : Int32 × zH} (hf : fX7_nextOn h a0 a1 a2 = some r) : zMet l G yX7_nextOn (.code yX7_nextOn cX7_nextOn 4 (some .int)) rm_X7_nextOn 0 0 [.ref a0, .int a1, .int a2] h (zoi r) := by
  unfold fX7_nextOn at hf
  obtain ⟨-, hf⟩ := zck hf
  refine z_enter (by decide) (Nat.le_of_ble_eq_true rfl) hst (fun x hx B hE => ?_)
  subst hx
  have B : zB G x cX7_nextOn 4 RX7 "nextOn" rm_X7_nextOn (some .int) := B
  show zV G x 4 (zQ G x (zoi r) 0 0) h 0 0 0 [(0, .ref a0), (1, .int a1), (2, .int a2)] []
  refine z_iconst (v := 0) B dX7_nextOn_0 (by decide) ?_
  refine z_istore_n (lv' := [(3, .int 0), (0, .ref a0), (1, .int a1), (2, .int a2)]) B dX7_nextOn_1 rfl (by decide) rfl ?_
  refine zV.sub [1, 2, 3, 0] rfl ?_
  refine fX7_nextOn_L2_ok B hst hE (fun h1 y2 hf => ?_) _ _ _ hf
  refine z_bipush (v := (-9)) B dX7_nextOn_67 (by decide) ?_
  cases hf
  exact z_iret B dX7_nextOn_69 (Nat.le_of_ble_eq_true rfl) (Nat.le_of_ble_eq_true rfl)
abbrev rm_X7_conversionOf : Room := { frames := 0, cells := 0, slots := 0, locals := 0 }
set_option maxRecDepth 100000 in
set_option maxHeartbeats 4000000 in
theorem fX7_conversionOf_L6_ok {G : zG} {x : zX} (B : zB G x cX7_conversionOf 5 RX7 "conversionOf" rm_X7_conversionOf (some .int)) (hst : (zl x).stackTraces = false) (hE : ∀ e ∈ (zc x).exceptionTable.toList, False) {r : Int32 × zH} {k : zH → Int32 → Int32 → Option (Int32 × zH)} {u0 : Nat} {u1 : Int32} {u2 : Int32} (hk : ∀ h v3 v4, k h v3 v4 = some r → zV G x 5 (zQ G x (zoi r) 0 0) h 0 0 50 [(0, .ref u0), (1, .int u1), (2, .int u2), (3, .int v3), (4, .int v4)] []) : ∀ n h v3 v4, fX7_conversionOf_L6 k u0 u1 u2 n h v3 v4 = some r → zV G x 5 (zQ G x (zoi r) 0 0) h 0 0 6 [(0, .ref u0), (1, .int u1), (2, .int u2), (3, .int v3), (4, .int v4)] [] := by
  intro n
  induction n with
  | zero =>
    intro h v3 v4 hf
    have hf : (none : Option (Int32 × zH)) = some r := hf
    cases hf
  | succ n ih =>
    intro h v3 v4 hf
    rw [fX7_conversionOf_L6] at hf
    refine z_iload B dX7_conversionOf_6 4 rfl ?_
    refine z_aload_n B dX7_conversionOf_8 rfl 0 rfl ?_
    obtain ⟨w1, ew1, hf⟩ := zbs hf
    refine z_gI B fl_RX7_101 ew1 rfl dX7_conversionOf_9 ?_
    rcases zite hf with ⟨c2, hf⟩ | ⟨c2, hf⟩
    · refine z_icmp_ge B 50 dX7_conversionOf_12 (by decide) (fun _ => ?_) (fun e => absurd c2 e)
      exact hk _ _ _ hf
    refine z_icmp_ge B 50 dX7_conversionOf_12 (by decide) (fun e => absurd e c2) (fun _ => ?_)
    refine z_aload_n B dX7_conversionOf_15 rfl 0 rfl ?_
    obtain ⟨w3, ew3, hf⟩ := zbs hf
    refine z_gP B fl_RX7_17 ew3 rfl dX7_conversionOf_16 ?_
    refine z_iload B dX7_conversionOf_19 4 rfl ?_
    obtain ⟨w4, ew4, hf⟩ := zbs hf
    refine z_aI B ew4 dX7_conversionOf_21 ?_
    refine z_iload_n B dX7_conversionOf_22 rfl 1 rfl ?_
    rcases zite hf with ⟨c5, hf⟩ | ⟨c5, hf⟩
    · refine z_icmp_ne B 42 dX7_conversionOf_23 (by decide) (fun e => absurd c5 e) (fun _ => ?_)
      refine z_aload_n B dX7_conversionOf_26 rfl 0 rfl ?_
      obtain ⟨w6, ew6, hf⟩ := zbs hf
      refine z_gP B fl_RX7_20 ew6 rfl dX7_conversionOf_27 ?_
      refine z_iload B dX7_conversionOf_30 4 rfl ?_
      obtain ⟨w7, ew7, hf⟩ := zbs hf
      refine z_aI B ew7 dX7_conversionOf_32 ?_
      refine z_iload_n B dX7_conversionOf_33 rfl 2 rfl ?_
      rcases zite hf with ⟨c8, hf⟩ | ⟨c8, hf⟩
      · refine z_icmp_ne B 42 dX7_conversionOf_34 (by decide) (fun e => absurd c8 e) (fun _ => ?_)
        refine z_iload B dX7_conversionOf_37 4 rfl ?_
        refine z_goto B 43 dX7_conversionOf_39 (by decide) ?_
        refine z_istore_n (lv' := [(3, .int v4), (0, .ref u0), (1, .int u1), (2, .int u2), (4, .int v4)]) B dX7_conversionOf_43 rfl (by decide) rfl ?_
        refine z_iinc (v' := (v4 + 1)) (lv' := [(4, .int (v4 + 1)), (3, .int v4), (0, .ref u0), (1, .int u1), (2, .int u2)]) B dX7_conversionOf_44 4 rfl rfl (by decide) rfl ?_
        refine z_goto B 6 dX7_conversionOf_47 (by decide) ?_
        refine zV.sub [2, 3, 4, 1, 0] rfl ?_
        exact ih _ _ _ hf
      refine z_icmp_ne B 42 dX7_conversionOf_34 (by decide) (fun _ => ?_) (fun e => absurd e c8)
      refine z_iload_n B dX7_conversionOf_42 rfl 3 rfl ?_
      refine z_istore_n (lv' := [(3, .int v3), (0, .ref u0), (1, .int u1), (2, .int u2), (4, .int v4)]) B dX7_conversionOf_43 rfl (by decide) rfl ?_
      refine z_iinc (v' := (v4 + 1)) (lv' := [(4, .int (v4 + 1)), (3, .int v3), (0, .ref u0), (1, .int u1), (2, .int u2)]) B dX7_conversionOf_44 4 rfl rfl (by decide) rfl ?_
      refine z_goto B 6 dX7_conversionOf_47 (by decide) ?_
      refine zV.sub [2, 3, 4, 1, 0] rfl ?_
      exact ih _ _ _ hf
    refine z_icmp_ne B 42 dX7_conversionOf_23 (by decide) (fun _ => ?_) (fun e => absurd e c5)
    refine z_iload_n B dX7_conversionOf_42 rfl 3 rfl ?_
    refine z_istore_n (lv' := [(3, .int v3), (0, .ref u0), (1, .int u1), (2, .int u2), (4, .int v4)]) B dX7_conversionOf_43 rfl (by decide) rfl ?_
    refine z_iinc (v' := (v4 + 1)) (lv' := [(4, .int (v4 + 1)), (3, .int v3), (0, .ref u0), (1, .int u1), (2, .int u2)]) B dX7_conversionOf_44 4 rfl rfl (by decide) rfl ?_
    refine z_goto B 6 dX7_conversionOf_47 (by decide) ?_
    refine zV.sub [2, 3, 4, 1, 0] rfl ?_
    exact ih _ _ _ hf
set_option maxRecDepth 100000 in
set_option maxHeartbeats 4000000 in
theorem tX7_conversionOf {l : Launch} {G : zG} (hst : l.stackTraces = false) {h : zH} {a0 : Nat} {a1 : Int32} {a2 : Int32} {r : Int32 × zH} (hf : fX7_conversionOf h a0 a1 a2 = some r) : zMet l G yX7_conversionOf (.code yX7_conversionOf cX7_conversionOf 5 (some .int)) rm_X7_conversionOf 0 0 [.ref a0, .int a1, .int a2] h (zoi r) := by
  unfold fX7_conversionOf at hf
  obtain ⟨-, hf⟩ := zck hf
  refine z_enter (by decide) (Nat.le_of_ble_eq_true rfl) hst (fun x hx B hE => ?_)
  subst hx
  have B : zB G x cX7_conversionOf 5 RX7 "conversionOf" rm_X7_conversionOf (some .int) := B
  show zV G x 5 (zQ G x (zoi r) 0 0) h 0 0 0 [(0, .ref a0), (1, .int a1), (2, .int a2)] []
  refine z_bipush (v := (-9)) B dX7_conversionOf_0 (by decide) ?_
  refine z_istore_n (lv' := [(3, .int (-9)), (0, .ref a0), (1, .int a1), (2, .int a2)]) B dX7_conversionOf_2 rfl (by decide) rfl ?_
  refine z_iconst (v := 0) B dX7_conversionOf_3 (by decide) ?_
  refine z_istore (lv' := [(4, .int 0), (3, .int (-9)), (0, .ref a0), (1, .int a1), (2, .int a2)]) B dX7_conversionOf_4 (by decide) rfl ?_
  refine zV.sub [2, 3, 4, 1, 0] rfl ?_
  refine fX7_conversionOf_L6_ok B hst hE (fun h1 y2 y3 hf => ?_) _ _ _ _ hf
  refine z_iload_n B dX7_conversionOf_50 rfl 3 rfl ?_
  cases hf
  exact z_iret B dX7_conversionOf_51 (Nat.le_of_ble_eq_true rfl) (Nat.le_of_ble_eq_true rfl)
abbrev rm_X7_sizeOn : Room := { frames := 2, cells := 0, slots := 0, locals := 45 }
set_option maxRecDepth 100000 in
set_option maxHeartbeats 4000000 in
theorem fX7_sizeOn_L6_ok {G : zG} {x : zX} (B : zB G x cX7_sizeOn 7 RX7 "sizeOn" rm_X7_sizeOn (some .int)) (hst : (zl x).stackTraces = false) (hE : ∀ e ∈ (zc x).exceptionTable.toList, False) {r : Int32 × zH} {k : zH → Int32 → Int32 → Option (Int32 × zH)} {u0 : Nat} {u1 : Int32} {u2 : Int32} {u3 : Int32} (hk : ∀ h v4 v5, k h v4 v5 = some r → zV G x 7 (zQ G x (zoi r) 0 0) h 0 0 70 [(0, .ref u0), (1, .int u1), (2, .int u2), (3, .int u3), (4, .int v4), (5, .int v5)] []) : ∀ n h v4 v5, fX7_sizeOn_L6 k u0 u1 u2 u3 n h v4 v5 = some r → zV G x 7 (zQ G x (zoi r) 0 0) h 0 0 6 [(0, .ref u0), (1, .int u1), (2, .int u2), (3, .int u3), (4, .int v4), (5, .int v5)] [] := by
  intro n
  induction n with
  | zero =>
    intro h v4 v5 hf
    have hf : (none : Option (Int32 × zH)) = some r := hf
    cases hf
  | succ n ih =>
    intro h v4 v5 hf
    rw [fX7_sizeOn_L6] at hf
    refine z_iload B dX7_sizeOn_6 5 rfl ?_
    refine z_iload_n B dX7_sizeOn_8 rfl 2 rfl ?_
    rcases zite hf with ⟨c1, hf⟩ | ⟨c1, hf⟩
    · refine z_icmp_eq B 70 dX7_sizeOn_9 (by decide) (fun _ => ?_) (fun e => absurd c1 e)
      exact hk _ _ _ hf
    refine z_icmp_eq B 70 dX7_sizeOn_9 (by decide) (fun e => absurd e c1) (fun _ => ?_)
    refine z_aload_n B dX7_sizeOn_12 rfl 0 rfl ?_
    refine z_iload B dX7_sizeOn_13 5 rfl ?_
    refine z_iload_n B dX7_sizeOn_15 rfl 2 rfl ?_
    obtain ⟨w2, h3, ew2, hf⟩ := zb2s hf
    refine z_callVi B [.int v5, .int u2] [] cw_X7_nextOn mv_RX7_274 (tX7_nextOn hst ew2) rfl (by decide) (kfX7_nextOn ew2) ⟨rfl, rfl, (Nat.le_of_ble_eq_true rfl), (Nat.le_of_ble_eq_true rfl), (Nat.le_of_ble_eq_true rfl), (Nat.le_of_ble_eq_true rfl)⟩ rfl rfl (Nat.le_of_ble_eq_true rfl) dX7_sizeOn_16 ?_
    refine z_istore (lv' := [(6, .int w2), (0, .ref u0), (1, .int u1), (2, .int u2), (3, .int u3), (4, .int v4), (5, .int v5)]) B dX7_sizeOn_19 (by decide) rfl ?_
    refine z_iload B dX7_sizeOn_21 5 rfl ?_
    refine z_aload_n B dX7_sizeOn_23 rfl 1 rfl ?_
    obtain ⟨w4, ew4, hf⟩ := zbs hf
    refine z_gP B fl_RX7_23 ew4 rfl dX7_sizeOn_24 ?_
    refine z_aload_n B dX7_sizeOn_27 rfl 1 rfl ?_
    refine z_iload B dX7_sizeOn_28 6 rfl ?_
    refine z_iload B dX7_sizeOn_30 0 rfl ?_
    obtain ⟨w5, h6, ew5, hf⟩ := zb2s hf
    refine z_callVi B [.int v5, .int w2] [.ref w4, .int v4] cw_X7_conversionOf mv_RX7_277 (tX7_conversionOf hst ew5) rfl (by decide) (kfX7_conversionOf ew5) ⟨rfl, rfl, (Nat.le_of_ble_eq_true rfl), (Nat.le_of_ble_eq_true rfl), (Nat.le_of_ble_eq_true rfl), (Nat.le_of_ble_eq_true rfl)⟩ rfl rfl (Nat.le_of_ble_eq_true rfl) dX7_sizeOn_32 ?_
    obtain ⟨w7, ew7, hf⟩ := zbs hf
    refine z_aI B ew7 dX7_sizeOn_35 ?_
    refine z_imul B dX7_sizeOn_36 ?_
    refine z_bipush (v := 9) B dX7_sizeOn_37 (by decide) ?_
    refine z_iadd B dX7_sizeOn_39 ?_
    refine z_bipush (v := 10) B dX7_sizeOn_40 (by decide) ?_
    refine z_idiv B dX7_sizeOn_42 (by decide) ?_
    refine z_istore (lv' := [(4, .int ((((((v4 : Int32) * w7) : Int32) + 9) : Int32) / 10)), (6, .int w2), (0, .ref u0), (1, .int u1), (2, .int u2), (3, .int u3), (5, .int v5)]) B dX7_sizeOn_43 (by decide) rfl ?_
    refine z_iload B dX7_sizeOn_45 0 rfl ?_
    refine z_ldcw B dX7_sizeOn_47 kc_RX7_280 ?_
    rcases zite hf with ⟨c8, hf⟩ | ⟨c8, hf⟩
    · refine z_icmp_le B 59 dX7_sizeOn_50 (by decide) (fun _ => ?_) (fun e => absurd c8 e)
      refine z_iload B dX7_sizeOn_59 0 rfl ?_
      refine z_istore (lv' := [(4, .int ((((((v4 : Int32) * w7) : Int32) + 9) : Int32) / 10)), (6, .int w2), (0, .ref u0), (1, .int u1), (2, .int u2), (3, .int u3), (5, .int v5)]) B dX7_sizeOn_61 (by decide) rfl ?_
      refine z_iload B dX7_sizeOn_63 1 rfl ?_
      refine z_istore (lv' := [(5, .int w2), (4, .int ((((((v4 : Int32) * w7) : Int32) + 9) : Int32) / 10)), (6, .int w2), (0, .ref u0), (1, .int u1), (2, .int u2), (3, .int u3)]) B dX7_sizeOn_65 (by decide) rfl ?_
      refine z_goto B 6 dX7_sizeOn_67 (by decide) ?_
      refine zV.sub [3, 4, 5, 6, 1, 0] rfl ?_
      exact ih _ _ _ hf
    refine z_icmp_le B 59 dX7_sizeOn_50 (by decide) (fun e => absurd e c8) (fun _ => ?_)
    refine z_ldcw B dX7_sizeOn_53 kc_RX7_280 ?_
    refine z_goto B 61 dX7_sizeOn_56 (by decide) ?_
    refine z_istore (lv' := [(4, .int 99999), (6, .int w2), (0, .ref u0), (1, .int u1), (2, .int u2), (3, .int u3), (5, .int v5)]) B dX7_sizeOn_61 (by decide) rfl ?_
    refine z_iload B dX7_sizeOn_63 1 rfl ?_
    refine z_istore (lv' := [(5, .int w2), (4, .int 99999), (6, .int w2), (0, .ref u0), (1, .int u1), (2, .int u2), (3, .int u3)]) B dX7_sizeOn_65 (by decide) rfl ?_
    refine z_goto B 6 dX7_sizeOn_67 (by decide) ?_
    refine zV.sub [3, 4, 5, 6, 1, 0] rfl ?_
    exact ih _ _ _ hf
set_option maxRecDepth 100000 in
set_option maxHeartbeats 4000000 in
theorem tX7_sizeOn {l : Launch} {G : zG} (hst : l.stackTraces = false) {h : zH} {a0 : Nat} {a1 : Int32} {a2 : Int32} {a3 : Int32} {r : Int32 × zH} (hf : fX7_sizeOn h a0 a1 a2 a3 = some r) : zMet l G yX7_sizeOn (.code yX7_sizeOn cX7_sizeOn 7 (some .int)) rm_X7_sizeOn 0 0 [.ref a0, .int a1, .int a2, .int a3] h (zoi r) := by
  unfold fX7_sizeOn at hf
  obtain ⟨-, hf⟩ := zck hf
  refine z_enter (by decide) (Nat.le_of_ble_eq_true rfl) hst (fun x hx B hE => ?_)
  subst hx
  have B : zB G x cX7_sizeOn 7 RX7 "sizeOn" rm_X7_sizeOn (some .int) := B
  show zV G x 7 (zQ G x (zoi r) 0 0) h 0 0 0 [(0, .ref a0), (1, .int a1), (2, .int a2), (3, .int a3)] []
  refine z_iload_n B dX7_sizeOn_0 rfl 3 rfl ?_
  refine z_istore (lv' := [(4, .int a3), (0, .ref a0), (1, .int a1), (2, .int a2), (3, .int a3)]) B dX7_sizeOn_1 (by decide) rfl ?_
  refine z_iload_n B dX7_sizeOn_3 rfl 2 rfl ?_
  refine z_istore (lv' := [(5, .int a1), (4, .int a3), (0, .ref a0), (1, .int a1), (2, .int a2), (3, .int a3)]) B dX7_sizeOn_4 (by decide) rfl ?_
  refine zV.sub [2, 3, 4, 5, 1, 0] rfl ?_
  refine fX7_sizeOn_L6_ok B hst hE (fun h1 y2 y3 hf => ?_) _ _ _ _ hf
  refine z_iload B dX7_sizeOn_70 4 rfl ?_
  cases hf
  exact z_iret B dX7_sizeOn_72 (Nat.le_of_ble_eq_true rfl) (Nat.le_of_ble_eq_true rfl)
abbrev rm_X7_lossOn : Room := { frames := 2, cells := 0, slots := 0, locals := 45 }
set_option maxRecDepth 100000 in
set_option maxHeartbeats 4000000 in
theorem fX7_lossOn_L5_ok {G : zG} {x : zX} (B : zB G x cX7_lossOn 6 RX7 "lossOn" rm_X7_lossOn (some .int)) (hst : (zl x).stackTraces = false) (hE : ∀ e ∈ (zc x).exceptionTable.toList, False) {r : Int32 × zH} {k : zH → Int32 → Int32 → Option (Int32 × zH)} {u0 : Nat} {u1 : Int32} {u2 : Int32} (hk : ∀ h v3 v4, k h v3 v4 = some r → zV G x 6 (zQ G x (zoi r) 0 0) h 0 0 43 [(0, .ref u0), (1, .int u1), (2, .int u2), (3, .int v3), (4, .int v4)] []) : ∀ n h v3 v4, fX7_lossOn_L5 k u0 u1 u2 n h v3 v4 = some r → zV G x 6 (zQ G x (zoi r) 0 0) h 0 0 5 [(0, .ref u0), (1, .int u1), (2, .int u2), (3, .int v3), (4, .int v4)] [] := by
  intro n
  induction n with
  | zero =>
    intro h v3 v4 hf
    have hf : (none : Option (Int32 × zH)) = some r := hf
    cases hf
  | succ n ih =>
    intro h v3 v4 hf
    rw [fX7_lossOn_L5] at hf
    refine z_iload B dX7_lossOn_5 4 rfl ?_
    refine z_iload_n B dX7_lossOn_7 rfl 2 rfl ?_
    rcases zite hf with ⟨c1, hf⟩ | ⟨c1, hf⟩
    · refine z_icmp_eq B 43 dX7_lossOn_8 (by decide) (fun _ => ?_) (fun e => absurd c1 e)
      exact hk _ _ _ hf
    refine z_icmp_eq B 43 dX7_lossOn_8 (by decide) (fun e => absurd e c1) (fun _ => ?_)
    refine z_aload_n B dX7_lossOn_11 rfl 0 rfl ?_
    refine z_iload B dX7_lossOn_12 4 rfl ?_
    refine z_iload_n B dX7_lossOn_14 rfl 2 rfl ?_
    obtain ⟨w2, h3, ew2, hf⟩ := zb2s hf
    refine z_callVi B [.int v4, .int u2] [] cw_X7_nextOn mv_RX7_274 (tX7_nextOn hst ew2) rfl (by decide) (kfX7_nextOn ew2) ⟨rfl, rfl, (Nat.le_of_ble_eq_true rfl), (Nat.le_of_ble_eq_true rfl), (Nat.le_of_ble_eq_true rfl), (Nat.le_of_ble_eq_true rfl)⟩ rfl rfl (Nat.le_of_ble_eq_true rfl) dX7_lossOn_15 ?_
    refine z_istore (lv' := [(5, .int w2), (0, .ref u0), (1, .int u1), (2, .int u2), (3, .int v3), (4, .int v4)]) B dX7_lossOn_18 (by decide) rfl ?_
    refine z_iload_n B dX7_lossOn_20 rfl 4 rfl ?_
    refine z_aload_n B dX7_lossOn_21 rfl 1 rfl ?_
    obtain ⟨w4, ew4, hf⟩ := zbs hf
    refine z_gP B fl_RX7_26 ew4 rfl dX7_lossOn_22 ?_
    refine z_aload_n B dX7_lossOn_25 rfl 1 rfl ?_
    refine z_iload B dX7_lossOn_26 5 rfl ?_
    refine z_iload B dX7_lossOn_28 0 rfl ?_
    obtain ⟨w5, h6, ew5, hf⟩ := zb2s hf
    refine z_callVi B [.int v4, .int w2] [.ref w4, .int v3] cw_X7_conversionOf mv_RX7_277 (tX7_conversionOf hst ew5) rfl (by decide) (kfX7_conversionOf ew5) ⟨rfl, rfl, (Nat.le_of_ble_eq_true rfl), (Nat.le_of_ble_eq_true rfl), (Nat.le_of_ble_eq_true rfl), (Nat.le_of_ble_eq_true rfl)⟩ rfl rfl (Nat.le_of_ble_eq_true rfl) dX7_lossOn_30 ?_
    obtain ⟨w7, ew7, hf⟩ := zbs hf
    refine z_aI B ew7 dX7_lossOn_33 ?_
    refine z_iadd B dX7_lossOn_34 ?_
    refine z_istore_n (lv' := [(3, .int ((v3 : Int32) + w7)), (5, .int w2), (0, .ref u0), (1, .int u1), (2, .int u2), (4, .int v4)]) B dX7_lossOn_35 rfl (by decide) rfl ?_
    refine z_iload B dX7_lossOn_36 1 rfl ?_
    refine z_istore (lv' := [(4, .int w2), (3, .int ((v3 : Int32) + w7)), (5, .int w2), (0, .ref u0), (1, .int u1), (2, .int u2)]) B dX7_lossOn_38 (by decide) rfl ?_
    refine z_goto B 5 dX7_lossOn_40 (by decide) ?_
    refine zV.sub [3, 4, 5, 1, 0] rfl ?_
    exact ih _ _ _ hf
set_option maxRecDepth 100000 in
set_option maxHeartbeats 4000000 in
theorem tX7_lossOn {l : Launch} {G : zG} (hst : l.stackTraces = false) {h : zH} {a0 : Nat} {a1 : Int32} {a2 : Int32} {r : Int32 × zH} (hf : fX7_lossOn h a0 a1 a2 = some r) : zMet l G yX7_lossOn (.code yX7_lossOn cX7_lossOn 6 (some .int)) rm_X7_lossOn 0 0 [.ref a0, .int a1, .int a2] h (zoi r) := by
  unfold fX7_lossOn at hf
  obtain ⟨-, hf⟩ := zck hf
  refine z_enter (by decide) (Nat.le_of_ble_eq_true rfl) hst (fun x hx B hE => ?_)
  subst hx
  have B : zB G x cX7_lossOn 6 RX7 "lossOn" rm_X7_lossOn (some .int) := B
  show zV G x 6 (zQ G x (zoi r) 0 0) h 0 0 0 [(0, .ref a0), (1, .int a1), (2, .int a2)] []
  refine z_iconst (v := 0) B dX7_lossOn_0 (by decide) ?_
  refine z_istore_n (lv' := [(3, .int 0), (0, .ref a0), (1, .int a1), (2, .int a2)]) B dX7_lossOn_1 rfl (by decide) rfl ?_
  refine z_iload_n B dX7_lossOn_2 rfl 2 rfl ?_
  refine z_istore (lv' := [(4, .int a1), (3, .int 0), (0, .ref a0), (1, .int a1), (2, .int a2)]) B dX7_lossOn_3 (by decide) rfl ?_
  refine zV.sub [2, 3, 4, 1, 0] rfl ?_
  refine fX7_lossOn_L5_ok B hst hE (fun h1 y2 y3 hf => ?_) _ _ _ _ hf
  refine z_iload_n B dX7_lossOn_43 rfl 3 rfl ?_
  cases hf
  exact z_iret B dX7_lossOn_44 (Nat.le_of_ble_eq_true rfl) (Nat.le_of_ble_eq_true rfl)
abbrev rm_X7_findWay : Room := { frames := 3, cells := 0, slots := 0, locals := 71 }
set_option maxRecDepth 100000 in
set_option maxHeartbeats 4000000 in
theorem fX7_findWay_L27_ok {G : zG} {x : zX} (B : zB G x cX7_findWay 8 RX7 "findWay" rm_X7_findWay (some .boolean)) (hst : (zl x).stackTraces = false) (hE : ∀ e ∈ (zc x).exceptionTable.toList, False) {r : Int32 × zH} {k : zH → Int32 → Int32 → Option (Int32 × zH)} {u0 : Nat} {u1 : Nat} {u2 : Int32} {u3 : Int32} {u5 : Int32} (hk : ∀ h v4 v6, k h v4 v6 = some r → zV G x 8 (zQ G x (zoi r) 0 0) h 0 0 157 [(0, .ref u0), (1, .ref u1), (2, .int u2), (3, .int u3), (4, .int v4), (5, .int u5), (6, .int v6)] []) : ∀ n h v4 v6, fX7_findWay_L27 k u0 u1 u2 u3 u5 n h v4 v6 = some r → zV G x 8 (zQ G x (zoi r) 0 0) h 0 0 27 [(0, .ref u0), (1, .ref u1), (2, .int u2), (3, .int u3), (4, .int v4), (5, .int u5), (6, .int v6)] [] := by
  intro n
  induction n with
  | zero =>
    intro h v4 v6 hf
    have hf : (none : Option (Int32 × zH)) = some r := hf
    cases hf
  | succ n ih =>
    intro h v4 v6 hf
    rw [fX7_findWay_L27] at hf
    refine z_iload B dX7_findWay_27 6 rfl ?_
    refine z_aload_n B dX7_findWay_29 rfl 0 rfl ?_
    obtain ⟨w1, ew1, hf⟩ := zbs hf
    refine z_gI B fl_RX7_13 ew1 rfl dX7_findWay_30 ?_
    rcases zite hf with ⟨c2, hf⟩ | ⟨c2, hf⟩
    · refine z_icmp_ge B 157 dX7_findWay_33 (by decide) (fun _ => ?_) (fun e => absurd c2 e)
      exact hk _ _ _ hf
    refine z_icmp_ge B 157 dX7_findWay_33 (by decide) (fun e => absurd e c2) (fun _ => ?_)
    refine z_aload_n B dX7_findWay_36 rfl 0 rfl ?_
    obtain ⟨w3, ew3, hf⟩ := zbs hf
    refine z_gP B fl_RX7_29 ew3 rfl dX7_findWay_37 ?_
    refine z_iload_n B dX7_findWay_40 rfl 3 rfl ?_
    obtain ⟨w4, ew4, hf⟩ := zbs hf
    refine z_aI B ew4 dX7_findWay_41 ?_
    refine z_iload B dX7_findWay_42 5 rfl ?_
    refine z_ishr B dX7_findWay_44 ?_
    refine z_iconst (v := 1) B dX7_findWay_45 (by decide) ?_
    refine z_iand B dX7_findWay_46 ?_
    refine z_iconst (v := 1) B dX7_findWay_47 (by decide) ?_
    rcases zite hf with ⟨c5, hf⟩ | ⟨c5, hf⟩
    · refine z_icmp_ne B 88 dX7_findWay_48 (by decide) (fun e => absurd c5 e) (fun _ => ?_)
      refine z_aload_n B dX7_findWay_51 rfl 1 rfl ?_
      refine z_iload_n B dX7_findWay_52 rfl 2 rfl ?_
      obtain ⟨w6, h7, ew6, hf⟩ := zb2s hf
      refine z_callSi B [.int u2] [.ref u1] cw_X7_at mt_RX7_163 (tX7_at hst ew6) ⟨rfl, rfl, (Nat.le_of_ble_eq_true rfl), (Nat.le_of_ble_eq_true rfl), (Nat.le_of_ble_eq_true rfl), (Nat.le_of_ble_eq_true rfl)⟩ rfl rfl (Nat.le_of_ble_eq_true rfl) dX7_findWay_53 ?_
      refine z_bipush (v := 16) B dX7_findWay_56 (by decide) ?_
      refine z_iadd B dX7_findWay_58 ?_
      refine z_iload B dX7_findWay_59 6 rfl ?_
      refine z_iadd B dX7_findWay_61 ?_
      obtain ⟨w8, ew8, hf⟩ := zbs hf
      refine z_aI B ew8 dX7_findWay_62 ?_
      rcases zite hf with ⟨c9, hf⟩ | ⟨c9, hf⟩
      · refine z_if_le B 88 dX7_findWay_63 (by decide) (fun _ => ?_) (fun e => absurd c9 e)
        refine z_iconst (v := 0) B dX7_findWay_88 (by decide) ?_
        refine z_istore (lv' := [(7, .int 0), (0, .ref u0), (1, .ref u1), (2, .int u2), (3, .int u3), (4, .int v4), (5, .int u5), (6, .int v6)]) B dX7_findWay_89 (by decide) rfl ?_
        refine z_iload B dX7_findWay_91 0 rfl ?_
        refine z_if_eq B 151 dX7_findWay_93 (by decide) (fun _ => ?_) (fun e => absurd e (by decide))
        refine z_iinc (v' := (v6 + 1)) (lv' := [(6, .int (v6 + 1)), (7, .int 0), (0, .ref u0), (1, .ref u1), (2, .int u2), (3, .int u3), (4, .int v4), (5, .int u5)]) B dX7_findWay_151 7 rfl rfl (by decide) rfl ?_
        refine z_goto B 27 dX7_findWay_154 (by decide) ?_
        refine zV.sub [2, 3, 4, 5, 6, 7, 0] rfl ?_
        exact ih _ _ _ hf
      refine z_if_le B 88 dX7_findWay_63 (by decide) (fun e => absurd e c9) (fun _ => ?_)
      refine z_aload_n B dX7_findWay_66 rfl 0 rfl ?_
      obtain ⟨w10, ew10, hf⟩ := zbs hf
      refine z_gP B fl_RX7_75 ew10 rfl dX7_findWay_67 ?_
      refine z_bipush (v := 8) B dX7_findWay_70 (by decide) ?_
      refine z_iload B dX7_findWay_72 6 rfl ?_
      refine z_imul B dX7_findWay_74 ?_
      refine z_iload B dX7_findWay_75 5 rfl ?_
      refine z_iadd B dX7_findWay_77 ?_
      obtain ⟨w11, ew11, hf⟩ := zbs hf
      refine z_aI B ew11 dX7_findWay_78 ?_
      refine z_iload B dX7_findWay_79 4 rfl ?_
      rcases zite hf with ⟨c12, hf⟩ | ⟨c12, hf⟩
      · refine z_icmp_ge B 88 dX7_findWay_81 (by decide) (fun _ => ?_) (fun e => absurd c12 e)
        refine z_iconst (v := 0) B dX7_findWay_88 (by decide) ?_
        refine z_istore (lv' := [(7, .int 0), (0, .ref u0), (1, .ref u1), (2, .int u2), (3, .int u3), (4, .int v4), (5, .int u5), (6, .int v6)]) B dX7_findWay_89 (by decide) rfl ?_
        refine z_iload B dX7_findWay_91 0 rfl ?_
        refine z_if_eq B 151 dX7_findWay_93 (by decide) (fun _ => ?_) (fun e => absurd e (by decide))
        refine z_iinc (v' := (v6 + 1)) (lv' := [(6, .int (v6 + 1)), (7, .int 0), (0, .ref u0), (1, .ref u1), (2, .int u2), (3, .int u3), (4, .int v4), (5, .int u5)]) B dX7_findWay_151 7 rfl rfl (by decide) rfl ?_
        refine z_goto B 27 dX7_findWay_154 (by decide) ?_
        refine zV.sub [2, 3, 4, 5, 6, 7, 0] rfl ?_
        exact ih _ _ _ hf
      refine z_icmp_ge B 88 dX7_findWay_81 (by decide) (fun e => absurd e c12) (fun _ => ?_)
      refine z_iconst (v := 1) B dX7_findWay_84 (by decide) ?_
      refine z_goto B 89 dX7_findWay_85 (by decide) ?_
      refine z_istore (lv' := [(7, .int 1), (0, .ref u0), (1, .ref u1), (2, .int u2), (3, .int u3), (4, .int v4), (5, .int u5), (6, .int v6)]) B dX7_findWay_89 (by decide) rfl ?_
      refine z_iload B dX7_findWay_91 0 rfl ?_
      refine z_if_eq B 151 dX7_findWay_93 (by decide) (fun e => absurd e (by decide)) (fun _ => ?_)
      refine z_aload_n B dX7_findWay_96 rfl 1 rfl ?_
      refine z_iload B dX7_findWay_97 7 rfl ?_
      refine z_iload B dX7_findWay_99 6 rfl ?_
      refine z_aload_n B dX7_findWay_101 rfl 2 rfl ?_
      refine z_iload_n B dX7_findWay_102 rfl 3 rfl ?_
      obtain ⟨w13, h14, ew13, hf⟩ := zb2s hf
      refine z_callSi B [.int u2] [.ref u1, .int u5, .int v6, .ref u0] cw_X7_at mt_RX7_163 (tX7_at hst ew13) ⟨rfl, rfl, (Nat.le_of_ble_eq_true rfl), (Nat.le_of_ble_eq_true rfl), (Nat.le_of_ble_eq_true rfl), (Nat.le_of_ble_eq_true rfl)⟩ rfl rfl (Nat.le_of_ble_eq_true rfl) dX7_findWay_103 ?_
      refine z_iconst (v := 0) B dX7_findWay_106 (by decide) ?_
      refine z_iadd B dX7_findWay_107 ?_
      refine z_iload B dX7_findWay_108 7 rfl ?_
      refine z_iadd B dX7_findWay_110 ?_
      obtain ⟨w15, ew15, hf⟩ := zbs hf
      refine z_aI B ew15 dX7_findWay_111 ?_
      obtain ⟨w16, h17, ew16, hf⟩ := zb2s hf
      refine z_callVi B [.int v6, .int u5, .int w15] [] cw_X7_sizeOn mv_RX7_289 (tX7_sizeOn hst ew16) rfl (by decide) (kfX7_sizeOn ew16) ⟨rfl, rfl, (Nat.le_of_ble_eq_true rfl), (Nat.le_of_ble_eq_true rfl), (Nat.le_of_ble_eq_true rfl), (Nat.le_of_ble_eq_true rfl)⟩ rfl rfl (Nat.le_of_ble_eq_true rfl) dX7_findWay_112 ?_
      refine z_aload_n B dX7_findWay_115 rfl 1 rfl ?_
      obtain ⟨w18, ew18, hf⟩ := zbs hf
      refine z_gP B fl_RX7_32 ew18 rfl dX7_findWay_116 ?_
      refine z_iload_n B dX7_findWay_119 rfl 4 rfl ?_
      obtain ⟨w19, ew19, hf⟩ := zbs hf
      refine z_aI B ew19 dX7_findWay_120 ?_
      rcases zite hf with ⟨c20, hf⟩ | ⟨c20, hf⟩
      · refine z_icmp_gt B 151 dX7_findWay_121 (by decide) (fun _ => ?_) (fun e => absurd c20 e)
        refine z_iinc (v' := (v6 + 1)) (lv' := [(6, .int (v6 + 1)), (7, .int 1), (0, .ref u0), (1, .ref u1), (2, .int u2), (3, .int u3), (4, .int v4), (5, .int u5)]) B dX7_findWay_151 7 rfl rfl (by decide) rfl ?_
        refine z_goto B 27 dX7_findWay_154 (by decide) ?_
        refine zV.sub [2, 3, 4, 5, 6, 7, 0] rfl ?_
        exact ih _ _ _ hf
      refine z_icmp_gt B 151 dX7_findWay_121 (by decide) (fun e => absurd e c20) (fun _ => ?_)
      refine z_aload_n B dX7_findWay_124 rfl 1 rfl ?_
      obtain ⟨w21, ew21, hf⟩ := zbs hf
      refine z_gP B fl_RX7_75 ew21 rfl dX7_findWay_125 ?_
      refine z_bipush (v := 8) B dX7_findWay_128 (by decide) ?_
      refine z_iload B dX7_findWay_130 7 rfl ?_
      refine z_imul B dX7_findWay_132 ?_
      refine z_iload B dX7_findWay_133 6 rfl ?_
      refine z_iadd B dX7_findWay_135 ?_
      obtain ⟨w22, ew22, hf⟩ := zbs hf
      refine z_aI B ew22 dX7_findWay_136 ?_
      refine z_istore (lv' := [(4, .int w22), (7, .int 1), (0, .ref u0), (1, .ref u1), (2, .int u2), (3, .int u3), (5, .int u5), (6, .int v6)]) B dX7_findWay_137 (by decide) rfl ?_
      refine z_aload_n B dX7_findWay_139 rfl 2 rfl ?_
      refine z_iload B dX7_findWay_140 7 rfl ?_
      obtain ⟨h23, eh23, hf⟩ := zbs hf
      refine z_pI B fl_RX7_300 eh23 rfl dX7_findWay_142 ?_
      refine z_aload_n B dX7_findWay_145 rfl 2 rfl ?_
      refine z_iload B dX7_findWay_146 6 rfl ?_
      obtain ⟨h24, eh24, hf⟩ := zbs hf
      refine z_pI B fl_RX7_238 eh24 rfl dX7_findWay_148 ?_
      refine z_iinc (v' := (v6 + 1)) (lv' := [(6, .int (v6 + 1)), (4, .int w22), (7, .int 1), (0, .ref u0), (1, .ref u1), (2, .int u2), (3, .int u3), (5, .int u5)]) B dX7_findWay_151 7 rfl rfl (by decide) rfl ?_
      refine z_goto B 27 dX7_findWay_154 (by decide) ?_
      refine zV.sub [3, 4, 5, 6, 1, 7, 0] rfl ?_
      exact ih _ _ _ hf
    refine z_icmp_ne B 88 dX7_findWay_48 (by decide) (fun _ => ?_) (fun e => absurd e c5)
    refine z_iconst (v := 0) B dX7_findWay_88 (by decide) ?_
    refine z_istore (lv' := [(7, .int 0), (0, .ref u0), (1, .ref u1), (2, .int u2), (3, .int u3), (4, .int v4), (5, .int u5), (6, .int v6)]) B dX7_findWay_89 (by decide) rfl ?_
    refine z_iload B dX7_findWay_91 0 rfl ?_
    refine z_if_eq B 151 dX7_findWay_93 (by decide) (fun _ => ?_) (fun e => absurd e (by decide))
    refine z_iinc (v' := (v6 + 1)) (lv' := [(6, .int (v6 + 1)), (7, .int 0), (0, .ref u0), (1, .ref u1), (2, .int u2), (3, .int u3), (4, .int v4), (5, .int u5)]) B dX7_findWay_151 7 rfl rfl (by decide) rfl ?_
    refine z_goto B 27 dX7_findWay_154 (by decide) ?_
    refine zV.sub [2, 3, 4, 5, 6, 7, 0] rfl ?_
    exact ih _ _ _ hf
set_option maxRecDepth 100000 in
set_option maxHeartbeats 4000000 in
theorem fX7_findWay_L15_ok {G : zG} {x : zX} (B : zB G x cX7_findWay 8 RX7 "findWay" rm_X7_findWay (some .boolean)) (hst : (zl x).stackTraces = false) (hE : ∀ e ∈ (zc x).exceptionTable.toList, False) {r : Int32 × zH} {k : zH → Int32 → Int32 → Option (Int32 × zH)} {u0 : Nat} {u1 : Nat} {u2 : Int32} {u3 : Int32} (hk : ∀ h v4 v5, k h v4 v5 = some r → zV G x 8 (zQ G x (zoi r) 0 0) h 0 0 163 [(0, .ref u0), (1, .ref u1), (2, .int u2), (3, .int u3), (4, .int v4), (5, .int v5)] []) : ∀ n h v4 v5, fX7_findWay_L15 k u0 u1 u2 u3 n h v4 v5 = some r → zV G x 8 (zQ G x (zoi r) 0 0) h 0 0 15 [(0, .ref u0), (1, .ref u1), (2, .int u2), (3, .int u3), (4, .int v4), (5, .int v5)] [] := by
  intro n
  induction n with
  | zero =>
    intro h v4 v5 hf
    have hf : (none : Option (Int32 × zH)) = some r := hf
    cases hf
  | succ n ih =>
    intro h v4 v5 hf
    rw [fX7_findWay_L15] at hf
    refine z_iload B dX7_findWay_15 5 rfl ?_
    refine z_aload_n B dX7_findWay_17 rfl 0 rfl ?_
    obtain ⟨w1, ew1, hf⟩ := zbs hf
    refine z_gI B fl_RX7_13 ew1 rfl dX7_findWay_18 ?_
    rcases zite hf with ⟨c2, hf⟩ | ⟨c2, hf⟩
    · refine z_icmp_ge B 163 dX7_findWay_21 (by decide) (fun _ => ?_) (fun e => absurd c2 e)
      exact hk _ _ _ hf
    refine z_icmp_ge B 163 dX7_findWay_21 (by decide) (fun e => absurd e c2) (fun _ => ?_)
    refine z_iconst (v := 0) B dX7_findWay_24 (by decide) ?_
    refine z_istore (lv' := [(6, .int 0), (0, .ref u0), (1, .ref u1), (2, .int u2), (3, .int u3), (4, .int v4), (5, .int v5)]) B dX7_findWay_25 (by decide) rfl ?_
    refine zV.sub [1, 2, 3, 4, 5, 6, 0] rfl ?_
    refine fX7_findWay_L27_ok B hst hE (fun h3 y4 y5 hf => ?_) _ _ _ _ hf
    refine z_iinc (v' := (v5 + 1)) (lv' := [(5, .int (v5 + 1)), (0, .ref u0), (1, .ref u1), (2, .int u2), (3, .int u3), (4, .int y4), (6, .int y5)]) B dX7_findWay_157 5 rfl rfl (by decide) rfl ?_
    refine z_goto B 15 dX7_findWay_160 (by decide) ?_
    refine zV.sub [1, 2, 3, 4, 5, 0] rfl ?_
    exact ih _ _ _ hf
set_option maxRecDepth 100000 in
set_option maxHeartbeats 4000000 in
theorem tX7_findWay {l : Launch} {G : zG} (hst : l.stackTraces = false) {h : zH} {a0 : Nat} {a1 : Nat} {a2 : Int32} {a3 : Int32} {r : Int32 × zH} (hf : fX7_findWay h a0 a1 a2 a3 = some r) : zMet l G yX7_findWay (.code yX7_findWay cX7_findWay 8 (some .boolean)) rm_X7_findWay 0 0 [.ref a0, .ref a1, .int a2, .int a3] h (zoi r) := by
  unfold fX7_findWay at hf
  obtain ⟨-, hf⟩ := zck hf
  refine z_enter (by decide) (Nat.le_of_ble_eq_true rfl) hst (fun x hx B hE => ?_)
  subst hx
  have B : zB G x cX7_findWay 8 RX7 "findWay" rm_X7_findWay (some .boolean) := B
  show zV G x 8 (zQ G x (zoi r) 0 0) h 0 0 0 [(0, .ref a0), (1, .ref a1), (2, .int a2), (3, .int a3)] []
  refine z_aload_n B dX7_findWay_0 rfl 0 rfl ?_
  refine z_aload_n B dX7_findWay_1 rfl 1 rfl ?_
  refine z_bipush (v := (-9)) B dX7_findWay_2 (by decide) ?_
  obtain ⟨h1, eh1, hf⟩ := zbs hf
  refine z_callVv B [.ref a1, .int (-9)] [] cw_X7_layTable mv_RX7_283 (tX7_layTable hst eh1) rfl (by decide) (kfX7_layTable eh1) ⟨rfl, rfl, (Nat.le_of_ble_eq_true rfl), (Nat.le_of_ble_eq_true rfl), (Nat.le_of_ble_eq_true rfl), (Nat.le_of_ble_eq_true rfl)⟩ rfl rfl (Nat.le_of_ble_eq_true rfl) dX7_findWay_4 ?_
  refine z_ldcw B dX7_findWay_7 kc_RX7_269 ?_
  refine z_istore (lv' := [(4, .int 1000000), (0, .ref a0), (1, .ref a1), (2, .int a2), (3, .int a3)]) B dX7_findWay_10 (by decide) rfl ?_
  refine z_iconst (v := 0) B dX7_findWay_12 (by decide) ?_
  refine z_istore (lv' := [(5, .int 0), (4, .int 1000000), (0, .ref a0), (1, .ref a1), (2, .int a2), (3, .int a3)]) B dX7_findWay_13 (by decide) rfl ?_
  refine zV.sub [2, 3, 4, 5, 1, 0] rfl ?_
  refine fX7_findWay_L15_ok B hst hE (fun h2 y3 y4 hf => ?_) _ _ _ _ hf
  refine z_iload B dX7_findWay_163 4 rfl ?_
  refine z_ldcw B dX7_findWay_165 kc_RX7_269 ?_
  rcases zite hf with ⟨c5, hf⟩ | ⟨c5, hf⟩
  · refine z_icmp_ne B 173 dX7_findWay_168 (by decide) (fun e => absurd c5 e) (fun _ => ?_)
    refine z_iconst (v := 0) B dX7_findWay_171 (by decide) ?_
    cases hf
    exact z_zret B dX7_findWay_172 (Or.inl rfl) (Nat.le_of_ble_eq_true rfl) (Nat.le_of_ble_eq_true rfl)
  refine z_icmp_ne B 173 dX7_findWay_168 (by decide) (fun _ => ?_) (fun e => absurd e c5)
  refine z_aload_n B dX7_findWay_173 rfl 0 rfl ?_
  refine z_iload B dX7_findWay_174 4 rfl ?_
  refine z_bipush (v := 16) B dX7_findWay_176 (by decide) ?_
  refine z_idiv B dX7_findWay_178 (by decide) ?_
  obtain ⟨h6, eh6, hf⟩ := zbs hf
  refine z_pI B fl_RX7_235 eh6 rfl dX7_findWay_179 ?_
  refine z_aload_n B dX7_findWay_182 rfl 0 rfl ?_
  refine z_aload_n B dX7_findWay_183 rfl 0 rfl ?_
  refine z_aload_n B dX7_findWay_184 rfl 0 rfl ?_
  obtain ⟨w7, ew7, hf⟩ := zbs hf
  refine z_gI B fl_RX7_300 ew7 rfl dX7_findWay_185 ?_
  refine z_aload_n B dX7_findWay_188 rfl 0 rfl ?_
  obtain ⟨w8, ew8, hf⟩ := zbs hf
  refine z_gI B fl_RX7_238 ew8 rfl dX7_findWay_189 ?_
  refine z_aload_n B dX7_findWay_192 rfl 1 rfl ?_
  refine z_iload_n B dX7_findWay_193 rfl 2 rfl ?_
  obtain ⟨w9, h10, ew9, hf⟩ := zb2s hf
  refine z_callSi B [.int a2] [.ref a1, .int w8, .int w7, .ref a0, .ref a0] cw_X7_at mt_RX7_163 (tX7_at hst ew9) ⟨rfl, rfl, (Nat.le_of_ble_eq_true rfl), (Nat.le_of_ble_eq_true rfl), (Nat.le_of_ble_eq_true rfl), (Nat.le_of_ble_eq_true rfl)⟩ rfl rfl (Nat.le_of_ble_eq_true rfl) dX7_findWay_194 ?_
  refine z_iconst (v := 0) B dX7_findWay_197 (by decide) ?_
  refine z_iadd B dX7_findWay_198 ?_
  refine z_aload_n B dX7_findWay_199 rfl 0 rfl ?_
  obtain ⟨w11, ew11, hf⟩ := zbs hf
  refine z_gI B fl_RX7_300 ew11 rfl dX7_findWay_200 ?_
  refine z_iadd B dX7_findWay_203 ?_
  obtain ⟨w12, ew12, hf⟩ := zbs hf
  refine z_aI B ew12 dX7_findWay_204 ?_
  obtain ⟨w13, h14, ew13, hf⟩ := zb2s hf
  refine z_callVi B [.int w7, .int w8, .int w12] [.ref a0] cw_X7_sizeOn mv_RX7_289 (tX7_sizeOn hst ew13) rfl (by decide) (kfX7_sizeOn ew13) ⟨rfl, rfl, (Nat.le_of_ble_eq_true rfl), (Nat.le_of_ble_eq_true rfl), (Nat.le_of_ble_eq_true rfl), (Nat.le_of_ble_eq_true rfl)⟩ rfl rfl (Nat.le_of_ble_eq_true rfl) dX7_findWay_205 ?_
  obtain ⟨h15, eh15, hf⟩ := zbs hf
  refine z_pI B fl_RX7_241 eh15 rfl dX7_findWay_208 ?_
  refine z_aload_n B dX7_findWay_211 rfl 0 rfl ?_
  refine z_aload_n B dX7_findWay_212 rfl 1 rfl ?_
  refine z_iload_n B dX7_findWay_213 rfl 2 rfl ?_
  obtain ⟨w16, h17, ew16, hf⟩ := zb2s hf
  refine z_callSi B [.int a2] [.ref a1, .ref a0] cw_X7_at mt_RX7_163 (tX7_at hst ew16) ⟨rfl, rfl, (Nat.le_of_ble_eq_true rfl), (Nat.le_of_ble_eq_true rfl), (Nat.le_of_ble_eq_true rfl), (Nat.le_of_ble_eq_true rfl)⟩ rfl rfl (Nat.le_of_ble_eq_true rfl) dX7_findWay_214 ?_
  refine z_bipush (v := 8) B dX7_findWay_217 (by decide) ?_
  refine z_iadd B dX7_findWay_219 ?_
  refine z_aload_n B dX7_findWay_220 rfl 0 rfl ?_
  obtain ⟨w18, ew18, hf⟩ := zbs hf
  refine z_gI B fl_RX7_300 ew18 rfl dX7_findWay_221 ?_
  refine z_iadd B dX7_findWay_224 ?_
  obtain ⟨w19, ew19, hf⟩ := zbs hf
  refine z_aI B ew19 dX7_findWay_225 ?_
  refine z_aload_n B dX7_findWay_226 rfl 0 rfl ?_
  refine z_aload_n B dX7_findWay_227 rfl 0 rfl ?_
  obtain ⟨w20, ew20, hf⟩ := zbs hf
  refine z_gI B fl_RX7_300 ew20 rfl dX7_findWay_228 ?_
  refine z_aload_n B dX7_findWay_231 rfl 0 rfl ?_
  obtain ⟨w21, ew21, hf⟩ := zbs hf
  refine z_gI B fl_RX7_238 ew21 rfl dX7_findWay_232 ?_
  obtain ⟨w22, h23, ew22, hf⟩ := zb2s hf
  refine z_callVi B [.int w20, .int w21] [.int w19, .ref a0] cw_X7_lossOn mv_RX7_286 (tX7_lossOn hst ew22) rfl (by decide) (kfX7_lossOn ew22) ⟨rfl, rfl, (Nat.le_of_ble_eq_true rfl), (Nat.le_of_ble_eq_true rfl), (Nat.le_of_ble_eq_true rfl), (Nat.le_of_ble_eq_true rfl)⟩ rfl rfl (Nat.le_of_ble_eq_true rfl) dX7_findWay_235 ?_
  refine z_iadd B dX7_findWay_238 ?_
  obtain ⟨h24, eh24, hf⟩ := zbs hf
  refine z_pI B fl_RX7_244 eh24 rfl dX7_findWay_239 ?_
  refine z_iconst (v := 1) B dX7_findWay_242 (by decide) ?_
  cases hf
  exact z_zret B dX7_findWay_243 (Or.inr rfl) (Nat.le_of_ble_eq_true rfl) (Nat.le_of_ble_eq_true rfl)
abbrev rm_X7_pasteOn : Room := { frames := 5, cells := 0, slots := 0, locals := 115 }
set_option maxRecDepth 100000 in
set_option maxHeartbeats 4000000 in
theorem fX7_pasteOn_L168_ok {G : zG} {x : zX} (B : zB G x cX7_pasteOn 6 RX7 "pasteOn" rm_X7_pasteOn (some .int)) (hst : (zl x).stackTraces = false) (hE : ∀ e ∈ (zc x).exceptionTable.toList, False) {r : Int32 × zH} {k : zH → Int32 → Option (Int32 × zH)} {u0 : Nat} {u1 : Nat} {u2 : Int32} {u3 : Int32} {u4 : Int32} (hk : ∀ h v5, k h v5 = some r → zV G x 6 (zQ G x (zoi r) 0 0) h 0 0 192 [(0, .ref u0), (1, .ref u1), (2, .int u2), (3, .int u3), (4, .int u4), (5, .int v5)] []) : ∀ n h v5, fX7_pasteOn_L168 k u0 u1 u2 u3 u4 n h v5 = some r → zV G x 6 (zQ G x (zoi r) 0 0) h 0 0 168 [(0, .ref u0), (1, .ref u1), (2, .int u2), (3, .int u3), (4, .int u4), (5, .int v5)] [] := by
  intro n
  induction n with
  | zero =>
    intro h v5 hf
    have hf : (none : Option (Int32 × zH)) = some r := hf
    cases hf
  | succ n ih =>
    intro h v5 hf
    rw [fX7_pasteOn_L168] at hf
    refine z_iload B dX7_pasteOn_168 5 rfl ?_
    refine z_bipush (v := 24) B dX7_pasteOn_170 (by decide) ?_
    rcases zite hf with ⟨c1, hf⟩ | ⟨c1, hf⟩
    · refine z_icmp_lt B 192 dX7_pasteOn_172 (by decide) (fun _ => ?_) (fun e => absurd c1 e)
      exact hk _ _ hf
    refine z_icmp_lt B 192 dX7_pasteOn_172 (by decide) (fun e => absurd e c1) (fun _ => ?_)
    refine z_aload_n B dX7_pasteOn_175 rfl 1 rfl ?_
    refine z_iload B dX7_pasteOn_176 5 rfl ?_
    refine z_bipush (v := 28) B dX7_pasteOn_178 (by decide) ?_
    refine z_iadd B dX7_pasteOn_180 ?_
    refine z_aload_n B dX7_pasteOn_181 rfl 1 rfl ?_
    refine z_iload B dX7_pasteOn_182 5 rfl ?_
    obtain ⟨w2, ew2, hf⟩ := zbs hf
    refine z_aI B ew2 dX7_pasteOn_184 ?_
    obtain ⟨h3, eh3, hf⟩ := zbs hf
    refine z_bI B eh3 dX7_pasteOn_185 ?_
    refine z_iinc (v' := (v5 + (-1))) (lv' := [(5, .int (v5 + (-1))), (0, .ref u0), (1, .ref u1), (2, .int u2), (3, .int u3), (4, .int u4)]) B dX7_pasteOn_186 5 rfl (zdec _) (by decide) rfl ?_
    refine z_goto B 168 dX7_pasteOn_189 (by decide) ?_
    refine zV.sub [1, 2, 3, 4, 5, 0] rfl ?_
    exact ih _ _ hf
set_option maxRecDepth 100000 in
set_option maxHeartbeats 4000000 in
theorem tX7_pasteOn {l : Launch} {G : zG} (hst : l.stackTraces = false) {h : zH} {a0 : Nat} {a1 : Nat} {a2 : Int32} {a3 : Int32} {r : Int32 × zH} (hf : fX7_pasteOn h a0 a1 a2 a3 = some r) : zMet l G yX7_pasteOn (.code yX7_pasteOn cX7_pasteOn 6 (some .int)) rm_X7_pasteOn 0 0 [.ref a0, .ref a1, .int a2, .int a3] h (zoi r) := by
  unfold fX7_pasteOn at hf
  obtain ⟨-, hf⟩ := zck hf
  refine z_enter (by decide) (Nat.le_of_ble_eq_true rfl) hst (fun x hx B hE => ?_)
  subst hx
  have B : zB G x cX7_pasteOn 6 RX7 "pasteOn" rm_X7_pasteOn (some .int) := B
  show zV G x 6 (zQ G x (zoi r) 0 0) h 0 0 0 [(0, .ref a0), (1, .ref a1), (2, .int a2), (3, .int a3)] []
  refine z_aload_n B dX7_pasteOn_0 rfl 1 rfl ?_
  refine z_iload_n B dX7_pasteOn_1 rfl 2 rfl ?_
  obtain ⟨w1, h2, ew1, hf⟩ := zb2s hf
  refine z_callSi B [.ref a1, .int a2] [] cw_X7_isEntry mt_RX7_204 (tX7_isEntry hst ew1) ⟨rfl, rfl, (Nat.le_of_ble_eq_true rfl), (Nat.le_of_ble_eq_true rfl), (Nat.le_of_ble_eq_true rfl), (Nat.le_of_ble_eq_true rfl)⟩ rfl rfl (Nat.le_of_ble_eq_true rfl) dX7_pasteOn_2 ?_
  rcases zite hf with ⟨c3, hf⟩ | ⟨c3, hf⟩
  · refine z_if_eq B 16 dX7_pasteOn_5 (by decide) (fun _ => ?_) (fun e => absurd c3 e)
    refine z_iconst (v := 1) B dX7_pasteOn_16 (by decide) ?_
    cases hf
    exact z_iret B dX7_pasteOn_17 (Nat.le_of_ble_eq_true rfl) (Nat.le_of_ble_eq_true rfl)
  refine z_if_eq B 16 dX7_pasteOn_5 (by decide) (fun e => absurd e c3) (fun _ => ?_)
  refine z_aload_n B dX7_pasteOn_8 rfl 0 rfl ?_
  refine z_iload_n B dX7_pasteOn_9 rfl 3 rfl ?_
  obtain ⟨w4, h5, ew4, hf⟩ := zb2s hf
  refine z_callVi B [.int a3] [] cw_X7_isPlace mv_RX7_201 (tX7_isPlace hst ew4) rfl (by decide) (kfX7_isPlace ew4) ⟨rfl, rfl, (Nat.le_of_ble_eq_true rfl), (Nat.le_of_ble_eq_true rfl), (Nat.le_of_ble_eq_true rfl), (Nat.le_of_ble_eq_true rfl)⟩ rfl rfl (Nat.le_of_ble_eq_true rfl) dX7_pasteOn_10 ?_
  rcases zite hf with ⟨c6, hf⟩ | ⟨c6, hf⟩
  · refine z_if_ne B 18 dX7_pasteOn_13 (by decide) (fun e => absurd c6 e) (fun _ => ?_)
    refine z_iconst (v := 1) B dX7_pasteOn_16 (by decide) ?_
    cases hf
    exact z_iret B dX7_pasteOn_17 (Nat.le_of_ble_eq_true rfl) (Nat.le_of_ble_eq_true rfl)
  refine z_if_ne B 18 dX7_pasteOn_13 (by decide) (fun _ => ?_) (fun e => absurd e c6)
  refine z_aload_n B dX7_pasteOn_18 rfl 0 rfl ?_
  refine z_aload_n B dX7_pasteOn_19 rfl 1 rfl ?_
  refine z_iload_n B dX7_pasteOn_20 rfl 2 rfl ?_
  refine z_iload_n B dX7_pasteOn_21 rfl 3 rfl ?_
  obtain ⟨w7, h8, ew7, hf⟩ := zb2s hf
  refine z_callVi B [.ref a1, .int a2, .int a3] [] cw_X7_findWay mv_RX7_231 (tX7_findWay hst ew7) rfl (by decide) (kfX7_findWay ew7) ⟨rfl, rfl, (Nat.le_of_ble_eq_true rfl), (Nat.le_of_ble_eq_true rfl), (Nat.le_of_ble_eq_true rfl), (Nat.le_of_ble_eq_true rfl)⟩ rfl rfl (Nat.le_of_ble_eq_true rfl) dX7_pasteOn_22 ?_
  rcases zite hf with ⟨c9, hf⟩ | ⟨c9, hf⟩
  · refine z_if_ne B 30 dX7_pasteOn_25 (by decide) (fun e => absurd c9 e) (fun _ => ?_)
    refine z_iconst (v := 2) B dX7_pasteOn_28 (by decide) ?_
    cases hf
    exact z_iret B dX7_pasteOn_29 (Nat.le_of_ble_eq_true rfl) (Nat.le_of_ble_eq_true rfl)
  refine z_if_ne B 30 dX7_pasteOn_25 (by decide) (fun _ => ?_) (fun e => absurd e c9)
  refine z_iload_n B dX7_pasteOn_30 rfl 2 rfl ?_
  obtain ⟨w10, h11, ew10, hf⟩ := zb2s hf
  refine z_callSi B [.int a2] [] cw_X7_at mt_RX7_163 (tX7_at hst ew10) ⟨rfl, rfl, (Nat.le_of_ble_eq_true rfl), (Nat.le_of_ble_eq_true rfl), (Nat.le_of_ble_eq_true rfl), (Nat.le_of_ble_eq_true rfl)⟩ rfl rfl (Nat.le_of_ble_eq_true rfl) dX7_pasteOn_31 ?_
  refine z_istore (lv' := [(4, .int w10), (0, .ref a0), (1, .ref a1), (2, .int a2), (3, .int a3)]) B dX7_pasteOn_34 (by decide) rfl ?_
  refine z_aload_n B dX7_pasteOn_36 rfl 2 rfl ?_
  refine z_iconst (v := 1) B dX7_pasteOn_37 (by decide) ?_
  refine z_dup2 B dX7_pasteOn_38 rfl rfl ?_
  obtain ⟨w12, ew12, hf⟩ := zbs hf
  refine z_aI B ew12 dX7_pasteOn_39 ?_
  refine z_iconst (v := 1) B dX7_pasteOn_40 (by decide) ?_
  refine z_iadd B dX7_pasteOn_41 ?_
  obtain ⟨h13, eh13, hf⟩ := zbs hf
  refine z_bI B eh13 dX7_pasteOn_42 ?_
  refine z_aload_n B dX7_pasteOn_43 rfl 2 rfl ?_
  refine z_iconst (v := 2) B dX7_pasteOn_44 (by decide) ?_
  refine z_dup2 B dX7_pasteOn_45 rfl rfl ?_
  obtain ⟨w14, ew14, hf⟩ := zbs hf
  refine z_aI B ew14 dX7_pasteOn_46 ?_
  refine z_aload_n B dX7_pasteOn_47 rfl 1 rfl ?_
  obtain ⟨w15, ew15, hf⟩ := zbs hf
  refine z_gI B fl_RX7_235 ew15 rfl dX7_pasteOn_48 ?_
  refine z_iadd B dX7_pasteOn_51 ?_
  obtain ⟨h16, eh16, hf⟩ := zbs hf
  refine z_bI B eh16 dX7_pasteOn_52 ?_
  refine z_aload_n B dX7_pasteOn_53 rfl 2 rfl ?_
  refine z_iload B dX7_pasteOn_54 0 rfl ?_
  refine z_bipush (v := 25) B dX7_pasteOn_56 (by decide) ?_
  refine z_iadd B dX7_pasteOn_58 ?_
  refine z_dup2 B dX7_pasteOn_59 rfl rfl ?_
  obtain ⟨w17, ew17, hf⟩ := zbs hf
  refine z_aI B ew17 dX7_pasteOn_60 ?_
  refine z_iconst (v := 1) B dX7_pasteOn_61 (by decide) ?_
  refine z_iadd B dX7_pasteOn_62 ?_
  obtain ⟨h18, eh18, hf⟩ := zbs hf
  refine z_bI B eh18 dX7_pasteOn_63 ?_
  refine z_aload_n B dX7_pasteOn_64 rfl 2 rfl ?_
  refine z_iload B dX7_pasteOn_65 0 rfl ?_
  refine z_bipush (v := 26) B dX7_pasteOn_67 (by decide) ?_
  refine z_iadd B dX7_pasteOn_69 ?_
  refine z_aload_n B dX7_pasteOn_70 rfl 2 rfl ?_
  refine z_iconst (v := 1) B dX7_pasteOn_71 (by decide) ?_
  obtain ⟨w19, ew19, hf⟩ := zbs hf
  refine z_aI B ew19 dX7_pasteOn_72 ?_
  obtain ⟨h20, eh20, hf⟩ := zbs hf
  refine z_bI B eh20 dX7_pasteOn_73 ?_
  refine z_aload_n B dX7_pasteOn_74 rfl 2 rfl ?_
  refine z_iload B dX7_pasteOn_75 0 rfl ?_
  refine z_bipush (v := 16) B dX7_pasteOn_77 (by decide) ?_
  refine z_iadd B dX7_pasteOn_79 ?_
  refine z_aload_n B dX7_pasteOn_80 rfl 1 rfl ?_
  obtain ⟨w21, ew21, hf⟩ := zbs hf
  refine z_gI B fl_RX7_238 ew21 rfl dX7_pasteOn_81 ?_
  refine z_iadd B dX7_pasteOn_84 ?_
  obtain ⟨w22, ew22, hf⟩ := zbs hf
  refine z_aI B ew22 dX7_pasteOn_85 ?_
  rcases zite hf with ⟨c23, hf⟩ | ⟨c23, hf⟩
  · refine z_if_ne B 149 dX7_pasteOn_86 (by decide) (fun e => absurd c23 e) (fun _ => ?_)
    refine z_aload_n B dX7_pasteOn_89 rfl 2 rfl ?_
    refine z_iconst (v := 0) B dX7_pasteOn_90 (by decide) ?_
    refine z_aload_n B dX7_pasteOn_91 rfl 1 rfl ?_
    obtain ⟨w24, ew24, hf⟩ := zbs hf
    refine z_gP B fl_RX7_62 ew24 rfl dX7_pasteOn_92 ?_
    refine z_iconst (v := 0) B dX7_pasteOn_95 (by decide) ?_
    refine z_sipush (v := 360) B dX7_pasteOn_96 (by decide) ?_
    obtain ⟨h25, eh25, hf⟩ := zbs hf
    refine z_callSv B [.ref a1, .int 0, .ref w24, .int 0, .int 360] [] cw_X7_copyRow mt_RX7_90 (tX7_copyRow hst eh25) ⟨rfl, rfl, (Nat.le_of_ble_eq_true rfl), (Nat.le_of_ble_eq_true rfl), (Nat.le_of_ble_eq_true rfl), (Nat.le_of_ble_eq_true rfl)⟩ rfl rfl (Nat.le_of_ble_eq_true rfl) dX7_pasteOn_99 ?_
    refine z_aload_n B dX7_pasteOn_102 rfl 1 rfl ?_
    obtain ⟨w26, ew26, hf⟩ := zbs hf
    refine z_gP B fl_RX7_62 ew26 rfl dX7_pasteOn_103 ?_
    refine z_aload_n B dX7_pasteOn_106 rfl 1 rfl ?_
    obtain ⟨w27, ew27, hf⟩ := zbs hf
    refine z_gI B fl_RX7_241 ew27 rfl dX7_pasteOn_107 ?_
    refine z_iload_n B dX7_pasteOn_110 rfl 3 rfl ?_
    refine z_iconst (v := 0) B dX7_pasteOn_111 (by decide) ?_
    obtain ⟨w28, h29, ew28, hf⟩ := zb2s hf
    refine z_callSi B [.ref w26, .int w27, .int a2, .int 0] [] cw_X7_makeRoom mt_RX7_219 (tX7_makeRoom hst ew28) ⟨rfl, rfl, (Nat.le_of_ble_eq_true rfl), (Nat.le_of_ble_eq_true rfl), (Nat.le_of_ble_eq_true rfl), (Nat.le_of_ble_eq_true rfl)⟩ rfl rfl (Nat.le_of_ble_eq_true rfl) dX7_pasteOn_112 ?_
    rcases zite hf with ⟨c30, hf⟩ | ⟨c30, hf⟩
    · refine z_if_eq B 149 dX7_pasteOn_115 (by decide) (fun _ => ?_) (fun e => absurd c30 e)
      refine z_aload_n B dX7_pasteOn_149 rfl 2 rfl ?_
      refine z_iload B dX7_pasteOn_150 0 rfl ?_
      refine z_aload_n B dX7_pasteOn_152 rfl 1 rfl ?_
      obtain ⟨w31, ew31, hf⟩ := zbs hf
      refine z_gP B fl_RX7_62 ew31 rfl dX7_pasteOn_153 ?_
      refine z_iconst (v := 0) B dX7_pasteOn_156 (by decide) ?_
      refine z_bipush (v := 28) B dX7_pasteOn_157 (by decide) ?_
      obtain ⟨h32, eh32, hf⟩ := zbs hf
      refine z_callSv B [.ref a1, .int w10, .ref w31, .int 0, .int 28] [] cw_X7_copyRow mt_RX7_90 (tX7_copyRow hst eh32) ⟨rfl, rfl, (Nat.le_of_ble_eq_true rfl), (Nat.le_of_ble_eq_true rfl), (Nat.le_of_ble_eq_true rfl), (Nat.le_of_ble_eq_true rfl)⟩ rfl rfl (Nat.le_of_ble_eq_true rfl) dX7_pasteOn_159 ?_
      refine z_iload B dX7_pasteOn_162 0 rfl ?_
      refine z_iconst (v := 1) B dX7_pasteOn_164 (by decide) ?_
      refine z_isub B dX7_pasteOn_165 ?_
      refine z_istore (lv' := [(5, .int ((w10 : Int32) - 1)), (4, .int w10), (0, .ref a0), (1, .ref a1), (2, .int a2), (3, .int a3)]) B dX7_pasteOn_166 (by decide) rfl ?_
      refine zV.sub [2, 3, 4, 5, 1, 0] rfl ?_
      refine fX7_pasteOn_L168_ok B hst hE (fun h33 y34 hf => ?_) _ _ _ hf
      refine z_aload_n B dX7_pasteOn_192 rfl 0 rfl ?_
      obtain ⟨w35, ew35, hf⟩ := zbs hf
      refine z_gP B fl_RX7_62 ew35 rfl dX7_pasteOn_193 ?_
      refine z_iconst (v := 0) B dX7_pasteOn_196 (by decide) ?_
      refine z_aload_n B dX7_pasteOn_197 rfl 1 rfl ?_
      refine z_bipush (v := 24) B dX7_pasteOn_198 (by decide) ?_
      refine z_bipush (v := 28) B dX7_pasteOn_200 (by decide) ?_
      obtain ⟨h36, eh36, hf⟩ := zbs hf
      refine z_callSv B [.ref w35, .int 0, .ref a1, .int 24, .int 28] [] cw_X7_copyRow mt_RX7_90 (tX7_copyRow hst eh36) ⟨rfl, rfl, (Nat.le_of_ble_eq_true rfl), (Nat.le_of_ble_eq_true rfl), (Nat.le_of_ble_eq_true rfl), (Nat.le_of_ble_eq_true rfl)⟩ rfl rfl (Nat.le_of_ble_eq_true rfl) dX7_pasteOn_202 ?_
      refine z_iconst (v := 0) B dX7_pasteOn_205 (by decide) ?_
      cases hf
      exact z_iret B dX7_pasteOn_206 (Nat.le_of_ble_eq_true rfl) (Nat.le_of_ble_eq_true rfl)
    refine z_if_eq B 149 dX7_pasteOn_115 (by decide) (fun e => absurd e c30) (fun _ => ?_)
    refine z_aload_n B dX7_pasteOn_118 rfl 1 rfl ?_
    obtain ⟨w37, ew37, hf⟩ := zbs hf
    refine z_gP B fl_RX7_62 ew37 rfl dX7_pasteOn_119 ?_
    refine z_iconst (v := 0) B dX7_pasteOn_122 (by decide) ?_
    refine z_aload_n B dX7_pasteOn_123 rfl 2 rfl ?_
    refine z_iconst (v := 0) B dX7_pasteOn_124 (by decide) ?_
    refine z_sipush (v := 360) B dX7_pasteOn_125 (by decide) ?_
    obtain ⟨h38, eh38, hf⟩ := zbs hf
    refine z_callSv B [.ref w37, .int 0, .ref a1, .int 0, .int 360] [] cw_X7_copyRow mt_RX7_90 (tX7_copyRow hst eh38) ⟨rfl, rfl, (Nat.le_of_ble_eq_true rfl), (Nat.le_of_ble_eq_true rfl), (Nat.le_of_ble_eq_true rfl), (Nat.le_of_ble_eq_true rfl)⟩ rfl rfl (Nat.le_of_ble_eq_true rfl) dX7_pasteOn_128 ?_
    refine z_aload_n B dX7_pasteOn_131 rfl 2 rfl ?_
    refine z_iload_n B dX7_pasteOn_132 rfl 3 rfl ?_
    refine z_aload_n B dX7_pasteOn_133 rfl 1 rfl ?_
    obtain ⟨w39, ew39, hf⟩ := zbs hf
    refine z_gI B fl_RX7_238 ew39 rfl dX7_pasteOn_134 ?_
    refine z_aload_n B dX7_pasteOn_137 rfl 1 rfl ?_
    obtain ⟨w40, ew40, hf⟩ := zbs hf
    refine z_gI B fl_RX7_241 ew40 rfl dX7_pasteOn_138 ?_
    refine z_aload_n B dX7_pasteOn_141 rfl 1 rfl ?_
    obtain ⟨w41, ew41, hf⟩ := zbs hf
    refine z_gI B fl_RX7_244 ew41 rfl dX7_pasteOn_142 ?_
    refine z_iconst (v := 2) B dX7_pasteOn_145 (by decide) ?_
    obtain ⟨h42, eh42, hf⟩ := zbs hf
    refine z_callSv B [.ref a1, .int a2, .int w39, .int w40, .int w41, .int 2] [] cw_X7_putForm mt_RX7_227 (tX7_putForm hst eh42) ⟨rfl, rfl, (Nat.le_of_ble_eq_true rfl), (Nat.le_of_ble_eq_true rfl), (Nat.le_of_ble_eq_true rfl), (Nat.le_of_ble_eq_true rfl)⟩ rfl rfl (Nat.le_of_ble_eq_true rfl) dX7_pasteOn_146 ?_
    refine z_aload_n B dX7_pasteOn_149 rfl 2 rfl ?_
    refine z_iload B dX7_pasteOn_150 0 rfl ?_
    refine z_aload_n B dX7_pasteOn_152 rfl 1 rfl ?_
    obtain ⟨w43, ew43, hf⟩ := zbs hf
    refine z_gP B fl_RX7_62 ew43 rfl dX7_pasteOn_153 ?_
    refine z_iconst (v := 0) B dX7_pasteOn_156 (by decide) ?_
    refine z_bipush (v := 28) B dX7_pasteOn_157 (by decide) ?_
    obtain ⟨h44, eh44, hf⟩ := zbs hf
    refine z_callSv B [.ref a1, .int w10, .ref w43, .int 0, .int 28] [] cw_X7_copyRow mt_RX7_90 (tX7_copyRow hst eh44) ⟨rfl, rfl, (Nat.le_of_ble_eq_true rfl), (Nat.le_of_ble_eq_true rfl), (Nat.le_of_ble_eq_true rfl), (Nat.le_of_ble_eq_true rfl)⟩ rfl rfl (Nat.le_of_ble_eq_true rfl) dX7_pasteOn_159 ?_
    refine z_iload B dX7_pasteOn_162 0 rfl ?_
    refine z_iconst (v := 1) B dX7_pasteOn_164 (by decide) ?_
    refine z_isub B dX7_pasteOn_165 ?_
    refine z_istore (lv' := [(5, .int ((w10 : Int32) - 1)), (4, .int w10), (0, .ref a0), (1, .ref a1), (2, .int a2), (3, .int a3)]) B dX7_pasteOn_166 (by decide) rfl ?_
    refine zV.sub [2, 3, 4, 5, 1, 0] rfl ?_
    refine fX7_pasteOn_L168_ok B hst hE (fun h45 y46 hf => ?_) _ _ _ hf
    refine z_aload_n B dX7_pasteOn_192 rfl 0 rfl ?_
    obtain ⟨w47, ew47, hf⟩ := zbs hf
    refine z_gP B fl_RX7_62 ew47 rfl dX7_pasteOn_193 ?_
    refine z_iconst (v := 0) B dX7_pasteOn_196 (by decide) ?_
    refine z_aload_n B dX7_pasteOn_197 rfl 1 rfl ?_
    refine z_bipush (v := 24) B dX7_pasteOn_198 (by decide) ?_
    refine z_bipush (v := 28) B dX7_pasteOn_200 (by decide) ?_
    obtain ⟨h48, eh48, hf⟩ := zbs hf
    refine z_callSv B [.ref w47, .int 0, .ref a1, .int 24, .int 28] [] cw_X7_copyRow mt_RX7_90 (tX7_copyRow hst eh48) ⟨rfl, rfl, (Nat.le_of_ble_eq_true rfl), (Nat.le_of_ble_eq_true rfl), (Nat.le_of_ble_eq_true rfl), (Nat.le_of_ble_eq_true rfl)⟩ rfl rfl (Nat.le_of_ble_eq_true rfl) dX7_pasteOn_202 ?_
    refine z_iconst (v := 0) B dX7_pasteOn_205 (by decide) ?_
    cases hf
    exact z_iret B dX7_pasteOn_206 (Nat.le_of_ble_eq_true rfl) (Nat.le_of_ble_eq_true rfl)
  refine z_if_ne B 149 dX7_pasteOn_86 (by decide) (fun _ => ?_) (fun e => absurd e c23)
  refine z_aload_n B dX7_pasteOn_149 rfl 2 rfl ?_
  refine z_iload B dX7_pasteOn_150 0 rfl ?_
  refine z_aload_n B dX7_pasteOn_152 rfl 1 rfl ?_
  obtain ⟨w49, ew49, hf⟩ := zbs hf
  refine z_gP B fl_RX7_62 ew49 rfl dX7_pasteOn_153 ?_
  refine z_iconst (v := 0) B dX7_pasteOn_156 (by decide) ?_
  refine z_bipush (v := 28) B dX7_pasteOn_157 (by decide) ?_
  obtain ⟨h50, eh50, hf⟩ := zbs hf
  refine z_callSv B [.ref a1, .int w10, .ref w49, .int 0, .int 28] [] cw_X7_copyRow mt_RX7_90 (tX7_copyRow hst eh50) ⟨rfl, rfl, (Nat.le_of_ble_eq_true rfl), (Nat.le_of_ble_eq_true rfl), (Nat.le_of_ble_eq_true rfl), (Nat.le_of_ble_eq_true rfl)⟩ rfl rfl (Nat.le_of_ble_eq_true rfl) dX7_pasteOn_159 ?_
  refine z_iload B dX7_pasteOn_162 0 rfl ?_
  refine z_iconst (v := 1) B dX7_pasteOn_164 (by decide) ?_
  refine z_isub B dX7_pasteOn_165 ?_
  refine z_istore (lv' := [(5, .int ((w10 : Int32) - 1)), (4, .int w10), (0, .ref a0), (1, .ref a1), (2, .int a2), (3, .int a3)]) B dX7_pasteOn_166 (by decide) rfl ?_
  refine zV.sub [2, 3, 4, 5, 1, 0] rfl ?_
  refine fX7_pasteOn_L168_ok B hst hE (fun h51 y52 hf => ?_) _ _ _ hf
  refine z_aload_n B dX7_pasteOn_192 rfl 0 rfl ?_
  obtain ⟨w53, ew53, hf⟩ := zbs hf
  refine z_gP B fl_RX7_62 ew53 rfl dX7_pasteOn_193 ?_
  refine z_iconst (v := 0) B dX7_pasteOn_196 (by decide) ?_
  refine z_aload_n B dX7_pasteOn_197 rfl 1 rfl ?_
  refine z_bipush (v := 24) B dX7_pasteOn_198 (by decide) ?_
  refine z_bipush (v := 28) B dX7_pasteOn_200 (by decide) ?_
  obtain ⟨h54, eh54, hf⟩ := zbs hf
  refine z_callSv B [.ref w53, .int 0, .ref a1, .int 24, .int 28] [] cw_X7_copyRow mt_RX7_90 (tX7_copyRow hst eh54) ⟨rfl, rfl, (Nat.le_of_ble_eq_true rfl), (Nat.le_of_ble_eq_true rfl), (Nat.le_of_ble_eq_true rfl), (Nat.le_of_ble_eq_true rfl)⟩ rfl rfl (Nat.le_of_ble_eq_true rfl) dX7_pasteOn_202 ?_
  refine z_iconst (v := 0) B dX7_pasteOn_205 (by decide) ?_
  cases hf
  exact z_iret B dX7_pasteOn_206 (Nat.le_of_ble_eq_true rfl) (Nat.le_of_ble_eq_true rfl)
abbrev rm_X7_copy : Room := { frames := 6, cells := 0, slots := 0, locals := 139 }
set_option maxRecDepth 100000 in
set_option maxHeartbeats 4000000 in
theorem tX7_copy {l : Launch} {G : zG} (hst : l.stackTraces = false) {h : zH} {a0 : Nat} {a1 : Int32} {a2 : Int32} {r : Int32 × zH} (hf : fX7_copy h a0 a1 a2 = some r) : zMet l G yX7_copy (.code yX7_copy cX7_copy 3 (some .int)) rm_X7_copy 0 0 [.ref a0, .int a1, .int a2] h (zoi r) := by
  unfold fX7_copy at hf
  obtain ⟨-, hf⟩ := zck hf
  refine z_enter (by decide) (Nat.le_of_ble_eq_true rfl) hst (fun x hx B hE => ?_)
  subst hx
  have B : zB G x cX7_copy 3 RX7 "copy" rm_X7_copy (some .int) := B
  show zV G x 3 (zQ G x (zoi r) 0 0) h 0 0 0 [(0, .ref a0), (1, .int a1), (2, .int a2)] []
  refine z_aload_n B dX7_copy_0 rfl 0 rfl ?_
  obtain ⟨h1, eh1, hf⟩ := zbs hf
  refine z_callVv B [] [] cw_X7_tryNow mv_RX7_247 (tX7_tryNow hst eh1) rfl (by decide) (kfX7_tryNow eh1) ⟨rfl, rfl, (Nat.le_of_ble_eq_true rfl), (Nat.le_of_ble_eq_true rfl), (Nat.le_of_ble_eq_true rfl), (Nat.le_of_ble_eq_true rfl)⟩ rfl rfl (Nat.le_of_ble_eq_true rfl) dX7_copy_1 ?_
  refine z_aload_n B dX7_copy_4 rfl 0 rfl ?_
  refine z_aload_n B dX7_copy_5 rfl 0 rfl ?_
  refine z_aload_n B dX7_copy_6 rfl 0 rfl ?_
  obtain ⟨w2, ew2, hf⟩ := zbs hf
  refine z_gP B fl_RX7_59 ew2 rfl dX7_copy_7 ?_
  refine z_iload_n B dX7_copy_10 rfl 1 rfl ?_
  refine z_iload_n B dX7_copy_11 rfl 2 rfl ?_
  obtain ⟨w3, h4, ew3, hf⟩ := zb2s hf
  refine z_callVi B [.ref w2, .int a1, .int a2] [.ref a0] cw_X7_copyOn mv_RX7_250 (tX7_copyOn hst ew3) rfl (by decide) (kfX7_copyOn ew3) ⟨rfl, rfl, (Nat.le_of_ble_eq_true rfl), (Nat.le_of_ble_eq_true rfl), (Nat.le_of_ble_eq_true rfl), (Nat.le_of_ble_eq_true rfl)⟩ rfl rfl (Nat.le_of_ble_eq_true rfl) dX7_copy_12 ?_
  obtain ⟨w5, h6, ew5, hf⟩ := zb2s hf
  refine z_callVi B [.int w3] [] cw_X7_refused mv_RX7_112 (tX7_refused hst ew5) rfl (by decide) (kfX7_refused ew5) ⟨rfl, rfl, (Nat.le_of_ble_eq_true rfl), (Nat.le_of_ble_eq_true rfl), (Nat.le_of_ble_eq_true rfl), (Nat.le_of_ble_eq_true rfl)⟩ rfl rfl (Nat.le_of_ble_eq_true rfl) dX7_copy_15 ?_
  rcases zite hf with ⟨c7, hf⟩ | ⟨c7, hf⟩
  · refine z_if_eq B 23 dX7_copy_18 (by decide) (fun _ => ?_) (fun e => absurd c7 e)
    refine z_aload_n B dX7_copy_23 rfl 0 rfl ?_
    obtain ⟨h8, eh8, hf⟩ := zbs hf
    refine z_callVv B [] [] cw_X7_accept mv_RX7_253 (tX7_accept hst eh8) rfl (by decide) (kfX7_accept eh8) ⟨rfl, rfl, (Nat.le_of_ble_eq_true rfl), (Nat.le_of_ble_eq_true rfl), (Nat.le_of_ble_eq_true rfl), (Nat.le_of_ble_eq_true rfl)⟩ rfl rfl (Nat.le_of_ble_eq_true rfl) dX7_copy_24 ?_
    refine z_aload_n B dX7_copy_27 rfl 0 rfl ?_
    obtain ⟨w9, ew9, hf⟩ := zbs hf
    refine z_gP B fl_RX7_56 ew9 rfl dX7_copy_28 ?_
    obtain ⟨w10, h11, ew10, hf⟩ := zb2s hf
    refine z_callSi B [.ref w9] [] cw_X7_used mt_RX7_176 (tX7_used hst ew10) ⟨rfl, rfl, (Nat.le_of_ble_eq_true rfl), (Nat.le_of_ble_eq_true rfl), (Nat.le_of_ble_eq_true rfl), (Nat.le_of_ble_eq_true rfl)⟩ rfl rfl (Nat.le_of_ble_eq_true rfl) dX7_copy_31 ?_
    cases hf
    exact z_iret B dX7_copy_34 (Nat.le_of_ble_eq_true rfl) (Nat.le_of_ble_eq_true rfl)
  refine z_if_eq B 23 dX7_copy_18 (by decide) (fun e => absurd e c7) (fun _ => ?_)
  refine z_iconst (v := 0) B dX7_copy_21 (by decide) ?_
  cases hf
  exact z_iret B dX7_copy_22 (Nat.le_of_ble_eq_true rfl) (Nat.le_of_ble_eq_true rfl)
abbrev rm_X7_offer : Room := { frames := 6, cells := 0, slots := 0, locals := 138 }
set_option maxRecDepth 100000 in
set_option maxHeartbeats 4000000 in
theorem tX7_offer {l : Launch} {G : zG} (hst : l.stackTraces = false) {h : zH} {a0 : Nat} {a1 : Int32} {a2 : Int32} {r : Int32 × zH} (hf : fX7_offer h a0 a1 a2 = some r) : zMet l G yX7_offer (.code yX7_offer cX7_offer 3 (some .int)) rm_X7_offer 0 0 [.ref a0, .int a1, .int a2] h (zoi r) := by
  unfold fX7_offer at hf
  obtain ⟨-, hf⟩ := zck hf
  refine z_enter (by decide) (Nat.le_of_ble_eq_true rfl) hst (fun x hx B hE => ?_)
  subst hx
  have B : zB G x cX7_offer 3 RX7 "offer" rm_X7_offer (some .int) := B
  show zV G x 3 (zQ G x (zoi r) 0 0) h 0 0 0 [(0, .ref a0), (1, .int a1), (2, .int a2)] []
  refine z_aload_n B dX7_offer_0 rfl 0 rfl ?_
  obtain ⟨h1, eh1, hf⟩ := zbs hf
  refine z_callVv B [] [] cw_X7_tryNow mv_RX7_247 (tX7_tryNow hst eh1) rfl (by decide) (kfX7_tryNow eh1) ⟨rfl, rfl, (Nat.le_of_ble_eq_true rfl), (Nat.le_of_ble_eq_true rfl), (Nat.le_of_ble_eq_true rfl), (Nat.le_of_ble_eq_true rfl)⟩ rfl rfl (Nat.le_of_ble_eq_true rfl) dX7_offer_1 ?_
  refine z_aload_n B dX7_offer_4 rfl 0 rfl ?_
  refine z_aload_n B dX7_offer_5 rfl 0 rfl ?_
  refine z_aload_n B dX7_offer_6 rfl 0 rfl ?_
  obtain ⟨w2, ew2, hf⟩ := zbs hf
  refine z_gP B fl_RX7_59 ew2 rfl dX7_offer_7 ?_
  refine z_iload_n B dX7_offer_10 rfl 1 rfl ?_
  refine z_iload_n B dX7_offer_11 rfl 2 rfl ?_
  obtain ⟨w3, h4, ew3, hf⟩ := zb2s hf
  refine z_callVi B [.ref w2, .int a1, .int a2] [.ref a0] cw_X7_offerOn mv_RX7_256 (tX7_offerOn hst ew3) rfl (by decide) (kfX7_offerOn ew3) ⟨rfl, rfl, (Nat.le_of_ble_eq_true rfl), (Nat.le_of_ble_eq_true rfl), (Nat.le_of_ble_eq_true rfl), (Nat.le_of_ble_eq_true rfl)⟩ rfl rfl (Nat.le_of_ble_eq_true rfl) dX7_offer_12 ?_
  obtain ⟨w5, h6, ew5, hf⟩ := zb2s hf
  refine z_callVi B [.int w3] [] cw_X7_refused mv_RX7_112 (tX7_refused hst ew5) rfl (by decide) (kfX7_refused ew5) ⟨rfl, rfl, (Nat.le_of_ble_eq_true rfl), (Nat.le_of_ble_eq_true rfl), (Nat.le_of_ble_eq_true rfl), (Nat.le_of_ble_eq_true rfl)⟩ rfl rfl (Nat.le_of_ble_eq_true rfl) dX7_offer_15 ?_
  rcases zite hf with ⟨c7, hf⟩ | ⟨c7, hf⟩
  · refine z_if_eq B 23 dX7_offer_18 (by decide) (fun _ => ?_) (fun e => absurd c7 e)
    refine z_aload_n B dX7_offer_23 rfl 0 rfl ?_
    obtain ⟨h8, eh8, hf⟩ := zbs hf
    refine z_callVv B [] [] cw_X7_accept mv_RX7_253 (tX7_accept hst eh8) rfl (by decide) (kfX7_accept eh8) ⟨rfl, rfl, (Nat.le_of_ble_eq_true rfl), (Nat.le_of_ble_eq_true rfl), (Nat.le_of_ble_eq_true rfl), (Nat.le_of_ble_eq_true rfl)⟩ rfl rfl (Nat.le_of_ble_eq_true rfl) dX7_offer_24 ?_
    refine z_aload_n B dX7_offer_27 rfl 0 rfl ?_
    obtain ⟨w9, ew9, hf⟩ := zbs hf
    refine z_gP B fl_RX7_56 ew9 rfl dX7_offer_28 ?_
    obtain ⟨w10, h11, ew10, hf⟩ := zb2s hf
    refine z_callSi B [.ref w9] [] cw_X7_used mt_RX7_176 (tX7_used hst ew10) ⟨rfl, rfl, (Nat.le_of_ble_eq_true rfl), (Nat.le_of_ble_eq_true rfl), (Nat.le_of_ble_eq_true rfl), (Nat.le_of_ble_eq_true rfl)⟩ rfl rfl (Nat.le_of_ble_eq_true rfl) dX7_offer_31 ?_
    cases hf
    exact z_iret B dX7_offer_34 (Nat.le_of_ble_eq_true rfl) (Nat.le_of_ble_eq_true rfl)
  refine z_if_eq B 23 dX7_offer_18 (by decide) (fun e => absurd e c7) (fun _ => ?_)
  refine z_iconst (v := 0) B dX7_offer_21 (by decide) ?_
  cases hf
  exact z_iret B dX7_offer_22 (Nat.le_of_ble_eq_true rfl) (Nat.le_of_ble_eq_true rfl)
abbrev rm_X7_paste : Room := { frames := 6, cells := 0, slots := 0, locals := 140 }
set_option maxRecDepth 100000 in
set_option maxHeartbeats 4000000 in
theorem tX7_paste {l : Launch} {G : zG} (hst : l.stackTraces = false) {h : zH} {a0 : Nat} {a1 : Int32} {a2 : Int32} {r : Int32 × zH} (hf : fX7_paste h a0 a1 a2 = some r) : zMet l G yX7_paste (.code yX7_paste cX7_paste 3 (some .int)) rm_X7_paste 0 0 [.ref a0, .int a1, .int a2] h (zoi r) := by
  unfold fX7_paste at hf
  obtain ⟨-, hf⟩ := zck hf
  refine z_enter (by decide) (Nat.le_of_ble_eq_true rfl) hst (fun x hx B hE => ?_)
  subst hx
  have B : zB G x cX7_paste 3 RX7 "paste" rm_X7_paste (some .int) := B
  show zV G x 3 (zQ G x (zoi r) 0 0) h 0 0 0 [(0, .ref a0), (1, .int a1), (2, .int a2)] []
  refine z_aload_n B dX7_paste_0 rfl 0 rfl ?_
  obtain ⟨h1, eh1, hf⟩ := zbs hf
  refine z_callVv B [] [] cw_X7_tryNow mv_RX7_247 (tX7_tryNow hst eh1) rfl (by decide) (kfX7_tryNow eh1) ⟨rfl, rfl, (Nat.le_of_ble_eq_true rfl), (Nat.le_of_ble_eq_true rfl), (Nat.le_of_ble_eq_true rfl), (Nat.le_of_ble_eq_true rfl)⟩ rfl rfl (Nat.le_of_ble_eq_true rfl) dX7_paste_1 ?_
  refine z_aload_n B dX7_paste_4 rfl 0 rfl ?_
  refine z_aload_n B dX7_paste_5 rfl 0 rfl ?_
  refine z_aload_n B dX7_paste_6 rfl 0 rfl ?_
  obtain ⟨w2, ew2, hf⟩ := zbs hf
  refine z_gP B fl_RX7_59 ew2 rfl dX7_paste_7 ?_
  refine z_iload_n B dX7_paste_10 rfl 1 rfl ?_
  refine z_iload_n B dX7_paste_11 rfl 2 rfl ?_
  obtain ⟨w3, h4, ew3, hf⟩ := zb2s hf
  refine z_callVi B [.ref w2, .int a1, .int a2] [.ref a0] cw_X7_pasteOn mv_RX7_259 (tX7_pasteOn hst ew3) rfl (by decide) (kfX7_pasteOn ew3) ⟨rfl, rfl, (Nat.le_of_ble_eq_true rfl), (Nat.le_of_ble_eq_true rfl), (Nat.le_of_ble_eq_true rfl), (Nat.le_of_ble_eq_true rfl)⟩ rfl rfl (Nat.le_of_ble_eq_true rfl) dX7_paste_12 ?_
  obtain ⟨w5, h6, ew5, hf⟩ := zb2s hf
  refine z_callVi B [.int w3] [] cw_X7_refused mv_RX7_112 (tX7_refused hst ew5) rfl (by decide) (kfX7_refused ew5) ⟨rfl, rfl, (Nat.le_of_ble_eq_true rfl), (Nat.le_of_ble_eq_true rfl), (Nat.le_of_ble_eq_true rfl), (Nat.le_of_ble_eq_true rfl)⟩ rfl rfl (Nat.le_of_ble_eq_true rfl) dX7_paste_15 ?_
  rcases zite hf with ⟨c7, hf⟩ | ⟨c7, hf⟩
  · refine z_if_eq B 23 dX7_paste_18 (by decide) (fun _ => ?_) (fun e => absurd c7 e)
    refine z_aload_n B dX7_paste_23 rfl 0 rfl ?_
    obtain ⟨h8, eh8, hf⟩ := zbs hf
    refine z_callVv B [] [] cw_X7_accept mv_RX7_253 (tX7_accept hst eh8) rfl (by decide) (kfX7_accept eh8) ⟨rfl, rfl, (Nat.le_of_ble_eq_true rfl), (Nat.le_of_ble_eq_true rfl), (Nat.le_of_ble_eq_true rfl), (Nat.le_of_ble_eq_true rfl)⟩ rfl rfl (Nat.le_of_ble_eq_true rfl) dX7_paste_24 ?_
    refine z_aload_n B dX7_paste_27 rfl 0 rfl ?_
    obtain ⟨w9, ew9, hf⟩ := zbs hf
    refine z_gI B fl_RX7_238 ew9 rfl dX7_paste_28 ?_
    cases hf
    exact z_iret B dX7_paste_31 (Nat.le_of_ble_eq_true rfl) (Nat.le_of_ble_eq_true rfl)
  refine z_if_eq B 23 dX7_paste_18 (by decide) (fun e => absurd e c7) (fun _ => ?_)
  refine z_iconst (v := 0) B dX7_paste_21 (by decide) ?_
  cases hf
  exact z_iret B dX7_paste_22 (Nat.le_of_ble_eq_true rfl) (Nat.le_of_ble_eq_true rfl)
abbrev rm_X7_togglePin : Room := { frames := 2, cells := 0, slots := 0, locals := 46 }
set_option maxRecDepth 100000 in
set_option maxHeartbeats 4000000 in
theorem tX7_togglePin {l : Launch} {G : zG} (hst : l.stackTraces = false) {h : zH} {a0 : Nat} {a1 : Int32} {r : Int32 × zH} (hf : fX7_togglePin h a0 a1 = some r) : zMet l G yX7_togglePin (.code yX7_togglePin cX7_togglePin 2 (some .int)) rm_X7_togglePin 0 0 [.ref a0, .int a1] h (zoi r) := by
  unfold fX7_togglePin at hf
  obtain ⟨-, hf⟩ := zck hf
  refine z_enter (by decide) (Nat.le_of_ble_eq_true rfl) hst (fun x hx B hE => ?_)
  subst hx
  have B : zB G x cX7_togglePin 2 RX7 "togglePin" rm_X7_togglePin (some .int) := B
  show zV G x 2 (zQ G x (zoi r) 0 0) h 0 0 0 [(0, .ref a0), (1, .int a1)] []
  refine z_aload_n B dX7_togglePin_0 rfl 0 rfl ?_
  refine z_aload_n B dX7_togglePin_1 rfl 0 rfl ?_
  obtain ⟨w1, ew1, hf⟩ := zbs hf
  refine z_gP B fl_RX7_56 ew1 rfl dX7_togglePin_2 ?_
  refine z_iload_n B dX7_togglePin_5 rfl 1 rfl ?_
  obtain ⟨w2, h3, ew2, hf⟩ := zb2s hf
  refine z_callSi B [.ref w1, .int a1] [.ref a0] cw_X7_isEntry mt_RX7_204 (tX7_isEntry hst ew2) ⟨rfl, rfl, (Nat.le_of_ble_eq_true rfl), (Nat.le_of_ble_eq_true rfl), (Nat.le_of_ble_eq_true rfl), (Nat.le_of_ble_eq_true rfl)⟩ rfl rfl (Nat.le_of_ble_eq_true rfl) dX7_togglePin_6 ?_
  rcases zite hf with ⟨c4, hf⟩ | ⟨c4, hf⟩
  · refine z_if_eq B 16 dX7_togglePin_9 (by decide) (fun _ => ?_) (fun e => absurd c4 e)
    refine z_iconst (v := 1) B dX7_togglePin_16 (by decide) ?_
    obtain ⟨w5, h6, ew5, hf⟩ := zb2s hf
    refine z_callVi B [.int 1] [] cw_X7_refused mv_RX7_112 (tX7_refused hst ew5) rfl (by decide) (kfX7_refused ew5) ⟨rfl, rfl, (Nat.le_of_ble_eq_true rfl), (Nat.le_of_ble_eq_true rfl), (Nat.le_of_ble_eq_true rfl), (Nat.le_of_ble_eq_true rfl)⟩ rfl rfl (Nat.le_of_ble_eq_true rfl) dX7_togglePin_17 ?_
    rcases zite hf with ⟨c7, hf⟩ | ⟨c7, hf⟩
    · refine z_if_eq B 25 dX7_togglePin_20 (by decide) (fun _ => ?_) (fun e => absurd c7 e)
      refine z_aload_n B dX7_togglePin_25 rfl 0 rfl ?_
      obtain ⟨h8, eh8, hf⟩ := zbs hf
      refine z_callVv B [] [] cw_X7_note mv_RX7_94 (tX7_note hst eh8) rfl (by decide) (kfX7_note eh8) ⟨rfl, rfl, (Nat.le_of_ble_eq_true rfl), (Nat.le_of_ble_eq_true rfl), (Nat.le_of_ble_eq_true rfl), (Nat.le_of_ble_eq_true rfl)⟩ rfl rfl (Nat.le_of_ble_eq_true rfl) dX7_togglePin_26 ?_
      refine z_aload_n B dX7_togglePin_29 rfl 0 rfl ?_
      obtain ⟨w9, ew9, hf⟩ := zbs hf
      refine z_gP B fl_RX7_56 ew9 rfl dX7_togglePin_30 ?_
      refine z_iload_n B dX7_togglePin_33 rfl 1 rfl ?_
      obtain ⟨w10, h11, ew10, hf⟩ := zb2s hf
      refine z_callSi B [.int a1] [.ref w9] cw_X7_at mt_RX7_163 (tX7_at hst ew10) ⟨rfl, rfl, (Nat.le_of_ble_eq_true rfl), (Nat.le_of_ble_eq_true rfl), (Nat.le_of_ble_eq_true rfl), (Nat.le_of_ble_eq_true rfl)⟩ rfl rfl (Nat.le_of_ble_eq_true rfl) dX7_togglePin_34 ?_
      refine z_bipush (v := 24) B dX7_togglePin_37 (by decide) ?_
      refine z_iadd B dX7_togglePin_39 ?_
      refine z_iconst (v := 1) B dX7_togglePin_40 (by decide) ?_
      refine z_aload_n B dX7_togglePin_41 rfl 0 rfl ?_
      obtain ⟨w12, ew12, hf⟩ := zbs hf
      refine z_gP B fl_RX7_56 ew12 rfl dX7_togglePin_42 ?_
      refine z_iload_n B dX7_togglePin_45 rfl 1 rfl ?_
      obtain ⟨w13, h14, ew13, hf⟩ := zb2s hf
      refine z_callSi B [.int a1] [.ref w12, .int 1, .int ((w10 : Int32) + 24), .ref w9] cw_X7_at mt_RX7_163 (tX7_at hst ew13) ⟨rfl, rfl, (Nat.le_of_ble_eq_true rfl), (Nat.le_of_ble_eq_true rfl), (Nat.le_of_ble_eq_true rfl), (Nat.le_of_ble_eq_true rfl)⟩ rfl rfl (Nat.le_of_ble_eq_true rfl) dX7_togglePin_46 ?_
      refine z_bipush (v := 24) B dX7_togglePin_49 (by decide) ?_
      refine z_iadd B dX7_togglePin_51 ?_
      obtain ⟨w15, ew15, hf⟩ := zbs hf
      refine z_aI B ew15 dX7_togglePin_52 ?_
      refine z_isub B dX7_togglePin_53 ?_
      obtain ⟨h16, eh16, hf⟩ := zbs hf
      refine z_bI B eh16 dX7_togglePin_54 ?_
      refine z_aload_n B dX7_togglePin_55 rfl 0 rfl ?_
      refine z_aload_n B dX7_togglePin_56 rfl 0 rfl ?_
      obtain ⟨w17, ew17, hf⟩ := zbs hf
      refine z_gP B fl_RX7_56 ew17 rfl dX7_togglePin_57 ?_
      obtain ⟨w18, h19, ew18, hf⟩ := zb2s hf
      refine z_callVi B [.ref w17] [] cw_X7_pinnedIn mv_RX7_262 (tX7_pinnedIn hst ew18) rfl (by decide) (kfX7_pinnedIn ew18) ⟨rfl, rfl, (Nat.le_of_ble_eq_true rfl), (Nat.le_of_ble_eq_true rfl), (Nat.le_of_ble_eq_true rfl), (Nat.le_of_ble_eq_true rfl)⟩ rfl rfl (Nat.le_of_ble_eq_true rfl) dX7_togglePin_60 ?_
      cases hf
      exact z_iret B dX7_togglePin_63 (Nat.le_of_ble_eq_true rfl) (Nat.le_of_ble_eq_true rfl)
    refine z_if_eq B 25 dX7_togglePin_20 (by decide) (fun e => absurd e c7) (fun _ => ?_)
    refine z_iconst (v := 0) B dX7_togglePin_23 (by decide) ?_
    cases hf
    exact z_iret B dX7_togglePin_24 (Nat.le_of_ble_eq_true rfl) (Nat.le_of_ble_eq_true rfl)
  refine z_if_eq B 16 dX7_togglePin_9 (by decide) (fun e => absurd e c4) (fun _ => ?_)
  refine z_iconst (v := 0) B dX7_togglePin_12 (by decide) ?_
  refine z_goto B 17 dX7_togglePin_13 (by decide) ?_
  obtain ⟨w20, h21, ew20, hf⟩ := zb2s hf
  refine z_callVi B [.int 0] [] cw_X7_refused mv_RX7_112 (tX7_refused hst ew20) rfl (by decide) (kfX7_refused ew20) ⟨rfl, rfl, (Nat.le_of_ble_eq_true rfl), (Nat.le_of_ble_eq_true rfl), (Nat.le_of_ble_eq_true rfl), (Nat.le_of_ble_eq_true rfl)⟩ rfl rfl (Nat.le_of_ble_eq_true rfl) dX7_togglePin_17 ?_
  rcases zite hf with ⟨c22, hf⟩ | ⟨c22, hf⟩
  · refine z_if_eq B 25 dX7_togglePin_20 (by decide) (fun _ => ?_) (fun e => absurd c22 e)
    refine z_aload_n B dX7_togglePin_25 rfl 0 rfl ?_
    obtain ⟨h23, eh23, hf⟩ := zbs hf
    refine z_callVv B [] [] cw_X7_note mv_RX7_94 (tX7_note hst eh23) rfl (by decide) (kfX7_note eh23) ⟨rfl, rfl, (Nat.le_of_ble_eq_true rfl), (Nat.le_of_ble_eq_true rfl), (Nat.le_of_ble_eq_true rfl), (Nat.le_of_ble_eq_true rfl)⟩ rfl rfl (Nat.le_of_ble_eq_true rfl) dX7_togglePin_26 ?_
    refine z_aload_n B dX7_togglePin_29 rfl 0 rfl ?_
    obtain ⟨w24, ew24, hf⟩ := zbs hf
    refine z_gP B fl_RX7_56 ew24 rfl dX7_togglePin_30 ?_
    refine z_iload_n B dX7_togglePin_33 rfl 1 rfl ?_
    obtain ⟨w25, h26, ew25, hf⟩ := zb2s hf
    refine z_callSi B [.int a1] [.ref w24] cw_X7_at mt_RX7_163 (tX7_at hst ew25) ⟨rfl, rfl, (Nat.le_of_ble_eq_true rfl), (Nat.le_of_ble_eq_true rfl), (Nat.le_of_ble_eq_true rfl), (Nat.le_of_ble_eq_true rfl)⟩ rfl rfl (Nat.le_of_ble_eq_true rfl) dX7_togglePin_34 ?_
    refine z_bipush (v := 24) B dX7_togglePin_37 (by decide) ?_
    refine z_iadd B dX7_togglePin_39 ?_
    refine z_iconst (v := 1) B dX7_togglePin_40 (by decide) ?_
    refine z_aload_n B dX7_togglePin_41 rfl 0 rfl ?_
    obtain ⟨w27, ew27, hf⟩ := zbs hf
    refine z_gP B fl_RX7_56 ew27 rfl dX7_togglePin_42 ?_
    refine z_iload_n B dX7_togglePin_45 rfl 1 rfl ?_
    obtain ⟨w28, h29, ew28, hf⟩ := zb2s hf
    refine z_callSi B [.int a1] [.ref w27, .int 1, .int ((w25 : Int32) + 24), .ref w24] cw_X7_at mt_RX7_163 (tX7_at hst ew28) ⟨rfl, rfl, (Nat.le_of_ble_eq_true rfl), (Nat.le_of_ble_eq_true rfl), (Nat.le_of_ble_eq_true rfl), (Nat.le_of_ble_eq_true rfl)⟩ rfl rfl (Nat.le_of_ble_eq_true rfl) dX7_togglePin_46 ?_
    refine z_bipush (v := 24) B dX7_togglePin_49 (by decide) ?_
    refine z_iadd B dX7_togglePin_51 ?_
    obtain ⟨w30, ew30, hf⟩ := zbs hf
    refine z_aI B ew30 dX7_togglePin_52 ?_
    refine z_isub B dX7_togglePin_53 ?_
    obtain ⟨h31, eh31, hf⟩ := zbs hf
    refine z_bI B eh31 dX7_togglePin_54 ?_
    refine z_aload_n B dX7_togglePin_55 rfl 0 rfl ?_
    refine z_aload_n B dX7_togglePin_56 rfl 0 rfl ?_
    obtain ⟨w32, ew32, hf⟩ := zbs hf
    refine z_gP B fl_RX7_56 ew32 rfl dX7_togglePin_57 ?_
    obtain ⟨w33, h34, ew33, hf⟩ := zb2s hf
    refine z_callVi B [.ref w32] [] cw_X7_pinnedIn mv_RX7_262 (tX7_pinnedIn hst ew33) rfl (by decide) (kfX7_pinnedIn ew33) ⟨rfl, rfl, (Nat.le_of_ble_eq_true rfl), (Nat.le_of_ble_eq_true rfl), (Nat.le_of_ble_eq_true rfl), (Nat.le_of_ble_eq_true rfl)⟩ rfl rfl (Nat.le_of_ble_eq_true rfl) dX7_togglePin_60 ?_
    cases hf
    exact z_iret B dX7_togglePin_63 (Nat.le_of_ble_eq_true rfl) (Nat.le_of_ble_eq_true rfl)
  refine z_if_eq B 25 dX7_togglePin_20 (by decide) (fun e => absurd e c22) (fun _ => ?_)
  refine z_iconst (v := 0) B dX7_togglePin_23 (by decide) ?_
  cases hf
  exact z_iret B dX7_togglePin_24 (Nat.le_of_ble_eq_true rfl) (Nat.le_of_ble_eq_true rfl)
