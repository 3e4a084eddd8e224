theorem dX7_million_0 : zD cX7_million 0 (.lconst 1) 1 1 := ⟨by decide +kernel, rfl⟩
theorem dX7_million_1 : zD cX7_million 1 (.lstore_n 1) 1 2 := ⟨by decide +kernel, rfl⟩
theorem dX7_million_2 : zD cX7_million 2 (.iconst 0) 1 3 := ⟨by decide +kernel, rfl⟩
theorem dX7_million_3 : zD cX7_million 3 (.istore_n 3) 1 4 := ⟨by decide +kernel, rfl⟩
theorem dX7_million_4 : zD cX7_million 4 (.iload_n 3) 1 5 := ⟨by decide +kernel, rfl⟩
theorem dX7_million_5 : zD cX7_million 5 (.iload_n 0) 1 6 := ⟨by decide +kernel, rfl⟩
theorem dX7_million_6 : zD cX7_million 6 (.if_icmp .ge 15) 3 9 := ⟨by decide +kernel, rfl⟩
theorem dX7_million_9 : zD cX7_million 9 (.lload_n 1) 1 10 := ⟨by decide +kernel, rfl⟩
theorem dX7_million_10 : zD cX7_million 10 (.ldc2_w 310) 3 13 := ⟨by decide +kernel, rfl⟩
theorem dX7_million_13 : zD cX7_million 13 (.lmul) 1 14 := ⟨by decide +kernel, rfl⟩
theorem dX7_million_14 : zD cX7_million 14 (.lstore_n 1) 1 15 := ⟨by decide +kernel, rfl⟩
theorem dX7_million_15 : zD cX7_million 15 (.iinc 3 1) 3 18 := ⟨by decide +kernel, rfl⟩
theorem dX7_million_18 : zD cX7_million 18 (.goto (-14)) 3 21 := ⟨by decide +kernel, rfl⟩
theorem dX7_million_21 : zD cX7_million 21 (.lload_n 1) 1 22 := ⟨by decide +kernel, rfl⟩
theorem dX7_million_22 : zD cX7_million 22 (.lreturn) 1 23 := ⟨by decide +kernel, rfl⟩
theorem dX7_runScript_0 : zD cX7_runScript 0 (.aload_n 0) 1 1 := ⟨by decide +kernel, rfl⟩
theorem dX7_runScript_1 : zD cX7_runScript 1 (.iload_n 1) 1 2 := ⟨by decide +kernel, rfl⟩
theorem dX7_runScript_2 : zD cX7_runScript 2 (.i2l) 1 3 := ⟨by decide +kernel, rfl⟩
theorem dX7_runScript_3 : zD cX7_runScript 3 (.lconst 1) 1 4 := ⟨by decide +kernel, rfl⟩
theorem dX7_runScript_4 : zD cX7_runScript 4 (.ldc2_w 312) 3 7 := ⟨by decide +kernel, rfl⟩
theorem dX7_runScript_7 : zD cX7_runScript 7 (.invokestatic 97) 3 10 := ⟨by decide +kernel, rfl⟩
theorem dX7_runScript_10 : zD cX7_runScript 10 (.ifCond .eq 21) 3 13 := ⟨by decide +kernel, rfl⟩
theorem dX7_runScript_13 : zD cX7_runScript 13 (.lload_n 2) 1 14 := ⟨by decide +kernel, rfl⟩
theorem dX7_runScript_14 : zD cX7_runScript 14 (.lconst 0) 1 15 := ⟨by decide +kernel, rfl⟩
theorem dX7_runScript_15 : zD cX7_runScript 15 (.iload_n 1) 1 16 := ⟨by decide +kernel, rfl⟩
theorem dX7_runScript_16 : zD cX7_runScript 16 (.invokestatic 314) 3 19 := ⟨by decide +kernel, rfl⟩
theorem dX7_runScript_19 : zD cX7_runScript 19 (.lconst 1) 1 20 := ⟨by decide +kernel, rfl⟩
theorem dX7_runScript_20 : zD cX7_runScript 20 (.lsub) 1 21 := ⟨by decide +kernel, rfl⟩
theorem dX7_runScript_21 : zD cX7_runScript 21 (.invokestatic 97) 3 24 := ⟨by decide +kernel, rfl⟩
theorem dX7_runScript_24 : zD cX7_runScript 24 (.ifCond .eq 7) 3 27 := ⟨by decide +kernel, rfl⟩
theorem dX7_runScript_27 : zD cX7_runScript 27 (.iconst 0) 1 28 := ⟨by decide +kernel, rfl⟩
theorem dX7_runScript_28 : zD cX7_runScript 28 (.goto 4) 3 31 := ⟨by decide +kernel, rfl⟩
theorem dX7_runScript_31 : zD cX7_runScript 31 (.iconst 1) 1 32 := ⟨by decide +kernel, rfl⟩
theorem dX7_runScript_32 : zD cX7_runScript 32 (.invokevirtual 112) 3 35 := ⟨by decide +kernel, rfl⟩
theorem dX7_runScript_35 : zD cX7_runScript 35 (.ifCond .eq 5) 3 38 := ⟨by decide +kernel, rfl⟩
theorem dX7_runScript_38 : zD cX7_runScript 38 (.iconst 0) 1 39 := ⟨by decide +kernel, rfl⟩
theorem dX7_runScript_39 : zD cX7_runScript 39 (.ireturn) 1 40 := ⟨by decide +kernel, rfl⟩
theorem dX7_runScript_40 : zD cX7_runScript 40 (.aload_n 0) 1 41 := ⟨by decide +kernel, rfl⟩
theorem dX7_runScript_41 : zD cX7_runScript 41 (.invokevirtual 247) 3 44 := ⟨by decide +kernel, rfl⟩
theorem dX7_runScript_44 : zD cX7_runScript 44 (.iconst 0) 1 45 := ⟨by decide +kernel, rfl⟩
theorem dX7_runScript_45 : zD cX7_runScript 45 (.istore 4) 2 47 := ⟨by decide +kernel, rfl⟩
theorem dX7_runScript_47 : zD cX7_runScript 47 (.iload 4) 2 49 := ⟨by decide +kernel, rfl⟩
theorem dX7_runScript_49 : zD cX7_runScript 49 (.iload_n 1) 1 50 := ⟨by decide +kernel, rfl⟩
theorem dX7_runScript_50 : zD cX7_runScript 50 (.if_icmp .ge 35) 3 53 := ⟨by decide +kernel, rfl⟩
theorem dX7_runScript_53 : zD cX7_runScript 53 (.aload_n 0) 1 54 := ⟨by decide +kernel, rfl⟩
theorem dX7_runScript_54 : zD cX7_runScript 54 (.lload_n 2) 1 55 := ⟨by decide +kernel, rfl⟩
theorem dX7_runScript_55 : zD cX7_runScript 55 (.iload_n 1) 1 56 := ⟨by decide +kernel, rfl⟩
theorem dX7_runScript_56 : zD cX7_runScript 56 (.iconst 1) 1 57 := ⟨by decide +kernel, rfl⟩
theorem dX7_runScript_57 : zD cX7_runScript 57 (.isub) 1 58 := ⟨by decide +kernel, rfl⟩
theorem dX7_runScript_58 : zD cX7_runScript 58 (.iload 4) 2 60 := ⟨by decide +kernel, rfl⟩
theorem dX7_runScript_60 : zD cX7_runScript 60 (.isub) 1 61 := ⟨by decide +kernel, rfl⟩
theorem dX7_runScript_61 : zD cX7_runScript 61 (.invokestatic 314) 3 64 := ⟨by decide +kernel, rfl⟩
theorem dX7_runScript_64 : zD cX7_runScript 64 (.ldiv) 1 65 := ⟨by decide +kernel, rfl⟩
theorem dX7_runScript_65 : zD cX7_runScript 65 (.ldc2_w 310) 3 68 := ⟨by decide +kernel, rfl⟩
theorem dX7_runScript_68 : zD cX7_runScript 68 (.lrem) 1 69 := ⟨by decide +kernel, rfl⟩
theorem dX7_runScript_69 : zD cX7_runScript 69 (.l2i) 1 70 := ⟨by decide +kernel, rfl⟩
theorem dX7_runScript_70 : zD cX7_runScript 70 (.invokevirtual 318) 3 73 := ⟨by decide +kernel, rfl⟩
theorem dX7_runScript_73 : zD cX7_runScript 73 (.ifCond .ne 6) 3 76 := ⟨by decide +kernel, rfl⟩
theorem dX7_runScript_76 : zD cX7_runScript 76 (.iload 4) 2 78 := ⟨by decide +kernel, rfl⟩
theorem dX7_runScript_78 : zD cX7_runScript 78 (.ireturn) 1 79 := ⟨by decide +kernel, rfl⟩
theorem dX7_runScript_79 : zD cX7_runScript 79 (.iinc 4 1) 3 82 := ⟨by decide +kernel, rfl⟩
theorem dX7_runScript_82 : zD cX7_runScript 82 (.goto (-35)) 3 85 := ⟨by decide +kernel, rfl⟩
theorem dX7_runScript_85 : zD cX7_runScript 85 (.bipush (-9)) 2 87 := ⟨by decide +kernel, rfl⟩
theorem dX7_runScript_87 : zD cX7_runScript 87 (.ireturn) 1 88 := ⟨by decide +kernel, rfl⟩
theorem dX7_simulate_0 : zD cX7_simulate 0 (.aload_n 0) 1 1 := ⟨by decide +kernel, rfl⟩
theorem dX7_simulate_1 : zD cX7_simulate 1 (.iload_n 3) 1 2 := ⟨by decide +kernel, rfl⟩
theorem dX7_simulate_2 : zD cX7_simulate 2 (.i2l) 1 3 := ⟨by decide +kernel, rfl⟩
theorem dX7_simulate_3 : zD cX7_simulate 3 (.lconst 1) 1 4 := ⟨by decide +kernel, rfl⟩
theorem dX7_simulate_4 : zD cX7_simulate 4 (.ldc2_w 321) 3 7 := ⟨by decide +kernel, rfl⟩
theorem dX7_simulate_7 : zD cX7_simulate 7 (.invokestatic 97) 3 10 := ⟨by decide +kernel, rfl⟩
theorem dX7_simulate_10 : zD cX7_simulate 10 (.ifCond .eq 7) 3 13 := ⟨by decide +kernel, rfl⟩
theorem dX7_simulate_13 : zD cX7_simulate 13 (.iconst 0) 1 14 := ⟨by decide +kernel, rfl⟩
theorem dX7_simulate_14 : zD cX7_simulate 14 (.goto 4) 3 17 := ⟨by decide +kernel, rfl⟩
theorem dX7_simulate_17 : zD cX7_simulate 17 (.iconst 1) 1 18 := ⟨by decide +kernel, rfl⟩
theorem dX7_simulate_18 : zD cX7_simulate 18 (.invokevirtual 112) 3 21 := ⟨by decide +kernel, rfl⟩
theorem dX7_simulate_21 : zD cX7_simulate 21 (.ifCond .eq 5) 3 24 := ⟨by decide +kernel, rfl⟩
theorem dX7_simulate_24 : zD cX7_simulate 24 (.iconst 0) 1 25 := ⟨by decide +kernel, rfl⟩
theorem dX7_simulate_25 : zD cX7_simulate 25 (.ireturn) 1 26 := ⟨by decide +kernel, rfl⟩
theorem dX7_simulate_26 : zD cX7_simulate 26 (.aload_n 0) 1 27 := ⟨by decide +kernel, rfl⟩
theorem dX7_simulate_27 : zD cX7_simulate 27 (.invokevirtual 247) 3 30 := ⟨by decide +kernel, rfl⟩
theorem dX7_simulate_30 : zD cX7_simulate 30 (.lload_n 1) 1 31 := ⟨by decide +kernel, rfl⟩
theorem dX7_simulate_31 : zD cX7_simulate 31 (.lstore 4) 2 33 := ⟨by decide +kernel, rfl⟩
theorem dX7_simulate_33 : zD cX7_simulate 33 (.iconst 0) 1 34 := ⟨by decide +kernel, rfl⟩
theorem dX7_simulate_34 : zD cX7_simulate 34 (.istore 6) 2 36 := ⟨by decide +kernel, rfl⟩
theorem dX7_simulate_36 : zD cX7_simulate 36 (.iload 6) 2 38 := ⟨by decide +kernel, rfl⟩
theorem dX7_simulate_38 : zD cX7_simulate 38 (.iload_n 3) 1 39 := ⟨by decide +kernel, rfl⟩
theorem dX7_simulate_39 : zD cX7_simulate 39 (.if_icmp .ge 120) 3 42 := ⟨by decide +kernel, rfl⟩
theorem dX7_simulate_42 : zD cX7_simulate 42 (.lload 4) 2 44 := ⟨by decide +kernel, rfl⟩
theorem dX7_simulate_44 : zD cX7_simulate 44 (.ldc2_w 323) 3 47 := ⟨by decide +kernel, rfl⟩
theorem dX7_simulate_47 : zD cX7_simulate 47 (.lmul) 1 48 := ⟨by decide +kernel, rfl⟩
theorem dX7_simulate_48 : zD cX7_simulate 48 (.ldc2_w 325) 3 51 := ⟨by decide +kernel, rfl⟩
theorem dX7_simulate_51 : zD cX7_simulate 51 (.ladd) 1 52 := ⟨by decide +kernel, rfl⟩
theorem dX7_simulate_52 : zD cX7_simulate 52 (.lstore 4) 2 54 := ⟨by decide +kernel, rfl⟩
theorem dX7_simulate_54 : zD cX7_simulate 54 (.lload 4) 2 56 := ⟨by decide +kernel, rfl⟩
theorem dX7_simulate_56 : zD cX7_simulate 56 (.bipush 33) 2 58 := ⟨by decide +kernel, rfl⟩
theorem dX7_simulate_58 : zD cX7_simulate 58 (.lushr) 1 59 := ⟨by decide +kernel, rfl⟩
theorem dX7_simulate_59 : zD cX7_simulate 59 (.l2i) 1 60 := ⟨by decide +kernel, rfl⟩
theorem dX7_simulate_60 : zD cX7_simulate 60 (.istore 7) 2 62 := ⟨by decide +kernel, rfl⟩
theorem dX7_simulate_62 : zD cX7_simulate 62 (.iload 7) 2 64 := ⟨by decide +kernel, rfl⟩
theorem dX7_simulate_64 : zD cX7_simulate 64 (.iconst 3) 1 65 := ⟨by decide +kernel, rfl⟩
theorem dX7_simulate_65 : zD cX7_simulate 65 (.irem) 1 66 := ⟨by decide +kernel, rfl⟩
theorem dX7_simulate_66 : zD cX7_simulate 66 (.ifCond .eq 19) 3 69 := ⟨by decide +kernel, rfl⟩
theorem dX7_simulate_69 : zD cX7_simulate 69 (.aload_n 0) 1 70 := ⟨by decide +kernel, rfl⟩
theorem dX7_simulate_70 : zD cX7_simulate 70 (.getfield 59) 3 73 := ⟨by decide +kernel, rfl⟩
theorem dX7_simulate_73 : zD cX7_simulate 73 (.iconst 0) 1 74 := ⟨by decide +kernel, rfl⟩
theorem dX7_simulate_74 : zD cX7_simulate 74 (.iaload) 1 75 := ⟨by decide +kernel, rfl⟩
theorem dX7_simulate_75 : zD cX7_simulate 75 (.ifCond .eq 10) 3 78 := ⟨by decide +kernel, rfl⟩
theorem dX7_simulate_78 : zD cX7_simulate 78 (.aload_n 0) 1 79 := ⟨by decide +kernel, rfl⟩
theorem dX7_simulate_79 : zD cX7_simulate 79 (.getfield 104) 3 82 := ⟨by decide +kernel, rfl⟩
theorem dX7_simulate_82 : zD cX7_simulate 82 (.ifCond .ne 7) 3 85 := ⟨by decide +kernel, rfl⟩
theorem dX7_simulate_85 : zD cX7_simulate 85 (.iconst 1) 1 86 := ⟨by decide +kernel, rfl⟩
theorem dX7_simulate_86 : zD cX7_simulate 86 (.goto 4) 3 89 := ⟨by decide +kernel, rfl⟩
theorem dX7_simulate_89 : zD cX7_simulate 89 (.iconst 0) 1 90 := ⟨by decide +kernel, rfl⟩
theorem dX7_simulate_90 : zD cX7_simulate 90 (.istore 8) 2 92 := ⟨by decide +kernel, rfl⟩
theorem dX7_simulate_92 : zD cX7_simulate 92 (.iload 8) 2 94 := ⟨by decide +kernel, rfl⟩
theorem dX7_simulate_94 : zD cX7_simulate 94 (.ifCond .eq 31) 3 97 := ⟨by decide +kernel, rfl⟩
theorem dX7_simulate_97 : zD cX7_simulate 97 (.aload_n 0) 1 98 := ⟨by decide +kernel, rfl⟩
theorem dX7_simulate_98 : zD cX7_simulate 98 (.iconst 1) 1 99 := ⟨by decide +kernel, rfl⟩
theorem dX7_simulate_99 : zD cX7_simulate 99 (.iload 7) 2 101 := ⟨by decide +kernel, rfl⟩
theorem dX7_simulate_101 : zD cX7_simulate 101 (.iconst 4) 1 102 := ⟨by decide +kernel, rfl⟩
theorem dX7_simulate_102 : zD cX7_simulate 102 (.idiv) 1 103 := ⟨by decide +kernel, rfl⟩
theorem dX7_simulate_103 : zD cX7_simulate 103 (.aload_n 0) 1 104 := ⟨by decide +kernel, rfl⟩
theorem dX7_simulate_104 : zD cX7_simulate 104 (.getfield 13) 3 107 := ⟨by decide +kernel, rfl⟩
theorem dX7_simulate_107 : zD cX7_simulate 107 (.irem) 1 108 := ⟨by decide +kernel, rfl⟩
theorem dX7_simulate_108 : zD cX7_simulate 108 (.iconst 1) 1 109 := ⟨by decide +kernel, rfl⟩
theorem dX7_simulate_109 : zD cX7_simulate 109 (.iload 7) 2 111 := ⟨by decide +kernel, rfl⟩
theorem dX7_simulate_111 : zD cX7_simulate 111 (.bipush 64) 2 113 := ⟨by decide +kernel, rfl⟩
theorem dX7_simulate_113 : zD cX7_simulate 113 (.idiv) 1 114 := ⟨by decide +kernel, rfl⟩
theorem dX7_simulate_114 : zD cX7_simulate 114 (.sipush 500) 3 117 := ⟨by decide +kernel, rfl⟩
theorem dX7_simulate_117 : zD cX7_simulate 117 (.irem) 1 118 := ⟨by decide +kernel, rfl⟩
theorem dX7_simulate_118 : zD cX7_simulate 118 (.iadd) 1 119 := ⟨by decide +kernel, rfl⟩
theorem dX7_simulate_119 : zD cX7_simulate 119 (.invokevirtual 307) 3 122 := ⟨by decide +kernel, rfl⟩
theorem dX7_simulate_122 : zD cX7_simulate 122 (.goto 29) 3 125 := ⟨by decide +kernel, rfl⟩
theorem dX7_simulate_125 : zD cX7_simulate 125 (.aload_n 0) 1 126 := ⟨by decide +kernel, rfl⟩
theorem dX7_simulate_126 : zD cX7_simulate 126 (.iconst 3) 1 127 := ⟨by decide +kernel, rfl⟩
theorem dX7_simulate_127 : zD cX7_simulate 127 (.iload 7) 2 129 := ⟨by decide +kernel, rfl⟩
theorem dX7_simulate_129 : zD cX7_simulate 129 (.iconst 4) 1 130 := ⟨by decide +kernel, rfl⟩
theorem dX7_simulate_130 : zD cX7_simulate 130 (.idiv) 1 131 := ⟨by decide +kernel, rfl⟩
theorem dX7_simulate_131 : zD cX7_simulate 131 (.aload_n 0) 1 132 := ⟨by decide +kernel, rfl⟩
theorem dX7_simulate_132 : zD cX7_simulate 132 (.getfield 59) 3 135 := ⟨by decide +kernel, rfl⟩
theorem dX7_simulate_135 : zD cX7_simulate 135 (.iconst 0) 1 136 := ⟨by decide +kernel, rfl⟩
theorem dX7_simulate_136 : zD cX7_simulate 136 (.iaload) 1 137 := ⟨by decide +kernel, rfl⟩
theorem dX7_simulate_137 : zD cX7_simulate 137 (.irem) 1 138 := ⟨by decide +kernel, rfl⟩
theorem dX7_simulate_138 : zD cX7_simulate 138 (.iload 7) 2 140 := ⟨by decide +kernel, rfl⟩
theorem dX7_simulate_140 : zD cX7_simulate 140 (.bipush 64) 2 142 := ⟨by decide +kernel, rfl⟩
theorem dX7_simulate_142 : zD cX7_simulate 142 (.idiv) 1 143 := ⟨by decide +kernel, rfl⟩
theorem dX7_simulate_143 : zD cX7_simulate 143 (.aload_n 0) 1 144 := ⟨by decide +kernel, rfl⟩
theorem dX7_simulate_144 : zD cX7_simulate 144 (.getfield 104) 3 147 := ⟨by decide +kernel, rfl⟩
theorem dX7_simulate_147 : zD cX7_simulate 147 (.irem) 1 148 := ⟨by decide +kernel, rfl⟩
theorem dX7_simulate_148 : zD cX7_simulate 148 (.invokevirtual 307) 3 151 := ⟨by decide +kernel, rfl⟩
theorem dX7_simulate_151 : zD cX7_simulate 151 (.istore 9) 2 153 := ⟨by decide +kernel, rfl⟩
theorem dX7_simulate_153 : zD cX7_simulate 153 (.iinc 6 1) 3 156 := ⟨by decide +kernel, rfl⟩
theorem dX7_simulate_156 : zD cX7_simulate 156 (.goto (-120)) 3 159 := ⟨by decide +kernel, rfl⟩
theorem dX7_simulate_159 : zD cX7_simulate 159 (.aload_n 0) 1 160 := ⟨by decide +kernel, rfl⟩
theorem dX7_simulate_160 : zD cX7_simulate 160 (.getfield 59) 3 163 := ⟨by decide +kernel, rfl⟩
theorem dX7_simulate_163 : zD cX7_simulate 163 (.iconst 2) 1 164 := ⟨by decide +kernel, rfl⟩
theorem dX7_simulate_164 : zD cX7_simulate 164 (.iaload) 1 165 := ⟨by decide +kernel, rfl⟩
theorem dX7_simulate_165 : zD cX7_simulate 165 (.aload_n 0) 1 166 := ⟨by decide +kernel, rfl⟩
theorem dX7_simulate_166 : zD cX7_simulate 166 (.getfield 59) 3 169 := ⟨by decide +kernel, rfl⟩
theorem dX7_simulate_169 : zD cX7_simulate 169 (.invokestatic 176) 3 172 := ⟨by decide +kernel, rfl⟩
theorem dX7_simulate_172 : zD cX7_simulate 172 (.iadd) 1 173 := ⟨by decide +kernel, rfl⟩
theorem dX7_simulate_173 : zD cX7_simulate 173 (.ireturn) 1 174 := ⟨by decide +kernel, rfl⟩
theorem dX7_save_0 : zD cX7_save 0 (.aload_n 0) 1 1 := ⟨by decide +kernel, rfl⟩
theorem dX7_save_1 : zD cX7_save 1 (.iload_n 1) 1 2 := ⟨by decide +kernel, rfl⟩
theorem dX7_save_2 : zD cX7_save 2 (.i2l) 1 3 := ⟨by decide +kernel, rfl⟩
theorem dX7_save_3 : zD cX7_save 3 (.lconst 0) 1 4 := ⟨by decide +kernel, rfl⟩
theorem dX7_save_4 : zD cX7_save 4 (.lconst 1) 1 5 := ⟨by decide +kernel, rfl⟩
theorem dX7_save_5 : zD cX7_save 5 (.invokestatic 97) 3 8 := ⟨by decide +kernel, rfl⟩
theorem dX7_save_8 : zD cX7_save 8 (.ifCond .eq 7) 3 11 := ⟨by decide +kernel, rfl⟩
theorem dX7_save_11 : zD cX7_save 11 (.iconst 0) 1 12 := ⟨by decide +kernel, rfl⟩
theorem dX7_save_12 : zD cX7_save 12 (.goto 4) 3 15 := ⟨by decide +kernel, rfl⟩
theorem dX7_save_15 : zD cX7_save 15 (.iconst 1) 1 16 := ⟨by decide +kernel, rfl⟩
theorem dX7_save_16 : zD cX7_save 16 (.invokevirtual 112) 3 19 := ⟨by decide +kernel, rfl⟩
theorem dX7_save_19 : zD cX7_save 19 (.ifCond .eq 5) 3 22 := ⟨by decide +kernel, rfl⟩
theorem dX7_save_22 : zD cX7_save 22 (.iconst 0) 1 23 := ⟨by decide +kernel, rfl⟩
theorem dX7_save_23 : zD cX7_save 23 (.ireturn) 1 24 := ⟨by decide +kernel, rfl⟩
theorem dX7_save_24 : zD cX7_save 24 (.aload_n 0) 1 25 := ⟨by decide +kernel, rfl⟩
theorem dX7_save_25 : zD cX7_save 25 (.getfield 71) 3 28 := ⟨by decide +kernel, rfl⟩
theorem dX7_save_28 : zD cX7_save 28 (.iload_n 1) 1 29 := ⟨by decide +kernel, rfl⟩
theorem dX7_save_29 : zD cX7_save 29 (.iconst 1) 1 30 := ⟨by decide +kernel, rfl⟩
theorem dX7_save_30 : zD cX7_save 30 (.bastore) 1 31 := ⟨by decide +kernel, rfl⟩
theorem dX7_save_31 : zD cX7_save 31 (.aload_n 0) 1 32 := ⟨by decide +kernel, rfl⟩
theorem dX7_save_32 : zD cX7_save 32 (.getfield 56) 3 35 := ⟨by decide +kernel, rfl⟩
theorem dX7_save_35 : zD cX7_save 35 (.iconst 0) 1 36 := ⟨by decide +kernel, rfl⟩
theorem dX7_save_36 : zD cX7_save 36 (.aload_n 0) 1 37 := ⟨by decide +kernel, rfl⟩
theorem dX7_save_37 : zD cX7_save 37 (.getfield 68) 3 40 := ⟨by decide +kernel, rfl⟩
theorem dX7_save_40 : zD cX7_save 40 (.sipush 360) 3 43 := ⟨by decide +kernel, rfl⟩
theorem dX7_save_43 : zD cX7_save 43 (.iload_n 1) 1 44 := ⟨by decide +kernel, rfl⟩
theorem dX7_save_44 : zD cX7_save 44 (.imul) 1 45 := ⟨by decide +kernel, rfl⟩
theorem dX7_save_45 : zD cX7_save 45 (.sipush 360) 3 48 := ⟨by decide +kernel, rfl⟩
theorem dX7_save_48 : zD cX7_save 48 (.invokestatic 90) 3 51 := ⟨by decide +kernel, rfl⟩
theorem dX7_save_51 : zD cX7_save 51 (.aload_n 0) 1 52 := ⟨by decide +kernel, rfl⟩
theorem dX7_save_52 : zD cX7_save 52 (.getfield 56) 3 55 := ⟨by decide +kernel, rfl⟩
theorem dX7_save_55 : zD cX7_save 55 (.iconst 0) 1 56 := ⟨by decide +kernel, rfl⟩
theorem dX7_save_56 : zD cX7_save 56 (.iaload) 1 57 := ⟨by decide +kernel, rfl⟩
theorem dX7_save_57 : zD cX7_save 57 (.ireturn) 1 58 := ⟨by decide +kernel, rfl⟩
theorem dX7_restore_0 : zD cX7_restore 0 (.aload_n 0) 1 1 := ⟨by decide +kernel, rfl⟩
theorem dX7_restore_1 : zD cX7_restore 1 (.iload_n 1) 1 2 := ⟨by decide +kernel, rfl⟩
theorem dX7_restore_2 : zD cX7_restore 2 (.i2l) 1 3 := ⟨by decide +kernel, rfl⟩
theorem dX7_restore_3 : zD cX7_restore 3 (.lconst 0) 1 4 := ⟨by decide +kernel, rfl⟩
theorem dX7_restore_4 : zD cX7_restore 4 (.lconst 1) 1 5 := ⟨by decide +kernel, rfl⟩
theorem dX7_restore_5 : zD cX7_restore 5 (.invokestatic 97) 3 8 := ⟨by decide +kernel, rfl⟩
theorem dX7_restore_8 : zD cX7_restore 8 (.ifCond .ne 7) 3 11 := ⟨by decide +kernel, rfl⟩
theorem dX7_restore_11 : zD cX7_restore 11 (.iconst 1) 1 12 := ⟨by decide +kernel, rfl⟩
theorem dX7_restore_12 : zD cX7_restore 12 (.goto 17) 3 15 := ⟨by decide +kernel, rfl⟩
theorem dX7_restore_15 : zD cX7_restore 15 (.aload_n 0) 1 16 := ⟨by decide +kernel, rfl⟩
theorem dX7_restore_16 : zD cX7_restore 16 (.getfield 71) 3 19 := ⟨by decide +kernel, rfl⟩
theorem dX7_restore_19 : zD cX7_restore 19 (.iload_n 1) 1 20 := ⟨by decide +kernel, rfl⟩
theorem dX7_restore_20 : zD cX7_restore 20 (.baload) 1 21 := ⟨by decide +kernel, rfl⟩
theorem dX7_restore_21 : zD cX7_restore 21 (.ifCond .ne 7) 3 24 := ⟨by decide +kernel, rfl⟩
theorem dX7_restore_24 : zD cX7_restore 24 (.iconst 2) 1 25 := ⟨by decide +kernel, rfl⟩
theorem dX7_restore_25 : zD cX7_restore 25 (.goto 4) 3 28 := ⟨by decide +kernel, rfl⟩
theorem dX7_restore_28 : zD cX7_restore 28 (.iconst 0) 1 29 := ⟨by decide +kernel, rfl⟩
theorem dX7_restore_29 : zD cX7_restore 29 (.invokevirtual 112) 3 32 := ⟨by decide +kernel, rfl⟩
theorem dX7_restore_32 : zD cX7_restore 32 (.ifCond .eq 5) 3 35 := ⟨by decide +kernel, rfl⟩
theorem dX7_restore_35 : zD cX7_restore 35 (.iconst 0) 1 36 := ⟨by decide +kernel, rfl⟩
theorem dX7_restore_36 : zD cX7_restore 36 (.ireturn) 1 37 := ⟨by decide +kernel, rfl⟩
theorem dX7_restore_37 : zD cX7_restore 37 (.aload_n 0) 1 38 := ⟨by decide +kernel, rfl⟩
theorem dX7_restore_38 : zD cX7_restore 38 (.getfield 68) 3 41 := ⟨by decide +kernel, rfl⟩
theorem dX7_restore_41 : zD cX7_restore 41 (.sipush 360) 3 44 := ⟨by decide +kernel, rfl⟩
theorem dX7_restore_44 : zD cX7_restore 44 (.iload_n 1) 1 45 := ⟨by decide +kernel, rfl⟩
theorem dX7_restore_45 : zD cX7_restore 45 (.imul) 1 46 := ⟨by decide +kernel, rfl⟩
theorem dX7_restore_46 : zD cX7_restore 46 (.aload_n 0) 1 47 := ⟨by decide +kernel, rfl⟩
theorem dX7_restore_47 : zD cX7_restore 47 (.getfield 56) 3 50 := ⟨by decide +kernel, rfl⟩
theorem dX7_restore_50 : zD cX7_restore 50 (.iconst 0) 1 51 := ⟨by decide +kernel, rfl⟩
theorem dX7_restore_51 : zD cX7_restore 51 (.sipush 360) 3 54 := ⟨by decide +kernel, rfl⟩
theorem dX7_restore_54 : zD cX7_restore 54 (.invokestatic 90) 3 57 := ⟨by decide +kernel, rfl⟩
theorem dX7_restore_57 : zD cX7_restore 57 (.aload_n 0) 1 58 := ⟨by decide +kernel, rfl⟩
theorem dX7_restore_58 : zD cX7_restore 58 (.iconst 0) 1 59 := ⟨by decide +kernel, rfl⟩
theorem dX7_restore_59 : zD cX7_restore 59 (.putfield 87) 3 62 := ⟨by decide +kernel, rfl⟩
theorem dX7_restore_62 : zD cX7_restore 62 (.aload_n 0) 1 63 := ⟨by decide +kernel, rfl⟩
theorem dX7_restore_63 : zD cX7_restore 63 (.getfield 56) 3 66 := ⟨by decide +kernel, rfl⟩
theorem dX7_restore_66 : zD cX7_restore 66 (.iconst 0) 1 67 := ⟨by decide +kernel, rfl⟩
theorem dX7_restore_67 : zD cX7_restore 67 (.iaload) 1 68 := ⟨by decide +kernel, rfl⟩
theorem dX7_restore_68 : zD cX7_restore 68 (.ireturn) 1 69 := ⟨by decide +kernel, rfl⟩
def fX7_million_L4 (k : zH → Int64 → Int32 → Option (Int64 × zH)) (u0 : Int32) : Nat → zH → Int64 → Int32 → Option (Int64 × zH)
  | 0, _, _, _ => none
  | n + 1, h, v1, v3 => if (u0 : Int32) ≤ v3 then
    k h (v1) (v3)
    else
    fX7_million_L4 k u0 n h (((v1 : Int64) * 1000000)) ((v3 + 1))
def fX7_million (h : zH) (a0 : Int32) : Option (Int64 × zH) :=
    fX7_million_L4 (fun h1 y2 y3 =>
    some (y2, h1)) (a0) zF h (1) (0)
def fX7_runScript_L47 (k : zH → Int32 → Option (Int32 × zH)) (u0 : Nat) (u1 : Int32) (u2 : Int64) : Nat → zH → Int32 → Option (Int32 × zH)
  | 0, _, _ => none
  | n + 1, h, v4 => if (u1 : Int32) ≤ v4 then
    k h (v4)
    else
    zb2 (fX7_million h (((((u1 : Int32) - 1) : Int32) - v4))) fun w2 h3 =>
    if (w2 : Int64) = 0 then none else
    zb2 (fX7_command h3 (u0) ((((((u2 : Int64) / w2) : Int64) - ((u2 : Int64) / w2) / 1000000 * 1000000) : Int64).toInt32)) fun w4 h5 =>
    if (w4 : Int32) = 0 then
    some (v4, h5)
    else
    fX7_runScript_L47 k u0 u1 u2 n h5 ((v4 + 1))
def fX7_runScript (h : zH) (a0 : Nat) (a1 : Int32) (a2 : Int64) : Option (Int32 × zH) :=
    if zkd h a0 = 8 then
    zb2 (fX7_in h ((a1 : Int32).toInt64) (1) (3)) fun w1 h2 =>
    if (w1 : Int32) = 0 then
    zb2 (fX7_refused h2 (a0) (1)) fun w4 h5 =>
    if (w4 : Int32) = 0 then
    (fX7_tryNow h5 (a0)).bind fun h7 =>
    fX7_runScript_L47 (fun h8 y9 =>
    some ((-9), h8)) (a0) (a1) (a2) zF h7 (0)
    else
    some (0, h5)
    else
    zb2 (fX7_million h2 (a1)) fun w10 h11 =>
    zb2 (fX7_in h11 (a2) (0) (((w10 : Int64) - 1))) fun w12 h13 =>
    if (w12 : Int32) = 0 then
    zb2 (fX7_refused h13 (a0) (1)) fun w15 h16 =>
    if (w15 : Int32) = 0 then
    (fX7_tryNow h16 (a0)).bind fun h18 =>
    fX7_runScript_L47 (fun h19 y20 =>
    some ((-9), h19)) (a0) (a1) (a2) zF h18 (0)
    else
    some (0, h16)
    else
    zb2 (fX7_refused h13 (a0) (0)) fun w21 h22 =>
    if (w21 : Int32) = 0 then
    (fX7_tryNow h22 (a0)).bind fun h24 =>
    fX7_runScript_L47 (fun h25 y26 =>
    some ((-9), h25)) (a0) (a1) (a2) zF h24 (0)
    else
    some (0, h22)
    else none
theorem kfX7_runScript {h : zH} {a0 : Nat} {a1 : Int32} {a2 : Int64} {r : Int32 × zH} (hf : fX7_runScript h a0 a1 a2 = some r) : zkd h a0 = 8 := by
  unfold fX7_runScript at hf
  exact (zck hf).1
def fX7_simulate_L36 (k : zH → Int64 → Int32 → Option (Int32 × zH)) (u0 : Nat) (u1 : Int64) (u3 : Int32) : Nat → zH → Int64 → Int32 → Option (Int32 × zH)
  | 0, _, _, _ => none
  | n + 1, h, v4, v6 => if (u3 : Int32) ≤ v6 then
    k h (v4) (v6)
    else
    if (((((((((((v4 : Int64) * 6364136223846793005) : Int64) + 1442695040888963407) : Int64).toUInt64 >>> ((33 : Int32).toInt64.toUInt64 &&& Int64.toUInt64 63)).toInt64) : Int64).toInt32 : Int32) - ((((((((v4 : Int64) * 6364136223846793005) : Int64) + 1442695040888963407) : Int64).toUInt64 >>> ((33 : Int32).toInt64.toUInt64 &&& Int64.toUInt64 63)).toInt64) : Int64).toInt32 / 3 * 3) : Int32) = 0 then
    (zgI h 7 u0 4).bind fun w3 =>
    if (w3 : Int32) = 0 then none else
    zb2 (fX7_tries h (u0) (1) (((((((((((((v4 : Int64) * 6364136223846793005) : Int64) + 1442695040888963407) : Int64).toUInt64 >>> ((33 : Int32).toInt64.toUInt64 &&& Int64.toUInt64 63)).toInt64) : Int64).toInt32 : Int32) / 4) : Int32) - ((((((((((v4 : Int64) * 6364136223846793005) : Int64) + 1442695040888963407) : Int64).toUInt64 >>> ((33 : Int32).toInt64.toUInt64 &&& Int64.toUInt64 63)).toInt64) : Int64).toInt32 : Int32) / 4) / w3 * w3)) (((1 : Int32) + ((((((((((((v4 : Int64) * 6364136223846793005) : Int64) + 1442695040888963407) : Int64).toUInt64 >>> ((33 : Int32).toInt64.toUInt64 &&& Int64.toUInt64 63)).toInt64) : Int64).toInt32 : Int32) / 64) : Int32) - ((((((((((v4 : Int64) * 6364136223846793005) : Int64) + 1442695040888963407) : Int64).toUInt64 >>> ((33 : Int32).toInt64.toUInt64 &&& Int64.toUInt64 63)).toInt64) : Int64).toInt32 : Int32) / 64) / 500 * 500)))) fun w4 h5 =>
    fX7_simulate_L36 k u0 u1 u3 n h5 (((((v4 : Int64) * 6364136223846793005) : Int64) + 1442695040888963407)) ((v6 + 1))
    else
    (zgP h 7 u0 25).bind fun w7 =>
    (zaI h w7 (0)).bind fun w8 =>
    if (w8 : Int32) = 0 then
    (zgI h 7 u0 4).bind fun w10 =>
    if (w10 : Int32) = 0 then none else
    zb2 (fX7_tries h (u0) (1) (((((((((((((v4 : Int64) * 6364136223846793005) : Int64) + 1442695040888963407) : Int64).toUInt64 >>> ((33 : Int32).toInt64.toUInt64 &&& Int64.toUInt64 63)).toInt64) : Int64).toInt32 : Int32) / 4) : Int32) - ((((((((((v4 : Int64) * 6364136223846793005) : Int64) + 1442695040888963407) : Int64).toUInt64 >>> ((33 : Int32).toInt64.toUInt64 &&& Int64.toUInt64 63)).toInt64) : Int64).toInt32 : Int32) / 4) / w10 * w10)) (((1 : Int32) + ((((((((((((v4 : Int64) * 6364136223846793005) : Int64) + 1442695040888963407) : Int64).toUInt64 >>> ((33 : Int32).toInt64.toUInt64 &&& Int64.toUInt64 63)).toInt64) : Int64).toInt32 : Int32) / 64) : Int32) - ((((((((((v4 : Int64) * 6364136223846793005) : Int64) + 1442695040888963407) : Int64).toUInt64 >>> ((33 : Int32).toInt64.toUInt64 &&& Int64.toUInt64 63)).toInt64) : Int64).toInt32 : Int32) / 64) / 500 * 500)))) fun w11 h12 =>
    fX7_simulate_L36 k u0 u1 u3 n h12 (((((v4 : Int64) * 6364136223846793005) : Int64) + 1442695040888963407)) ((v6 + 1))
    else
    (zgI h 7 u0 6).bind fun w14 =>
    if (w14 : Int32) = 0 then
    (zgI h 7 u0 4).bind fun w16 =>
    if (w16 : Int32) = 0 then none else
    zb2 (fX7_tries h (u0) (1) (((((((((((((v4 : Int64) * 6364136223846793005) : Int64) + 1442695040888963407) : Int64).toUInt64 >>> ((33 : Int32).toInt64.toUInt64 &&& Int64.toUInt64 63)).toInt64) : Int64).toInt32 : Int32) / 4) : Int32) - ((((((((((v4 : Int64) * 6364136223846793005) : Int64) + 1442695040888963407) : Int64).toUInt64 >>> ((33 : Int32).toInt64.toUInt64 &&& Int64.toUInt64 63)).toInt64) : Int64).toInt32 : Int32) / 4) / w16 * w16)) (((1 : Int32) + ((((((((((((v4 : Int64) * 6364136223846793005) : Int64) + 1442695040888963407) : Int64).toUInt64 >>> ((33 : Int32).toInt64.toUInt64 &&& Int64.toUInt64 63)).toInt64) : Int64).toInt32 : Int32) / 64) : Int32) - ((((((((((v4 : Int64) * 6364136223846793005) : Int64) + 1442695040888963407) : Int64).toUInt64 >>> ((33 : Int32).toInt64.toUInt64 &&& Int64.toUInt64 63)).toInt64) : Int64).toInt32 : Int32) / 64) / 500 * 500)))) fun w17 h18 =>
    fX7_simulate_L36 k u0 u1 u3 n h18 (((((v4 : Int64) * 6364136223846793005) : Int64) + 1442695040888963407)) ((v6 + 1))
    else
    (zgP h 7 u0 25).bind fun w20 =>
    (zaI h w20 (0)).bind fun w21 =>
    if (w21 : Int32) = 0 then none else
    (zgI h 7 u0 6).bind fun w22 =>
    if (w22 : Int32) = 0 then none else
    zb2 (fX7_tries h (u0) (3) (((((((((((((v4 : Int64) * 6364136223846793005) : Int64) + 1442695040888963407) : Int64).toUInt64 >>> ((33 : Int32).toInt64.toUInt64 &&& Int64.toUInt64 63)).toInt64) : Int64).toInt32 : Int32) / 4) : Int32) - ((((((((((v4 : Int64) * 6364136223846793005) : Int64) + 1442695040888963407) : Int64).toUInt64 >>> ((33 : Int32).toInt64.toUInt64 &&& Int64.toUInt64 63)).toInt64) : Int64).toInt32 : Int32) / 4) / w21 * w21)) (((((((((((((v4 : Int64) * 6364136223846793005) : Int64) + 1442695040888963407) : Int64).toUInt64 >>> ((33 : Int32).toInt64.toUInt64 &&& Int64.toUInt64 63)).toInt64) : Int64).toInt32 : Int32) / 64) : Int32) - ((((((((((v4 : Int64) * 6364136223846793005) : Int64) + 1442695040888963407) : Int64).toUInt64 >>> ((33 : Int32).toInt64.toUInt64 &&& Int64.toUInt64 63)).toInt64) : Int64).toInt32 : Int32) / 64) / w22 * w22))) fun w23 h24 =>
    fX7_simulate_L36 k u0 u1 u3 n h24 (((((v4 : Int64) * 6364136223846793005) : Int64) + 1442695040888963407)) ((v6 + 1))
def fX7_simulate (h : zH) (a0 : Nat) (a1 : Int64) (a3 : Int32) : Option (Int32 × zH) :=
    if zkd h a0 = 8 then
    zb2 (fX7_in h ((a3 : Int32).toInt64) (1) (50)) fun w1 h2 =>
    if (w1 : Int32) = 0 then
    zb2 (fX7_refused h2 (a0) (1)) fun w4 h5 =>
    if (w4 : Int32) = 0 then
    (fX7_tryNow h5 (a0)).bind fun h7 =>
    fX7_simulate_L36 (fun h8 y9 y10 =>
    (zgP h8 7 a0 25).bind fun w11 =>
    (zaI h8 w11 (2)).bind fun w12 =>
    (zgP h8 7 a0 25).bind fun w13 =>
    zb2 (fX7_used h8 (w13)) fun w14 h15 =>
    some (((w12 : Int32) + w14), h15)) (a0) (a1) (a3) zF h7 (a1) (0)
    else
    some (0, h5)
    else
    zb2 (fX7_refused h2 (a0) (0)) fun w16 h17 =>
    if (w16 : Int32) = 0 then
    (fX7_tryNow h17 (a0)).bind fun h19 =>
    fX7_simulate_L36 (fun h20 y21 y22 =>
    (zgP h20 7 a0 25).bind fun w23 =>
    (zaI h20 w23 (2)).bind fun w24 =>
    (zgP h20 7 a0 25).bind fun w25 =>
    zb2 (fX7_used h20 (w25)) fun w26 h27 =>
    some (((w24 : Int32) + w26), h27)) (a0) (a1) (a3) zF h19 (a1) (0)
    else
    some (0, h17)
    else none
theorem kfX7_simulate {h : zH} {a0 : Nat} {a1 : Int64} {a3 : Int32} {r : Int32 × zH} (hf : fX7_simulate h a0 a1 a3 = some r) : zkd h a0 = 8 := by
  unfold fX7_simulate at hf
  exact (zck hf).1
def fX7_save (h : zH) (a0 : Nat) (a1 : Int32) : Option (Int32 × zH) :=
    if zkd h a0 = 8 then
    zb2 (fX7_in h ((a1 : Int32).toInt64) (0) (1)) fun w1 h2 =>
    if (w1 : Int32) = 0 then
    zb2 (fX7_refused h2 (a0) (1)) fun w4 h5 =>
    if (w4 : Int32) = 0 then
    (zgP h5 7 a0 30).bind fun w7 =>
    (zbZ h5 w7 (a1) (1)).bind fun h8 =>
    (zgP h8 7 a0 24).bind fun w9 =>
    (zgP h8 7 a0 29).bind fun w10 =>
    (fX7_copyRow h8 (w9) (0) (w10) (((360 : Int32) * a1)) (360)).bind fun h11 =>
    (zgP h11 7 a0 24).bind fun w12 =>
    (zaI h11 w12 (0)).bind fun w13 =>
    some (w13, h11)
    else
    some (0, h5)
    else
    zb2 (fX7_refused h2 (a0) (0)) fun w14 h15 =>
    if (w14 : Int32) = 0 then
    (zgP h15 7 a0 30).bind fun w17 =>
    (zbZ h15 w17 (a1) (1)).bind fun h18 =>
    (zgP h18 7 a0 24).bind fun w19 =>
    (zgP h18 7 a0 29).bind fun w20 =>
    (fX7_copyRow h18 (w19) (0) (w20) (((360 : Int32) * a1)) (360)).bind fun h21 =>
    (zgP h21 7 a0 24).bind fun w22 =>
    (zaI h21 w22 (0)).bind fun w23 =>
    some (w23, h21)
    else
    some (0, h15)
    else none
theorem kfX7_save {h : zH} {a0 : Nat} {a1 : Int32} {r : Int32 × zH} (hf : fX7_save h a0 a1 = some r) : zkd h a0 = 8 := by
  unfold fX7_save at hf
  exact (zck hf).1
def fX7_restore (h : zH) (a0 : Nat) (a1 : Int32) : Option (Int32 × zH) :=
    if zkd h a0 = 8 then
    zb2 (fX7_in h ((a1 : Int32).toInt64) (0) (1)) fun w1 h2 =>
    if (w1 : Int32) = 0 then
    zb2 (fX7_refused h2 (a0) (1)) fun w4 h5 =>
    if (w4 : Int32) = 0 then
    (zgP h5 7 a0 29).bind fun w7 =>
    (zgP h5 7 a0 24).bind fun w8 =>
    (fX7_copyRow h5 (w7) (((360 : Int32) * a1)) (w8) (0) (360)).bind fun h9 =>
    (zpI h9 7 a0 28 0).bind fun h10 =>
    (zgP h10 7 a0 24).bind fun w11 =>
    (zaI h10 w11 (0)).bind fun w12 =>
    some (w12, h10)
    else
    some (0, h5)
    else
    (zgP h2 7 a0 30).bind fun w13 =>
    (zaZ h2 w13 (a1)).bind fun w14 =>
    if (w14 : Int32) = 0 then
    zb2 (fX7_refused h2 (a0) (2)) fun w16 h17 =>
    if (w16 : Int32) = 0 then
    (zgP h17 7 a0 29).bind fun w19 =>
    (zgP h17 7 a0 24).bind fun w20 =>
    (fX7_copyRow h17 (w19) (((360 : Int32) * a1)) (w20) (0) (360)).bind fun h21 =>
    (zpI h21 7 a0 28 0).bind fun h22 =>
    (zgP h22 7 a0 24).bind fun w23 =>
    (zaI h22 w23 (0)).bind fun w24 =>
    some (w24, h22)
    else
    some (0, h17)
    else
    zb2 (fX7_refused h2 (a0) (0)) fun w25 h26 =>
    if (w25 : Int32) = 0 then
    (zgP h26 7 a0 29).bind fun w28 =>
    (zgP h26 7 a0 24).bind fun w29 =>
    (fX7_copyRow h26 (w28) (((360 : Int32) * a1)) (w29) (0) (360)).bind fun h30 =>
    (zpI h30 7 a0 28 0).bind fun h31 =>
    (zgP h31 7 a0 24).bind fun w32 =>
    (zaI h31 w32 (0)).bind fun w33 =>
    some (w33, h31)
    else
    some (0, h26)
    else none
theorem kfX7_restore {h : zH} {a0 : Nat} {a1 : Int32} {r : Int32 × zH} (hf : fX7_restore h a0 a1 = some r) : zkd h a0 = 8 := by
  unfold fX7_restore at hf
  exact (zck hf).1
abbrev rm_X7_million : Room := { frames := 0, cells := 0, slots := 0, locals := 0 }
set_option maxRecDepth 100000 in
set_option maxHeartbeats 4000000 in
theorem fX7_million_L4_ok {G : zG} {x : zX} (B : zB G x cX7_million 4 RX7 "million" rm_X7_million (some .long)) (hst : (zl x).stackTraces = false) (hE : ∀ e ∈ (zc x).exceptionTable.toList, False) {r : Int64 × zH} {k : zH → Int64 → Int32 → Option (Int64 × zH)} {u0 : Int32} (hk : ∀ h v1 v3, k h v1 v3 = some r → zV G x 4 (zQ G x (zol r) 0 0) h 0 0 21 [(0, .int u0), (1, .long v1), (3, .int v3)] []) : ∀ n h v1 v3, fX7_million_L4 k u0 n h v1 v3 = some r → zV G x 4 (zQ G x (zol r) 0 0) h 0 0 4 [(0, .int u0), (1, .long v1), (3, .int v3)] [] := by
  intro n
  induction n with
  | zero =>
    intro h v1 v3 hf
    have hf : (none : Option (Int64 × zH)) = some r := hf
    cases hf
  | succ n ih =>
    intro h v1 v3 hf
    rw [fX7_million_L4] at hf
    refine z_iload_n B dX7_million_4 rfl 2 rfl ?_
    refine z_iload_n B dX7_million_5 rfl 0 rfl ?_
    rcases zite hf with ⟨c1, hf⟩ | ⟨c1, hf⟩
    · refine z_icmp_ge B 21 dX7_million_6 (by decide) (fun _ => ?_) (fun e => absurd c1 e)
      exact hk _ _ _ hf
    refine z_icmp_ge B 21 dX7_million_6 (by decide) (fun e => absurd e c1) (fun _ => ?_)
    refine z_lload_n B dX7_million_9 rfl 1 rfl ?_
    refine z_ldc2 B dX7_million_10 kl_RX7_310 ?_
    refine z_lmul B dX7_million_13 ?_
    refine z_lstore_n (lv' := [(1, .long ((v1 : Int64) * 1000000)), (0, .int u0), (3, .int v3)]) B dX7_million_14 rfl (by decide) rfl ?_
    refine z_iinc (v' := (v3 + 1)) (lv' := [(3, .int (v3 + 1)), (1, .long ((v1 : Int64) * 1000000)), (0, .int u0)]) B dX7_million_15 2 rfl rfl (by decide) rfl ?_
    refine z_goto B 4 dX7_million_18 (by decide) ?_
    refine zV.sub [2, 1, 0] rfl ?_
    exact ih _ _ _ hf
set_option maxRecDepth 100000 in
set_option maxHeartbeats 4000000 in
theorem tX7_million {l : Launch} {G : zG} (hst : l.stackTraces = false) {h : zH} {a0 : Int32} {r : Int64 × zH} (hf : fX7_million h a0 = some r) : zMet l G yX7_million (.code yX7_million cX7_million 4 (some .long)) rm_X7_million 0 0 [.int a0] h (zol r) := by
  unfold fX7_million at hf
  refine z_enter (by decide) (Nat.le_of_ble_eq_true rfl) hst (fun x hx B hE => ?_)
  subst hx
  have B : zB G x cX7_million 4 RX7 "million" rm_X7_million (some .long) := B
  show zV G x 4 (zQ G x (zol r) 0 0) h 0 0 0 [(0, .int a0)] []
  refine z_lconst (v := 1) B dX7_million_0 (by decide) ?_
  refine z_lstore_n (lv' := [(1, .long 1), (0, .int a0)]) B dX7_million_1 rfl (by decide) rfl ?_
  refine z_iconst (v := 0) B dX7_million_2 (by decide) ?_
  refine z_istore_n (lv' := [(3, .int 0), (1, .long 1), (0, .int a0)]) B dX7_million_3 rfl (by decide) rfl ?_
  refine zV.sub [2, 1, 0] rfl ?_
  refine fX7_million_L4_ok B hst hE (fun h1 y2 y3 hf => ?_) _ _ _ _ hf
  refine z_lload_n B dX7_million_21 rfl 1 rfl ?_
  cases hf
  exact z_lret B dX7_million_22 (Nat.le_of_ble_eq_true rfl) (Nat.le_of_ble_eq_true rfl)
abbrev rm_X7_runScript : Room := { frames := 8, cells := 0, slots := 0, locals := 188 }
set_option maxRecDepth 100000 in
set_option maxHeartbeats 4000000 in
theorem fX7_runScript_L47_ok {G : zG} {x : zX} (B : zB G x cX7_runScript 5 RX7 "runScript" rm_X7_runScript (some .int)) (hst : (zl x).stackTraces = false) (hE : ∀ e ∈ (zc x).exceptionTable.toList, False) {r : Int32 × zH} {k : zH → Int32 → Option (Int32 × zH)} {u0 : Nat} {u1 : Int32} {u2 : Int64} (hk : ∀ h v4, k h v4 = some r → zV G x 5 (zQ G x (zoi r) 0 0) h 0 0 85 [(0, .ref u0), (1, .int u1), (2, .long u2), (4, .int v4)] []) : ∀ n h v4, fX7_runScript_L47 k u0 u1 u2 n h v4 = some r → zV G x 5 (zQ G x (zoi r) 0 0) h 0 0 47 [(0, .ref u0), (1, .int u1), (2, .long u2), (4, .int v4)] [] := by
  intro n
  induction n with
  | zero =>
    intro h v4 hf
    have hf : (none : Option (Int32 × zH)) = some r := hf
    cases hf
  | succ n ih =>
    intro h v4 hf
    rw [fX7_runScript_L47] at hf
    refine z_iload B dX7_runScript_47 3 rfl ?_
    refine z_iload_n B dX7_runScript_49 rfl 1 rfl ?_
    rcases zite hf with ⟨c1, hf⟩ | ⟨c1, hf⟩
    · refine z_icmp_ge B 85 dX7_runScript_50 (by decide) (fun _ => ?_) (fun e => absurd c1 e)
      exact hk _ _ hf
    refine z_icmp_ge B 85 dX7_runScript_50 (by decide) (fun e => absurd e c1) (fun _ => ?_)
    refine z_aload_n B dX7_runScript_53 rfl 0 rfl ?_
    refine z_lload_n B dX7_runScript_54 rfl 2 rfl ?_
    refine z_iload_n B dX7_runScript_55 rfl 1 rfl ?_
    refine z_iconst (v := 1) B dX7_runScript_56 (by decide) ?_
    refine z_isub B dX7_runScript_57 ?_
    refine z_iload B dX7_runScript_58 3 rfl ?_
    refine z_isub B dX7_runScript_60 ?_
    obtain ⟨w2, h3, ew2, hf⟩ := zb2s hf
    refine z_callSl B [.int ((((u1 : Int32) - 1) : Int32) - v4)] [.long u2, .ref u0] cw_X7_million mt_RX7_314 (tX7_million hst ew2) ⟨rfl, rfl, (Nat.le_of_ble_eq_true rfl), (Nat.le_of_ble_eq_true rfl), (Nat.le_of_ble_eq_true rfl), (Nat.le_of_ble_eq_true rfl)⟩ rfl rfl (Nat.le_of_ble_eq_true rfl) dX7_runScript_61 ?_
    rcases zite hf with ⟨c7, hf⟩ | ⟨c7, hf⟩
    · cases hf
    refine z_ldiv B dX7_runScript_64 c7 ?_
    refine z_ldc2 B dX7_runScript_65 kl_RX7_310 ?_
    refine z_lrem B dX7_runScript_68 (by decide) ?_
    refine z_l2i B dX7_runScript_69 ?_
    obtain ⟨w4, h5, ew4, hf⟩ := zb2s hf
    refine z_callVi B [.int (((((u2 : Int64) / w2) : Int64) - ((u2 : Int64) / w2) / 1000000 * 1000000) : Int64).toInt32] [] cw_X7_command mv_RX7_318 (tX7_command hst ew4) rfl (by decide) (kfX7_command ew4) ⟨rfl, rfl, (Nat.le_of_ble_eq_true rfl), (Nat.le_of_ble_eq_true rfl), (Nat.le_of_ble_eq_true rfl), (Nat.le_of_ble_eq_true rfl)⟩ rfl rfl (Nat.le_of_ble_eq_true rfl) dX7_runScript_70 ?_
    rcases zite hf with ⟨c6, hf⟩ | ⟨c6, hf⟩
    · refine z_if_ne B 79 dX7_runScript_73 (by decide) (fun e => absurd c6 e) (fun _ => ?_)
      refine z_iload B dX7_runScript_76 3 rfl ?_
      cases hf
      exact z_iret B dX7_runScript_78 (Nat.le_of_ble_eq_true rfl) (Nat.le_of_ble_eq_true rfl)
    refine z_if_ne B 79 dX7_runScript_73 (by decide) (fun _ => ?_) (fun e => absurd e c6)
    refine z_iinc (v' := (v4 + 1)) (lv' := [(4, .int (v4 + 1)), (0, .ref u0), (1, .int u1), (2, .long u2)]) B dX7_runScript_79 3 rfl rfl (by decide) rfl ?_
    refine z_goto B 47 dX7_runScript_82 (by decide) ?_
    refine zV.sub [1, 2, 3, 0] rfl ?_
    exact ih _ _ hf
set_option maxRecDepth 100000 in
set_option maxHeartbeats 4000000 in
theorem tX7_runScript {l : Launch} {G : zG} (hst : l.stackTraces = false) {h : zH} {a0 : Nat} {a1 : Int32} {a2 : Int64} {r : Int32 × zH} (hf : fX7_runScript h a0 a1 a2 = some r) : zMet l G yX7_runScript (.code yX7_runScript cX7_runScript 5 (some .int)) rm_X7_runScript 0 0 [.ref a0, .int a1, .long a2] h (zoi r) := by
  unfold fX7_runScript at hf
  obtain ⟨-, hf⟩ := zck hf
  refine z_enter (by decide) (Nat.le_of_ble_eq_true rfl) hst (fun x hx B hE => ?_)
  subst hx
  have B : zB G x cX7_runScript 5 RX7 "runScript" rm_X7_runScript (some .int) := B
  show zV G x 5 (zQ G x (zoi r) 0 0) h 0 0 0 [(0, .ref a0), (1, .int a1), (2, .long a2)] []
  refine z_aload_n B dX7_runScript_0 rfl 0 rfl ?_
  refine z_iload_n B dX7_runScript_1 rfl 1 rfl ?_
  refine z_i2l B dX7_runScript_2 ?_
  refine z_lconst (v := 1) B dX7_runScript_3 (by decide) ?_
  refine z_ldc2 B dX7_runScript_4 kl_RX7_312 ?_
  obtain ⟨w1, h2, ew1, hf⟩ := zb2s hf
  refine z_callSi B [.long (a1 : Int32).toInt64, .long 1, .long 3] [.ref a0] cw_X7_in mt_RX7_97 (tX7_in hst ew1) ⟨rfl, rfl, (Nat.le_of_ble_eq_true rfl), (Nat.le_of_ble_eq_true rfl), (Nat.le_of_ble_eq_true rfl), (Nat.le_of_ble_eq_true rfl)⟩ rfl rfl (Nat.le_of_ble_eq_true rfl) dX7_runScript_7 ?_
  rcases zite hf with ⟨c3, hf⟩ | ⟨c3, hf⟩
  · refine z_if_eq B 31 dX7_runScript_10 (by decide) (fun _ => ?_) (fun e => absurd c3 e)
    refine z_iconst (v := 1) B dX7_runScript_31 (by decide) ?_
    obtain ⟨w4, h5, ew4, hf⟩ := zb2s hf
    refine z_callVi B [.int 1] [] cw_X7_refused mv_RX7_112 (tX7_refused hst ew4) rfl (by decide) (kfX7_refused ew4) ⟨rfl, rfl, (Nat.le_of_ble_eq_true rfl), (Nat.le_of_ble_eq_true rfl), (Nat.le_of_ble_eq_true rfl), (Nat.le_of_ble_eq_true rfl)⟩ rfl rfl (Nat.le_of_ble_eq_true rfl) dX7_runScript_32 ?_
    rcases zite hf with ⟨c6, hf⟩ | ⟨c6, hf⟩
    · refine z_if_eq B 40 dX7_runScript_35 (by decide) (fun _ => ?_) (fun e => absurd c6 e)
      refine z_aload_n B dX7_runScript_40 rfl 0 rfl ?_
      obtain ⟨h7, eh7, hf⟩ := zbs hf
      refine z_callVv B [] [] cw_X7_tryNow mv_RX7_247 (tX7_tryNow hst eh7) rfl (by decide) (kfX7_tryNow eh7) ⟨rfl, rfl, (Nat.le_of_ble_eq_true rfl), (Nat.le_of_ble_eq_true rfl), (Nat.le_of_ble_eq_true rfl), (Nat.le_of_ble_eq_true rfl)⟩ rfl rfl (Nat.le_of_ble_eq_true rfl) dX7_runScript_41 ?_
      refine z_iconst (v := 0) B dX7_runScript_44 (by decide) ?_
      refine z_istore (lv' := [(4, .int 0), (0, .ref a0), (1, .int a1), (2, .long a2)]) B dX7_runScript_45 (by decide) rfl ?_
      refine zV.sub [1, 2, 3, 0] rfl ?_
      refine fX7_runScript_L47_ok B hst hE (fun h8 y9 hf => ?_) _ _ _ hf
      refine z_bipush (v := (-9)) B dX7_runScript_85 (by decide) ?_
      cases hf
      exact z_iret B dX7_runScript_87 (Nat.le_of_ble_eq_true rfl) (Nat.le_of_ble_eq_true rfl)
    refine z_if_eq B 40 dX7_runScript_35 (by decide) (fun e => absurd e c6) (fun _ => ?_)
    refine z_iconst (v := 0) B dX7_runScript_38 (by decide) ?_
    cases hf
    exact z_iret B dX7_runScript_39 (Nat.le_of_ble_eq_true rfl) (Nat.le_of_ble_eq_true rfl)
  refine z_if_eq B 31 dX7_runScript_10 (by decide) (fun e => absurd e c3) (fun _ => ?_)
  refine z_lload_n B dX7_runScript_13 rfl 2 rfl ?_
  refine z_lconst (v := 0) B dX7_runScript_14 (by decide) ?_
  refine z_iload_n B dX7_runScript_15 rfl 1 rfl ?_
  obtain ⟨w10, h11, ew10, hf⟩ := zb2s hf
  refine z_callSl B [.int a1] [.long 0, .long a2, .ref a0] cw_X7_million mt_RX7_314 (tX7_million hst ew10) ⟨rfl, rfl, (Nat.le_of_ble_eq_true rfl), (Nat.le_of_ble_eq_true rfl), (Nat.le_of_ble_eq_true rfl), (Nat.le_of_ble_eq_true rfl)⟩ rfl rfl (Nat.le_of_ble_eq_true rfl) dX7_runScript_16 ?_
  refine z_lconst (v := 1) B dX7_runScript_19 (by decide) ?_
  refine z_lsub B dX7_runScript_20 ?_
  obtain ⟨w12, h13, ew12, hf⟩ := zb2s hf
  refine z_callSi B [.long a2, .long 0, .long ((w10 : Int64) - 1)] [.ref a0] cw_X7_in mt_RX7_97 (tX7_in hst ew12) ⟨rfl, rfl, (Nat.le_of_ble_eq_true rfl), (Nat.le_of_ble_eq_true rfl), (Nat.le_of_ble_eq_true rfl), (Nat.le_of_ble_eq_true rfl)⟩ rfl rfl (Nat.le_of_ble_eq_true rfl) dX7_runScript_21 ?_
  rcases zite hf with ⟨c14, hf⟩ | ⟨c14, hf⟩
  · refine z_if_eq B 31 dX7_runScript_24 (by decide) (fun _ => ?_) (fun e => absurd c14 e)
    refine z_iconst (v := 1) B dX7_runScript_31 (by decide) ?_
    obtain ⟨w15, h16, ew15, hf⟩ := zb2s hf
    refine z_callVi B [.int 1] [] cw_X7_refused mv_RX7_112 (tX7_refused hst ew15) rfl (by decide) (kfX7_refused ew15) ⟨rfl, rfl, (Nat.le_of_ble_eq_true rfl), (Nat.le_of_ble_eq_true rfl), (Nat.le_of_ble_eq_true rfl), (Nat.le_of_ble_eq_true rfl)⟩ rfl rfl (Nat.le_of_ble_eq_true rfl) dX7_runScript_32 ?_
    rcases zite hf with ⟨c17, hf⟩ | ⟨c17, hf⟩
    · refine z_if_eq B 40 dX7_runScript_35 (by decide) (fun _ => ?_) (fun e => absurd c17 e)
      refine z_aload_n B dX7_runScript_40 rfl 0 rfl ?_
      obtain ⟨h18, eh18, hf⟩ := zbs hf
      refine z_callVv B [] [] cw_X7_tryNow mv_RX7_247 (tX7_tryNow hst eh18) rfl (by decide) (kfX7_tryNow eh18) ⟨rfl, rfl, (Nat.le_of_ble_eq_true rfl), (Nat.le_of_ble_eq_true rfl), (Nat.le_of_ble_eq_true rfl), (Nat.le_of_ble_eq_true rfl)⟩ rfl rfl (Nat.le_of_ble_eq_true rfl) dX7_runScript_41 ?_
      refine z_iconst (v := 0) B dX7_runScript_44 (by decide) ?_
      refine z_istore (lv' := [(4, .int 0), (0, .ref a0), (1, .int a1), (2, .long a2)]) B dX7_runScript_45 (by decide) rfl ?_
      refine zV.sub [1, 2, 3, 0] rfl ?_
      refine fX7_runScript_L47_ok B hst hE (fun h19 y20 hf => ?_) _ _ _ hf
      refine z_bipush (v := (-9)) B dX7_runScript_85 (by decide) ?_
      cases hf
      exact z_iret B dX7_runScript_87 (Nat.le_of_ble_eq_true rfl) (Nat.le_of_ble_eq_true rfl)
    refine z_if_eq B 40 dX7_runScript_35 (by decide) (fun e => absurd e c17) (fun _ => ?_)
    refine z_iconst (v := 0) B dX7_runScript_38 (by decide) ?_
    cases hf
    exact z_iret B dX7_runScript_39 (Nat.le_of_ble_eq_true rfl) (Nat.le_of_ble_eq_true rfl)
  refine z_if_eq B 31 dX7_runScript_24 (by decide) (fun e => absurd e c14) (fun _ => ?_)
  refine z_iconst (v := 0) B dX7_runScript_27 (by decide) ?_
  refine z_goto B 32 dX7_runScript_28 (by decide) ?_
  obtain ⟨w21, h22, ew21, hf⟩ := zb2s hf
  refine z_callVi B [.int 0] [] cw_X7_refused mv_RX7_112 (tX7_refused hst ew21) rfl (by decide) (kfX7_refused ew21) ⟨rfl, rfl, (Nat.le_of_ble_eq_true rfl), (Nat.le_of_ble_eq_true rfl), (Nat.le_of_ble_eq_true rfl), (Nat.le_of_ble_eq_true rfl)⟩ rfl rfl (Nat.le_of_ble_eq_true rfl) dX7_runScript_32 ?_
  rcases zite hf with ⟨c23, hf⟩ | ⟨c23, hf⟩
  · refine z_if_eq B 40 dX7_runScript_35 (by decide) (fun _ => ?_) (fun e => absurd c23 e)
    refine z_aload_n B dX7_runScript_40 rfl 0 rfl ?_
    obtain ⟨h24, eh24, hf⟩ := zbs hf
    refine z_callVv B [] [] cw_X7_tryNow mv_RX7_247 (tX7_tryNow hst eh24) rfl (by decide) (kfX7_tryNow eh24) ⟨rfl, rfl, (Nat.le_of_ble_eq_true rfl), (Nat.le_of_ble_eq_true rfl), (Nat.le_of_ble_eq_true rfl), (Nat.le_of_ble_eq_true rfl)⟩ rfl rfl (Nat.le_of_ble_eq_true rfl) dX7_runScript_41 ?_
    refine z_iconst (v := 0) B dX7_runScript_44 (by decide) ?_
    refine z_istore (lv' := [(4, .int 0), (0, .ref a0), (1, .int a1), (2, .long a2)]) B dX7_runScript_45 (by decide) rfl ?_
    refine zV.sub [1, 2, 3, 0] rfl ?_
    refine fX7_runScript_L47_ok B hst hE (fun h25 y26 hf => ?_) _ _ _ hf
    refine z_bipush (v := (-9)) B dX7_runScript_85 (by decide) ?_
    cases hf
    exact z_iret B dX7_runScript_87 (Nat.le_of_ble_eq_true rfl) (Nat.le_of_ble_eq_true rfl)
  refine z_if_eq B 40 dX7_runScript_35 (by decide) (fun e => absurd e c23) (fun _ => ?_)
  refine z_iconst (v := 0) B dX7_runScript_38 (by decide) ?_
  cases hf
  exact z_iret B dX7_runScript_39 (Nat.le_of_ble_eq_true rfl) (Nat.le_of_ble_eq_true rfl)
abbrev rm_X7_simulate : Room := { frames := 7, cells := 0, slots := 0, locals := 164 }
set_option maxRecDepth 100000 in
set_option maxHeartbeats 4000000 in
theorem fX7_simulate_L36_ok {G : zG} {x : zX} (B : zB G x cX7_simulate 10 RX7 "simulate" rm_X7_simulate (some .int)) (hst : (zl x).stackTraces = false) (hE : ∀ e ∈ (zc x).exceptionTable.toList, False) {r : Int32 × zH} {k : zH → Int64 → Int32 → Option (Int32 × zH)} {u0 : Nat} {u1 : Int64} {u3 : Int32} (hk : ∀ h v4 v6, k h v4 v6 = some r → zV G x 10 (zQ G x (zoi r) 0 0) h 0 0 159 [(0, .ref u0), (1, .long u1), (3, .int u3), (4, .long v4), (6, .int v6)] []) : ∀ n h v4 v6, fX7_simulate_L36 k u0 u1 u3 n h v4 v6 = some r → zV G x 10 (zQ G x (zoi r) 0 0) h 0 0 36 [(0, .ref u0), (1, .long u1), (3, .int u3), (4, .long v4), (6, .int v6)] [] := by
  intro n
  induction n with
  | zero =>
    intro h v4 v6 hf
    have hf : (none : Option (Int32 × zH)) = some r := hf
    cases hf
  | succ n ih =>
    intro h v4 v6 hf
    rw [fX7_simulate_L36] at hf
    refine z_iload B dX7_simulate_36 4 rfl ?_
    refine z_iload_n B dX7_simulate_38 rfl 2 rfl ?_
    rcases zite hf with ⟨c1, hf⟩ | ⟨c1, hf⟩
    · refine z_icmp_ge B 159 dX7_simulate_39 (by decide) (fun _ => ?_) (fun e => absurd c1 e)
      exact hk _ _ _ hf
    refine z_icmp_ge B 159 dX7_simulate_39 (by decide) (fun e => absurd e c1) (fun _ => ?_)
    refine z_lload B dX7_simulate_42 3 rfl ?_
    refine z_ldc2 B dX7_simulate_44 kl_RX7_323 ?_
    refine z_lmul B dX7_simulate_47 ?_
    refine z_ldc2 B dX7_simulate_48 kl_RX7_325 ?_
    refine z_ladd B dX7_simulate_51 ?_
    refine z_lstore (lv' := [(4, .long ((((v4 : Int64) * 6364136223846793005) : Int64) + 1442695040888963407)), (0, .ref u0), (1, .long u1), (3, .int u3), (6, .int v6)]) B dX7_simulate_52 (by decide) rfl ?_
    refine z_lload B dX7_simulate_54 0 rfl ?_
    refine z_bipush (v := 33) B dX7_simulate_56 (by decide) ?_
    refine z_lushr B dX7_simulate_58 ?_
    refine z_l2i B dX7_simulate_59 ?_
    refine z_istore (lv' := [(7, .int ((((((((v4 : Int64) * 6364136223846793005) : Int64) + 1442695040888963407) : Int64).toUInt64 >>> ((33 : Int32).toInt64.toUInt64 &&& Int64.toUInt64 63)).toInt64) : Int64).toInt32), (4, .long ((((v4 : Int64) * 6364136223846793005) : Int64) + 1442695040888963407)), (0, .ref u0), (1, .long u1), (3, .int u3), (6, .int v6)]) B dX7_simulate_60 (by decide) rfl ?_
    refine z_iload B dX7_simulate_62 0 rfl ?_
    refine z_iconst (v := 3) B dX7_simulate_64 (by decide) ?_
    refine z_irem B dX7_simulate_65 (by decide) ?_
    rcases zite hf with ⟨c2, hf⟩ | ⟨c2, hf⟩
    · refine z_if_eq B 85 dX7_simulate_66 (by decide) (fun _ => ?_) (fun e => absurd c2 e)
      refine z_iconst (v := 1) B dX7_simulate_85 (by decide) ?_
      refine z_goto B 90 dX7_simulate_86 (by decide) ?_
      refine z_istore (lv' := [(8, .int 1), (7, .int ((((((((v4 : Int64) * 6364136223846793005) : Int64) + 1442695040888963407) : Int64).toUInt64 >>> ((33 : Int32).toInt64.toUInt64 &&& Int64.toUInt64 63)).toInt64) : Int64).toInt32), (4, .long ((((v4 : Int64) * 6364136223846793005) : Int64) + 1442695040888963407)), (0, .ref u0), (1, .long u1), (3, .int u3), (6, .int v6)]) B dX7_simulate_90 (by decide) rfl ?_
      refine z_iload B dX7_simulate_92 0 rfl ?_
      refine z_if_eq B 125 dX7_simulate_94 (by decide) (fun e => absurd e (by decide)) (fun _ => ?_)
      refine z_aload_n B dX7_simulate_97 rfl 3 rfl ?_
      refine z_iconst (v := 1) B dX7_simulate_98 (by decide) ?_
      refine z_iload B dX7_simulate_99 1 rfl ?_
      refine z_iconst (v := 4) B dX7_simulate_101 (by decide) ?_
      refine z_idiv B dX7_simulate_102 (by decide) ?_
      refine z_aload_n B dX7_simulate_103 rfl 3 rfl ?_
      obtain ⟨w3, ew3, hf⟩ := zbs hf
      refine z_gI B fl_RX7_13 ew3 rfl dX7_simulate_104 ?_
      rcases zite hf with ⟨c6, hf⟩ | ⟨c6, hf⟩
      · cases hf
      refine z_irem B dX7_simulate_107 c6 ?_
      refine z_iconst (v := 1) B dX7_simulate_108 (by decide) ?_
      refine z_iload B dX7_simulate_109 1 rfl ?_
      refine z_bipush (v := 64) B dX7_simulate_111 (by decide) ?_
      refine z_idiv B dX7_simulate_113 (by decide) ?_
      refine z_sipush (v := 500) B dX7_simulate_114 (by decide) ?_
      refine z_irem B dX7_simulate_117 (by decide) ?_
      refine z_iadd B dX7_simulate_118 ?_
      obtain ⟨w4, h5, ew4, hf⟩ := zb2s hf
      refine z_callVi B [.int 1, .int ((((((((((((v4 : Int64) * 6364136223846793005) : Int64) + 1442695040888963407) : Int64).toUInt64 >>> ((33 : Int32).toInt64.toUInt64 &&& Int64.toUInt64 63)).toInt64) : Int64).toInt32 : Int32) / 4) : Int32) - ((((((((((v4 : Int64) * 6364136223846793005) : Int64) + 1442695040888963407) : Int64).toUInt64 >>> ((33 : Int32).toInt64.toUInt64 &&& Int64.toUInt64 63)).toInt64) : Int64).toInt32 : Int32) / 4) / w3 * w3), .int ((1 : Int32) + ((((((((((((v4 : Int64) * 6364136223846793005) : Int64) + 1442695040888963407) : Int64).toUInt64 >>> ((33 : Int32).toInt64.toUInt64 &&& Int64.toUInt64 63)).toInt64) : Int64).toInt32 : Int32) / 64) : Int32) - ((((((((((v4 : Int64) * 6364136223846793005) : Int64) + 1442695040888963407) : Int64).toUInt64 >>> ((33 : Int32).toInt64.toUInt64 &&& Int64.toUInt64 63)).toInt64) : Int64).toInt32 : Int32) / 64) / 500 * 500))] [] cw_X7_tries mv_RX7_307 (tX7_tries hst ew4) rfl (by decide) (kfX7_tries ew4) ⟨rfl, rfl, (Nat.le_of_ble_eq_true rfl), (Nat.le_of_ble_eq_true rfl), (Nat.le_of_ble_eq_true rfl), (Nat.le_of_ble_eq_true rfl)⟩ rfl rfl (Nat.le_of_ble_eq_true rfl) dX7_simulate_119 ?_
      refine z_goto B 151 dX7_simulate_122 (by decide) ?_
      refine z_istore (lv' := [(9, .int w4), (8, .int 1), (7, .int ((((((((v4 : Int64) * 6364136223846793005) : Int64) + 1442695040888963407) : Int64).toUInt64 >>> ((33 : Int32).toInt64.toUInt64 &&& Int64.toUInt64 63)).toInt64) : Int64).toInt32), (4, .long ((((v4 : Int64) * 6364136223846793005) : Int64) + 1442695040888963407)), (0, .ref u0), (1, .long u1), (3, .int u3), (6, .int v6)]) B dX7_simulate_151 (by decide) rfl ?_
      refine z_iinc (v' := (v6 + 1)) (lv' := [(6, .int (v6 + 1)), (9, .int w4), (8, .int 1), (7, .int ((((((((v4 : Int64) * 6364136223846793005) : Int64) + 1442695040888963407) : Int64).toUInt64 >>> ((33 : Int32).toInt64.toUInt64 &&& Int64.toUInt64 63)).toInt64) : Int64).toInt32), (4, .long ((((v4 : Int64) * 6364136223846793005) : Int64) + 1442695040888963407)), (0, .ref u0), (1, .long u1), (3, .int u3)]) B dX7_simulate_153 7 rfl rfl (by decide) rfl ?_
      refine z_goto B 36 dX7_simulate_156 (by decide) ?_
      refine zV.sub [5, 6, 7, 4, 0] rfl ?_
      exact ih _ _ _ hf
    refine z_if_eq B 85 dX7_simulate_66 (by decide) (fun e => absurd e c2) (fun _ => ?_)
    refine z_aload_n B dX7_simulate_69 rfl 2 rfl ?_
    obtain ⟨w7, ew7, hf⟩ := zbs hf
    refine z_gP B fl_RX7_59 ew7 rfl dX7_simulate_70 ?_
    refine z_iconst (v := 0) B dX7_simulate_73 (by decide) ?_
    obtain ⟨w8, ew8, hf⟩ := zbs hf
    refine z_aI B ew8 dX7_simulate_74 ?_
    rcases zite hf with ⟨c9, hf⟩ | ⟨c9, hf⟩
    · refine z_if_eq B 85 dX7_simulate_75 (by decide) (fun _ => ?_) (fun e => absurd c9 e)
      refine z_iconst (v := 1) B dX7_simulate_85 (by decide) ?_
      refine z_goto B 90 dX7_simulate_86 (by decide) ?_
      refine z_istore (lv' := [(8, .int 1), (7, .int ((((((((v4 : Int64) * 6364136223846793005) : Int64) + 1442695040888963407) : Int64).toUInt64 >>> ((33 : Int32).toInt64.toUInt64 &&& Int64.toUInt64 63)).toInt64) : Int64).toInt32), (4, .long ((((v4 : Int64) * 6364136223846793005) : Int64) + 1442695040888963407)), (0, .ref u0), (1, .long u1), (3, .int u3), (6, .int v6)]) B dX7_simulate_90 (by decide) rfl ?_
      refine z_iload B dX7_simulate_92 0 rfl ?_
      refine z_if_eq B 125 dX7_simulate_94 (by decide) (fun e => absurd e (by decide)) (fun _ => ?_)
      refine z_aload_n B dX7_simulate_97 rfl 3 rfl ?_
      refine z_iconst (v := 1) B dX7_simulate_98 (by decide) ?_
      refine z_iload B dX7_simulate_99 1 rfl ?_
      refine z_iconst (v := 4) B dX7_simulate_101 (by decide) ?_
      refine z_idiv B dX7_simulate_102 (by decide) ?_
      refine z_aload_n B dX7_simulate_103 rfl 3 rfl ?_
      obtain ⟨w10, ew10, hf⟩ := zbs hf
      refine z_gI B fl_RX7_13 ew10 rfl dX7_simulate_104 ?_
      rcases zite hf with ⟨c13, hf⟩ | ⟨c13, hf⟩
      · cases hf
      refine z_irem B dX7_simulate_107 c13 ?_
      refine z_iconst (v := 1) B dX7_simulate_108 (by decide) ?_
      refine z_iload B dX7_simulate_109 1 rfl ?_
      refine z_bipush (v := 64) B dX7_simulate_111 (by decide) ?_
      refine z_idiv B dX7_simulate_113 (by decide) ?_
      refine z_sipush (v := 500) B dX7_simulate_114 (by decide) ?_
      refine z_irem B dX7_simulate_117 (by decide) ?_
      refine z_iadd B dX7_simulate_118 ?_
      obtain ⟨w11, h12, ew11, hf⟩ := zb2s hf
      refine z_callVi B [.int 1, .int ((((((((((((v4 : Int64) * 6364136223846793005) : Int64) + 1442695040888963407) : Int64).toUInt64 >>> ((33 : Int32).toInt64.toUInt64 &&& Int64.toUInt64 63)).toInt64) : Int64).toInt32 : Int32) / 4) : Int32) - ((((((((((v4 : Int64) * 6364136223846793005) : Int64) + 1442695040888963407) : Int64).toUInt64 >>> ((33 : Int32).toInt64.toUInt64 &&& Int64.toUInt64 63)).toInt64) : Int64).toInt32 : Int32) / 4) / w10 * w10), .int ((1 : Int32) + ((((((((((((v4 : Int64) * 6364136223846793005) : Int64) + 1442695040888963407) : Int64).toUInt64 >>> ((33 : Int32).toInt64.toUInt64 &&& Int64.toUInt64 63)).toInt64) : Int64).toInt32 : Int32) / 64) : Int32) - ((((((((((v4 : Int64) * 6364136223846793005) : Int64) + 1442695040888963407) : Int64).toUInt64 >>> ((33 : Int32).toInt64.toUInt64 &&& Int64.toUInt64 63)).toInt64) : Int64).toInt32 : Int32) / 64) / 500 * 500))] [] cw_X7_tries mv_RX7_307 (tX7_tries hst ew11) rfl (by decide) (kfX7_tries ew11) ⟨rfl, rfl, (Nat.le_of_ble_eq_true rfl), (Nat.le_of_ble_eq_true rfl), (Nat.le_of_ble_eq_true rfl), (Nat.le_of_ble_eq_true rfl)⟩ rfl rfl (Nat.le_of_ble_eq_true rfl) dX7_simulate_119 ?_
      refine z_goto B 151 dX7_simulate_122 (by decide) ?_
      refine z_istore (lv' := [(9, .int w11), (8, .int 1), (7, .int ((((((((v4 : Int64) * 6364136223846793005) : Int64) + 1442695040888963407) : Int64).toUInt64 >>> ((33 : Int32).toInt64.toUInt64 &&& Int64.toUInt64 63)).toInt64) : Int64).toInt32), (4, .long ((((v4 : Int64) * 6364136223846793005) : Int64) + 1442695040888963407)), (0, .ref u0), (1, .long u1), (3, .int u3), (6, .int v6)]) B dX7_simulate_151 (by decide) rfl ?_
      refine z_iinc (v' := (v6 + 1)) (lv' := [(6, .int (v6 + 1)), (9, .int w11), (8, .int 1), (7, .int ((((((((v4 : Int64) * 6364136223846793005) : Int64) + 1442695040888963407) : Int64).toUInt64 >>> ((33 : Int32).toInt64.toUInt64 &&& Int64.toUInt64 63)).toInt64) : Int64).toInt32), (4, .long ((((v4 : Int64) * 6364136223846793005) : Int64) + 1442695040888963407)), (0, .ref u0), (1, .long u1), (3, .int u3)]) B dX7_simulate_153 7 rfl rfl (by decide) rfl ?_
      refine z_goto B 36 dX7_simulate_156 (by decide) ?_
      refine zV.sub [5, 6, 7, 4, 0] rfl ?_
      exact ih _ _ _ hf
    refine z_if_eq B 85 dX7_simulate_75 (by decide) (fun e => absurd e c9) (fun _ => ?_)
    refine z_aload_n B dX7_simulate_78 rfl 2 rfl ?_
    obtain ⟨w14, ew14, hf⟩ := zbs hf
    refine z_gI B fl_RX7_104 ew14 rfl dX7_simulate_79 ?_
    rcases zite hf with ⟨c15, hf⟩ | ⟨c15, hf⟩
    · refine z_if_ne B 89 dX7_simulate_82 (by decide) (fun e => absurd c15 e) (fun _ => ?_)
      refine z_iconst (v := 1) B dX7_simulate_85 (by decide) ?_
      refine z_goto B 90 dX7_simulate_86 (by decide) ?_
      refine z_istore (lv' := [(8, .int 1), (7, .int ((((((((v4 : Int64) * 6364136223846793005) : Int64) + 1442695040888963407) : Int64).toUInt64 >>> ((33 : Int32).toInt64.toUInt64 &&& Int64.toUInt64 63)).toInt64) : Int64).toInt32), (4, .long ((((v4 : Int64) * 6364136223846793005) : Int64) + 1442695040888963407)), (0, .ref u0), (1, .long u1), (3, .int u3), (6, .int v6)]) B dX7_simulate_90 (by decide) rfl ?_
      refine z_iload B dX7_simulate_92 0 rfl ?_
      refine z_if_eq B 125 dX7_simulate_94 (by decide) (fun e => absurd e (by decide)) (fun _ => ?_)
      refine z_aload_n B dX7_simulate_97 rfl 3 rfl ?_
      refine z_iconst (v := 1) B dX7_simulate_98 (by decide) ?_
      refine z_iload B dX7_simulate_99 1 rfl ?_
      refine z_iconst (v := 4) B dX7_simulate_101 (by decide) ?_
      refine z_idiv B dX7_simulate_102 (by decide) ?_
      refine z_aload_n B dX7_simulate_103 rfl 3 rfl ?_
      obtain ⟨w16, ew16, hf⟩ := zbs hf
      refine z_gI B fl_RX7_13 ew16 rfl dX7_simulate_104 ?_
      rcases zite hf with ⟨c19, hf⟩ | ⟨c19, hf⟩
      · cases hf
      refine z_irem B dX7_simulate_107 c19 ?_
      refine z_iconst (v := 1) B dX7_simulate_108 (by decide) ?_
      refine z_iload B dX7_simulate_109 1 rfl ?_
      refine z_bipush (v := 64) B dX7_simulate_111 (by decide) ?_
      refine z_idiv B dX7_simulate_113 (by decide) ?_
      refine z_sipush (v := 500) B dX7_simulate_114 (by decide) ?_
      refine z_irem B dX7_simulate_117 (by decide) ?_
      refine z_iadd B dX7_simulate_118 ?_
      obtain ⟨w17, h18, ew17, hf⟩ := zb2s hf
      refine z_callVi B [.int 1, .int ((((((((((((v4 : Int64) * 6364136223846793005) : Int64) + 1442695040888963407) : Int64).toUInt64 >>> ((33 : Int32).toInt64.toUInt64 &&& Int64.toUInt64 63)).toInt64) : Int64).toInt32 : Int32) / 4) : Int32) - ((((((((((v4 : Int64) * 6364136223846793005) : Int64) + 1442695040888963407) : Int64).toUInt64 >>> ((33 : Int32).toInt64.toUInt64 &&& Int64.toUInt64 63)).toInt64) : Int64).toInt32 : Int32) / 4) / w16 * w16), .int ((1 : Int32) + ((((((((((((v4 : Int64) * 6364136223846793005) : Int64) + 1442695040888963407) : Int64).toUInt64 >>> ((33 : Int32).toInt64.toUInt64 &&& Int64.toUInt64 63)).toInt64) : Int64).toInt32 : Int32) / 64) : Int32) - ((((((((((v4 : Int64) * 6364136223846793005) : Int64) + 1442695040888963407) : Int64).toUInt64 >>> ((33 : Int32).toInt64.toUInt64 &&& Int64.toUInt64 63)).toInt64) : Int64).toInt32 : Int32) / 64) / 500 * 500))] [] cw_X7_tries mv_RX7_307 (tX7_tries hst ew17) rfl (by decide) (kfX7_tries ew17) ⟨rfl, rfl, (Nat.le_of_ble_eq_true rfl), (Nat.le_of_ble_eq_true rfl), (Nat.le_of_ble_eq_true rfl), (Nat.le_of_ble_eq_true rfl)⟩ rfl rfl (Nat.le_of_ble_eq_true rfl) dX7_simulate_119 ?_
      refine z_goto B 151 dX7_simulate_122 (by decide) ?_
      refine z_istore (lv' := [(9, .int w17), (8, .int 1), (7, .int ((((((((v4 : Int64) * 6364136223846793005) : Int64) + 1442695040888963407) : Int64).toUInt64 >>> ((33 : Int32).toInt64.toUInt64 &&& Int64.toUInt64 63)).toInt64) : Int64).toInt32), (4, .long ((((v4 : Int64) * 6364136223846793005) : Int64) + 1442695040888963407)), (0, .ref u0), (1, .long u1), (3, .int u3), (6, .int v6)]) B dX7_simulate_151 (by decide) rfl ?_
      refine z_iinc (v' := (v6 + 1)) (lv' := [(6, .int (v6 + 1)), (9, .int w17), (8, .int 1), (7, .int ((((((((v4 : Int64) * 6364136223846793005) : Int64) + 1442695040888963407) : Int64).toUInt64 >>> ((33 : Int32).toInt64.toUInt64 &&& Int64.toUInt64 63)).toInt64) : Int64).toInt32), (4, .long ((((v4 : Int64) * 6364136223846793005) : Int64) + 1442695040888963407)), (0, .ref u0), (1, .long u1), (3, .int u3)]) B dX7_simulate_153 7 rfl rfl (by decide) rfl ?_
      refine z_goto B 36 dX7_simulate_156 (by decide) ?_
      refine zV.sub [5, 6, 7, 4, 0] rfl ?_
      exact ih _ _ _ hf
    refine z_if_ne B 89 dX7_simulate_82 (by decide) (fun _ => ?_) (fun e => absurd e c15)
    refine z_iconst (v := 0) B dX7_simulate_89 (by decide) ?_
    refine z_istore (lv' := [(8, .int 0), (7, .int ((((((((v4 : Int64) * 6364136223846793005) : Int64) + 1442695040888963407) : Int64).toUInt64 >>> ((33 : Int32).toInt64.toUInt64 &&& Int64.toUInt64 63)).toInt64) : Int64).toInt32), (4, .long ((((v4 : Int64) * 6364136223846793005) : Int64) + 1442695040888963407)), (0, .ref u0), (1, .long u1), (3, .int u3), (6, .int v6)]) B dX7_simulate_90 (by decide) rfl ?_
    refine z_iload B dX7_simulate_92 0 rfl ?_
    refine z_if_eq B 125 dX7_simulate_94 (by decide) (fun _ => ?_) (fun e => absurd e (by decide))
    refine z_aload_n B dX7_simulate_125 rfl 3 rfl ?_
    refine z_iconst (v := 3) B dX7_simulate_126 (by decide) ?_
    refine z_iload B dX7_simulate_127 1 rfl ?_
    refine z_iconst (v := 4) B dX7_simulate_129 (by decide) ?_
    refine z_idiv B dX7_simulate_130 (by decide) ?_
    refine z_aload_n B dX7_simulate_131 rfl 3 rfl ?_
    obtain ⟨w20, ew20, hf⟩ := zbs hf
    refine z_gP B fl_RX7_59 ew20 rfl dX7_simulate_132 ?_
    refine z_iconst (v := 0) B dX7_simulate_135 (by decide) ?_
    obtain ⟨w21, ew21, hf⟩ := zbs hf
    refine z_aI B ew21 dX7_simulate_136 ?_
    rcases zite hf with ⟨c26, hf⟩ | ⟨c26, hf⟩
    · cases hf
    refine z_irem B dX7_simulate_137 c26 ?_
    refine z_iload B dX7_simulate_138 1 rfl ?_
    refine z_bipush (v := 64) B dX7_simulate_140 (by decide) ?_
    refine z_idiv B dX7_simulate_142 (by decide) ?_
    refine z_aload_n B dX7_simulate_143 rfl 3 rfl ?_
    obtain ⟨w22, ew22, hf⟩ := zbs hf
    refine z_gI B fl_RX7_104 ew22 rfl dX7_simulate_144 ?_
    rcases zite hf with ⟨c25, hf⟩ | ⟨c25, hf⟩
    · cases hf
    refine z_irem B dX7_simulate_147 c25 ?_
    obtain ⟨w23, h24, ew23, hf⟩ := zb2s hf
    refine z_callVi B [.int 3, .int ((((((((((((v4 : Int64) * 6364136223846793005) : Int64) + 1442695040888963407) : Int64).toUInt64 >>> ((33 : Int32).toInt64.toUInt64 &&& Int64.toUInt64 63)).toInt64) : Int64).toInt32 : Int32) / 4) : Int32) - ((((((((((v4 : Int64) * 6364136223846793005) : Int64) + 1442695040888963407) : Int64).toUInt64 >>> ((33 : Int32).toInt64.toUInt64 &&& Int64.toUInt64 63)).toInt64) : Int64).toInt32 : Int32) / 4) / w21 * w21), .int ((((((((((((v4 : Int64) * 6364136223846793005) : Int64) + 1442695040888963407) : Int64).toUInt64 >>> ((33 : Int32).toInt64.toUInt64 &&& Int64.toUInt64 63)).toInt64) : Int64).toInt32 : Int32) / 64) : Int32) - ((((((((((v4 : Int64) * 6364136223846793005) : Int64) + 1442695040888963407) : Int64).toUInt64 >>> ((33 : Int32).toInt64.toUInt64 &&& Int64.toUInt64 63)).toInt64) : Int64).toInt32 : Int32) / 64) / w22 * w22)] [] cw_X7_tries mv_RX7_307 (tX7_tries hst ew23) rfl (by decide) (kfX7_tries ew23) ⟨rfl, rfl, (Nat.le_of_ble_eq_true rfl), (Nat.le_of_ble_eq_true rfl), (Nat.le_of_ble_eq_true rfl), (Nat.le_of_ble_eq_true rfl)⟩ rfl rfl (Nat.le_of_ble_eq_true rfl) dX7_simulate_148 ?_
    refine z_istore (lv' := [(9, .int w23), (8, .int 0), (7, .int ((((((((v4 : Int64) * 6364136223846793005) : Int64) + 1442695040888963407) : Int64).toUInt64 >>> ((33 : Int32).toInt64.toUInt64 &&& Int64.toUInt64 63)).toInt64) : Int64).toInt32), (4, .long ((((v4 : Int64) * 6364136223846793005) : Int64) + 1442695040888963407)), (0, .ref u0), (1, .long u1), (3, .int u3), (6, .int v6)]) B dX7_simulate_151 (by decide) rfl ?_
    refine z_iinc (v' := (v6 + 1)) (lv' := [(6, .int (v6 + 1)), (9, .int w23), (8, .int 0), (7, .int ((((((((v4 : Int64) * 6364136223846793005) : Int64) + 1442695040888963407) : Int64).toUInt64 >>> ((33 : Int32).toInt64.toUInt64 &&& Int64.toUInt64 63)).toInt64) : Int64).toInt32), (4, .long ((((v4 : Int64) * 6364136223846793005) : Int64) + 1442695040888963407)), (0, .ref u0), (1, .long u1), (3, .int u3)]) B dX7_simulate_153 7 rfl rfl (by decide) rfl ?_
    refine z_goto B 36 dX7_simulate_156 (by decide) ?_
    refine zV.sub [5, 6, 7, 4, 0] rfl ?_
    exact ih _ _ _ hf
set_option maxRecDepth 100000 in
set_option maxHeartbeats 4000000 in
theorem tX7_simulate {l : Launch} {G : zG} (hst : l.stackTraces = false) {h : zH} {a0 : Nat} {a1 : Int64} {a3 : Int32} {r : Int32 × zH} (hf : fX7_simulate h a0 a1 a3 = some r) : zMet l G yX7_simulate (.code yX7_simulate cX7_simulate 10 (some .int)) rm_X7_simulate 0 0 [.ref a0, .long a1, .int a3] h (zoi r) := by
  unfold fX7_simulate at hf
  obtain ⟨-, hf⟩ := zck hf
  refine z_enter (by decide) (Nat.le_of_ble_eq_true rfl) hst (fun x hx B hE => ?_)
  subst hx
  have B : zB G x cX7_simulate 10 RX7 "simulate" rm_X7_simulate (some .int) := B
  show zV G x 10 (zQ G x (zoi r) 0 0) h 0 0 0 [(0, .ref a0), (1, .long a1), (3, .int a3)] []
  refine z_aload_n B dX7_simulate_0 rfl 0 rfl ?_
  refine z_iload_n B dX7_simulate_1 rfl 2 rfl ?_
  refine z_i2l B dX7_simulate_2 ?_
  refine z_lconst (v := 1) B dX7_simulate_3 (by decide) ?_
  refine z_ldc2 B dX7_simulate_4 kl_RX7_321 ?_
  obtain ⟨w1, h2, ew1, hf⟩ := zb2s hf
  refine z_callSi B [.long (a3 : Int32).toInt64, .long 1, .long 50] [.ref a0] cw_X7_in mt_RX7_97 (tX7_in hst ew1) ⟨rfl, rfl, (Nat.le_of_ble_eq_true rfl), (Nat.le_of_ble_eq_true rfl), (Nat.le_of_ble_eq_true rfl), (Nat.le_of_ble_eq_true rfl)⟩ rfl rfl (Nat.le_of_ble_eq_true rfl) dX7_simulate_7 ?_
  rcases zite hf with ⟨c3, hf⟩ | ⟨c3, hf⟩
  · refine z_if_eq B 17 dX7_simulate_10 (by decide) (fun _ => ?_) (fun e => absurd c3 e)
    refine z_iconst (v := 1) B dX7_simulate_17 (by decide) ?_
    obtain ⟨w4, h5, ew4, hf⟩ := zb2s hf
    refine z_callVi B [.int 1] [] cw_X7_refused mv_RX7_112 (tX7_refused hst ew4) rfl (by decide) (kfX7_refused ew4) ⟨rfl, rfl, (Nat.le_of_ble_eq_true rfl), (Nat.le_of_ble_eq_true rfl), (Nat.le_of_ble_eq_true rfl), (Nat.le_of_ble_eq_true rfl)⟩ rfl rfl (Nat.le_of_ble_eq_true rfl) dX7_simulate_18 ?_
    rcases zite hf with ⟨c6, hf⟩ | ⟨c6, hf⟩
    · refine z_if_eq B 26 dX7_simulate_21 (by decide) (fun _ => ?_) (fun e => absurd c6 e)
      refine z_aload_n B dX7_simulate_26 rfl 0 rfl ?_
      obtain ⟨h7, eh7, hf⟩ := zbs hf
      refine z_callVv B [] [] cw_X7_tryNow mv_RX7_247 (tX7_tryNow hst eh7) rfl (by decide) (kfX7_tryNow eh7) ⟨rfl, rfl, (Nat.le_of_ble_eq_true rfl), (Nat.le_of_ble_eq_true rfl), (Nat.le_of_ble_eq_true rfl), (Nat.le_of_ble_eq_true rfl)⟩ rfl rfl (Nat.le_of_ble_eq_true rfl) dX7_simulate_27 ?_
      refine z_lload_n B dX7_simulate_30 rfl 1 rfl ?_
      refine z_lstore (lv' := [(4, .long a1), (0, .ref a0), (1, .long a1), (3, .int a3)]) B dX7_simulate_31 (by decide) rfl ?_
      refine z_iconst (v := 0) B dX7_simulate_33 (by decide) ?_
      refine z_istore (lv' := [(6, .int 0), (4, .long a1), (0, .ref a0), (1, .long a1), (3, .int a3)]) B dX7_simulate_34 (by decide) rfl ?_
      refine zV.sub [2, 3, 4, 1, 0] rfl ?_
      refine fX7_simulate_L36_ok B hst hE (fun h8 y9 y10 hf => ?_) _ _ _ _ hf
      refine z_aload_n B dX7_simulate_159 rfl 0 rfl ?_
      obtain ⟨w11, ew11, hf⟩ := zbs hf
      refine z_gP B fl_RX7_59 ew11 rfl dX7_simulate_160 ?_
      refine z_iconst (v := 2) B dX7_simulate_163 (by decide) ?_
      obtain ⟨w12, ew12, hf⟩ := zbs hf
      refine z_aI B ew12 dX7_simulate_164 ?_
      refine z_aload_n B dX7_simulate_165 rfl 0 rfl ?_
      obtain ⟨w13, ew13, hf⟩ := zbs hf
      refine z_gP B fl_RX7_59 ew13 rfl dX7_simulate_166 ?_
      obtain ⟨w14, h15, ew14, hf⟩ := zb2s hf
      refine z_callSi B [.ref w13] [.int w12] cw_X7_used mt_RX7_176 (tX7_used hst ew14) ⟨rfl, rfl, (Nat.le_of_ble_eq_true rfl), (Nat.le_of_ble_eq_true rfl), (Nat.le_of_ble_eq_true rfl), (Nat.le_of_ble_eq_true rfl)⟩ rfl rfl (Nat.le_of_ble_eq_true rfl) dX7_simulate_169 ?_
      refine z_iadd B dX7_simulate_172 ?_
      cases hf
      exact z_iret B dX7_simulate_173 (Nat.le_of_ble_eq_true rfl) (Nat.le_of_ble_eq_true rfl)
    refine z_if_eq B 26 dX7_simulate_21 (by decide) (fun e => absurd e c6) (fun _ => ?_)
    refine z_iconst (v := 0) B dX7_simulate_24 (by decide) ?_
    cases hf
    exact z_iret B dX7_simulate_25 (Nat.le_of_ble_eq_true rfl) (Nat.le_of_ble_eq_true rfl)
  refine z_if_eq B 17 dX7_simulate_10 (by decide) (fun e => absurd e c3) (fun _ => ?_)
  refine z_iconst (v := 0) B dX7_simulate_13 (by decide) ?_
  refine z_goto B 18 dX7_simulate_14 (by decide) ?_
  obtain ⟨w16, h17, ew16, hf⟩ := zb2s hf
  refine z_callVi B [.int 0] [] cw_X7_refused mv_RX7_112 (tX7_refused hst ew16) rfl (by decide) (kfX7_refused ew16) ⟨rfl, rfl, (Nat.le_of_ble_eq_true rfl), (Nat.le_of_ble_eq_true rfl), (Nat.le_of_ble_eq_true rfl), (Nat.le_of_ble_eq_true rfl)⟩ rfl rfl (Nat.le_of_ble_eq_true rfl) dX7_simulate_18 ?_
  rcases zite hf with ⟨c18, hf⟩ | ⟨c18, hf⟩
  · refine z_if_eq B 26 dX7_simulate_21 (by decide) (fun _ => ?_) (fun e => absurd c18 e)
    refine z_aload_n B dX7_simulate_26 rfl 0 rfl ?_
    obtain ⟨h19, eh19, hf⟩ := zbs hf
    refine z_callVv B [] [] cw_X7_tryNow mv_RX7_247 (tX7_tryNow hst eh19) rfl (by decide) (kfX7_tryNow eh19) ⟨rfl, rfl, (Nat.le_of_ble_eq_true rfl), (Nat.le_of_ble_eq_true rfl), (Nat.le_of_ble_eq_true rfl), (Nat.le_of_ble_eq_true rfl)⟩ rfl rfl (Nat.le_of_ble_eq_true rfl) dX7_simulate_27 ?_
    refine z_lload_n B dX7_simulate_30 rfl 1 rfl ?_
    refine z_lstore (lv' := [(4, .long a1), (0, .ref a0), (1, .long a1), (3, .int a3)]) B dX7_simulate_31 (by decide) rfl ?_
    refine z_iconst (v := 0) B dX7_simulate_33 (by decide) ?_
    refine z_istore (lv' := [(6, .int 0), (4, .long a1), (0, .ref a0), (1, .long a1), (3, .int a3)]) B dX7_simulate_34 (by decide) rfl ?_
    refine zV.sub [2, 3, 4, 1, 0] rfl ?_
    refine fX7_simulate_L36_ok B hst hE (fun h20 y21 y22 hf => ?_) _ _ _ _ hf
    refine z_aload_n B dX7_simulate_159 rfl 0 rfl ?_
    obtain ⟨w23, ew23, hf⟩ := zbs hf
    refine z_gP B fl_RX7_59 ew23 rfl dX7_simulate_160 ?_
    refine z_iconst (v := 2) B dX7_simulate_163 (by decide) ?_
    obtain ⟨w24, ew24, hf⟩ := zbs hf
    refine z_aI B ew24 dX7_simulate_164 ?_
    refine z_aload_n B dX7_simulate_165 rfl 0 rfl ?_
    obtain ⟨w25, ew25, hf⟩ := zbs hf
    refine z_gP B fl_RX7_59 ew25 rfl dX7_simulate_166 ?_
    obtain ⟨w26, h27, ew26, hf⟩ := zb2s hf
    refine z_callSi B [.ref w25] [.int w24] cw_X7_used mt_RX7_176 (tX7_used hst ew26) ⟨rfl, rfl, (Nat.le_of_ble_eq_true rfl), (Nat.le_of_ble_eq_true rfl), (Nat.le_of_ble_eq_true rfl), (Nat.le_of_ble_eq_true rfl)⟩ rfl rfl (Nat.le_of_ble_eq_true rfl) dX7_simulate_169 ?_
    refine z_iadd B dX7_simulate_172 ?_
    cases hf
    exact z_iret B dX7_simulate_173 (Nat.le_of_ble_eq_true rfl) (Nat.le_of_ble_eq_true rfl)
  refine z_if_eq B 26 dX7_simulate_21 (by decide) (fun e => absurd e c18) (fun _ => ?_)
  refine z_iconst (v := 0) B dX7_simulate_24 (by decide) ?_
  cases hf
  exact z_iret B dX7_simulate_25 (Nat.le_of_ble_eq_true rfl) (Nat.le_of_ble_eq_true rfl)
abbrev rm_X7_save : Room := { frames := 1, cells := 0, slots := 0, locals := 25 }
set_option maxRecDepth 100000 in
set_option maxHeartbeats 4000000 in
theorem tX7_save {l : Launch} {G : zG} (hst : l.stackTraces = false) {h : zH} {a0 : Nat} {a1 : Int32} {r : Int32 × zH} (hf : fX7_save h a0 a1 = some r) : zMet l G yX7_save (.code yX7_save cX7_save 2 (some .int)) rm_X7_save 0 0 [.ref a0, .int a1] h (zoi r) := by
  unfold fX7_save at hf
  obtain ⟨-, hf⟩ := zck hf
  refine z_enter (by decide) (Nat.le_of_ble_eq_true rfl) hst (fun x hx B hE => ?_)
  subst hx
  have B : zB G x cX7_save 2 RX7 "save" rm_X7_save (some .int) := B
  show zV G x 2 (zQ G x (zoi r) 0 0) h 0 0 0 [(0, .ref a0), (1, .int a1)] []
  refine z_aload_n B dX7_save_0 rfl 0 rfl ?_
  refine z_iload_n B dX7_save_1 rfl 1 rfl ?_
  refine z_i2l B dX7_save_2 ?_
  refine z_lconst (v := 0) B dX7_save_3 (by decide) ?_
  refine z_lconst (v := 1) B dX7_save_4 (by decide) ?_
  obtain ⟨w1, h2, ew1, hf⟩ := zb2s hf
  refine z_callSi B [.long (a1 : Int32).toInt64, .long 0, .long 1] [.ref a0] cw_X7_in mt_RX7_97 (tX7_in hst ew1) ⟨rfl, rfl, (Nat.le_of_ble_eq_true rfl), (Nat.le_of_ble_eq_true rfl), (Nat.le_of_ble_eq_true rfl), (Nat.le_of_ble_eq_true rfl)⟩ rfl rfl (Nat.le_of_ble_eq_true rfl) dX7_save_5 ?_
  rcases zite hf with ⟨c3, hf⟩ | ⟨c3, hf⟩
  · refine z_if_eq B 15 dX7_save_8 (by decide) (fun _ => ?_) (fun e => absurd c3 e)
    refine z_iconst (v := 1) B dX7_save_15 (by decide) ?_
    obtain ⟨w4, h5, ew4, hf⟩ := zb2s hf
    refine z_callVi B [.int 1] [] cw_X7_refused mv_RX7_112 (tX7_refused hst ew4) rfl (by decide) (kfX7_refused ew4) ⟨rfl, rfl, (Nat.le_of_ble_eq_true rfl), (Nat.le_of_ble_eq_true rfl), (Nat.le_of_ble_eq_true rfl), (Nat.le_of_ble_eq_true rfl)⟩ rfl rfl (Nat.le_of_ble_eq_true rfl) dX7_save_16 ?_
    rcases zite hf with ⟨c6, hf⟩ | ⟨c6, hf⟩
    · refine z_if_eq B 24 dX7_save_19 (by decide) (fun _ => ?_) (fun e => absurd c6 e)
      refine z_aload_n B dX7_save_24 rfl 0 rfl ?_
      obtain ⟨w7, ew7, hf⟩ := zbs hf
      refine z_gP B fl_RX7_71 ew7 rfl dX7_save_25 ?_
      refine z_iload_n B dX7_save_28 rfl 1 rfl ?_
      refine z_iconst (v := 1) B dX7_save_29 (by decide) ?_
      obtain ⟨h8, eh8, hf⟩ := zbs hf
      refine z_bZ B eh8 dX7_save_30 ?_
      refine z_aload_n B dX7_save_31 rfl 0 rfl ?_
      obtain ⟨w9, ew9, hf⟩ := zbs hf
      refine z_gP B fl_RX7_56 ew9 rfl dX7_save_32 ?_
      refine z_iconst (v := 0) B dX7_save_35 (by decide) ?_
      refine z_aload_n B dX7_save_36 rfl 0 rfl ?_
      obtain ⟨w10, ew10, hf⟩ := zbs hf
      refine z_gP B fl_RX7_68 ew10 rfl dX7_save_37 ?_
      refine z_sipush (v := 360) B dX7_save_40 (by decide) ?_
      refine z_iload_n B dX7_save_43 rfl 1 rfl ?_
      refine z_imul B dX7_save_44 ?_
      refine z_sipush (v := 360) B dX7_save_45 (by decide) ?_
      obtain ⟨h11, eh11, hf⟩ := zbs hf
      refine z_callSv B [.ref w9, .int 0, .ref w10, .int ((360 : Int32) * a1), .int 360] [] cw_X7_copyRow mt_RX7_90 (tX7_copyRow hst eh11) ⟨rfl, rfl, (Nat.le_of_ble_eq_true rfl), (Nat.le_of_ble_eq_true rfl), (Nat.le_of_ble_eq_true rfl), (Nat.le_of_ble_eq_true rfl)⟩ rfl rfl (Nat.le_of_ble_eq_true rfl) dX7_save_48 ?_
      refine z_aload_n B dX7_save_51 rfl 0 rfl ?_
      obtain ⟨w12, ew12, hf⟩ := zbs hf
      refine z_gP B fl_RX7_56 ew12 rfl dX7_save_52 ?_
      refine z_iconst (v := 0) B dX7_save_55 (by decide) ?_
      obtain ⟨w13, ew13, hf⟩ := zbs hf
      refine z_aI B ew13 dX7_save_56 ?_
      cases hf
      exact z_iret B dX7_save_57 (Nat.le_of_ble_eq_true rfl) (Nat.le_of_ble_eq_true rfl)
    refine z_if_eq B 24 dX7_save_19 (by decide) (fun e => absurd e c6) (fun _ => ?_)
    refine z_iconst (v := 0) B dX7_save_22 (by decide) ?_
    cases hf
    exact z_iret B dX7_save_23 (Nat.le_of_ble_eq_true rfl) (Nat.le_of_ble_eq_true rfl)
  refine z_if_eq B 15 dX7_save_8 (by decide) (fun e => absurd e c3) (fun _ => ?_)
  refine z_iconst (v := 0) B dX7_save_11 (by decide) ?_
  refine z_goto B 16 dX7_save_12 (by decide) ?_
  obtain ⟨w14, h15, ew14, hf⟩ := zb2s hf
  refine z_callVi B [.int 0] [] cw_X7_refused mv_RX7_112 (tX7_refused hst ew14) rfl (by decide) (kfX7_refused ew14) ⟨rfl, rfl, (Nat.le_of_ble_eq_true rfl), (Nat.le_of_ble_eq_true rfl), (Nat.le_of_ble_eq_true rfl), (Nat.le_of_ble_eq_true rfl)⟩ rfl rfl (Nat.le_of_ble_eq_true rfl) dX7_save_16 ?_
  rcases zite hf with ⟨c16, hf⟩ | ⟨c16, hf⟩
  · refine z_if_eq B 24 dX7_save_19 (by decide) (fun _ => ?_) (fun e => absurd c16 e)
    refine z_aload_n B dX7_save_24 rfl 0 rfl ?_
    obtain ⟨w17, ew17, hf⟩ := zbs hf
    refine z_gP B fl_RX7_71 ew17 rfl dX7_save_25 ?_
    refine z_iload_n B dX7_save_28 rfl 1 rfl ?_
    refine z_iconst (v := 1) B dX7_save_29 (by decide) ?_
    obtain ⟨h18, eh18, hf⟩ := zbs hf
    refine z_bZ B eh18 dX7_save_30 ?_
    refine z_aload_n B dX7_save_31 rfl 0 rfl ?_
    obtain ⟨w19, ew19, hf⟩ := zbs hf
    refine z_gP B fl_RX7_56 ew19 rfl dX7_save_32 ?_
    refine z_iconst (v := 0) B dX7_save_35 (by decide) ?_
    refine z_aload_n B dX7_save_36 rfl 0 rfl ?_
    obtain ⟨w20, ew20, hf⟩ := zbs hf
    refine z_gP B fl_RX7_68 ew20 rfl dX7_save_37 ?_
    refine z_sipush (v := 360) B dX7_save_40 (by decide) ?_
    refine z_iload_n B dX7_save_43 rfl 1 rfl ?_
    refine z_imul B dX7_save_44 ?_
    refine z_sipush (v := 360) B dX7_save_45 (by decide) ?_
    obtain ⟨h21, eh21, hf⟩ := zbs hf
    refine z_callSv B [.ref w19, .int 0, .ref w20, .int ((360 : Int32) * a1), .int 360] [] cw_X7_copyRow mt_RX7_90 (tX7_copyRow hst eh21) ⟨rfl, rfl, (Nat.le_of_ble_eq_true rfl), (Nat.le_of_ble_eq_true rfl), (Nat.le_of_ble_eq_true rfl), (Nat.le_of_ble_eq_true rfl)⟩ rfl rfl (Nat.le_of_ble_eq_true rfl) dX7_save_48 ?_
    refine z_aload_n B dX7_save_51 rfl 0 rfl ?_
    obtain ⟨w22, ew22, hf⟩ := zbs hf
    refine z_gP B fl_RX7_56 ew22 rfl dX7_save_52 ?_
    refine z_iconst (v := 0) B dX7_save_55 (by decide) ?_
    obtain ⟨w23, ew23, hf⟩ := zbs hf
    refine z_aI B ew23 dX7_save_56 ?_
    cases hf
    exact z_iret B dX7_save_57 (Nat.le_of_ble_eq_true rfl) (Nat.le_of_ble_eq_true rfl)
  refine z_if_eq B 24 dX7_save_19 (by decide) (fun e => absurd e c16) (fun _ => ?_)
  refine z_iconst (v := 0) B dX7_save_22 (by decide) ?_
  cases hf
  exact z_iret B dX7_save_23 (Nat.le_of_ble_eq_true rfl) (Nat.le_of_ble_eq_true rfl)
abbrev rm_X7_restore : Room := { frames := 1, cells := 0, slots := 0, locals := 25 }
set_option maxRecDepth 100000 in
set_option maxHeartbeats 4000000 in
theorem tX7_restore {l : Launch} {G : zG} (hst : l.stackTraces = false) {h : zH} {a0 : Nat} {a1 : Int32} {r : Int32 × zH} (hf : fX7_restore h a0 a1 = some r) : zMet l G yX7_restore (.code yX7_restore cX7_restore 2 (some .int)) rm_X7_restore 0 0 [.ref a0, .int a1] h (zoi r) := by
  unfold fX7_restore at hf
  obtain ⟨-, hf⟩ := zck hf
  refine z_enter (by decide) (Nat.le_of_ble_eq_true rfl) hst (fun x hx B hE => ?_)
  subst hx
  have B : zB G x cX7_restore 2 RX7 "restore" rm_X7_restore (some .int) := B
  show zV G x 2 (zQ G x (zoi r) 0 0) h 0 0 0 [(0, .ref a0), (1, .int a1)] []
  refine z_aload_n B dX7_restore_0 rfl 0 rfl ?_
  refine z_iload_n B dX7_restore_1 rfl 1 rfl ?_
  refine z_i2l B dX7_restore_2 ?_
  refine z_lconst (v := 0) B dX7_restore_3 (by decide) ?_
  refine z_lconst (v := 1) B dX7_restore_4 (by decide) ?_
  obtain ⟨w1, h2, ew1, hf⟩ := zb2s hf
  refine z_callSi B [.long (a1 : Int32).toInt64, .long 0, .long 1] [.ref a0] cw_X7_in mt_RX7_97 (tX7_in hst ew1) ⟨rfl, rfl, (Nat.le_of_ble_eq_true rfl), (Nat.le_of_ble_eq_true rfl), (Nat.le_of_ble_eq_true rfl), (Nat.le_of_ble_eq_true rfl)⟩ rfl rfl (Nat.le_of_ble_eq_true rfl) dX7_restore_5 ?_
  rcases zite hf with ⟨c3, hf⟩ | ⟨c3, hf⟩
  · refine z_if_ne B 15 dX7_restore_8 (by decide) (fun e => absurd c3 e) (fun _ => ?_)
    refine z_iconst (v := 1) B dX7_restore_11 (by decide) ?_
    refine z_goto B 29 dX7_restore_12 (by decide) ?_
    obtain ⟨w4, h5, ew4, hf⟩ := zb2s hf
    refine z_callVi B [.int 1] [] cw_X7_refused mv_RX7_112 (tX7_refused hst ew4) rfl (by decide) (kfX7_refused ew4) ⟨rfl, rfl, (Nat.le_of_ble_eq_true rfl), (Nat.le_of_ble_eq_true rfl), (Nat.le_of_ble_eq_true rfl), (Nat.le_of_ble_eq_true rfl)⟩ rfl rfl (Nat.le_of_ble_eq_true rfl) dX7_restore_29 ?_
    rcases zite hf with ⟨c6, hf⟩ | ⟨c6, hf⟩
    · refine z_if_eq B 37 dX7_restore_32 (by decide) (fun _ => ?_) (fun e => absurd c6 e)
      refine z_aload_n B dX7_restore_37 rfl 0 rfl ?_
      obtain ⟨w7, ew7, hf⟩ := zbs hf
      refine z_gP B fl_RX7_68 ew7 rfl dX7_restore_38 ?_
      refine z_sipush (v := 360) B dX7_restore_41 (by decide) ?_
      refine z_iload_n B dX7_restore_44 rfl 1 rfl ?_
      refine z_imul B dX7_restore_45 ?_
      refine z_aload_n B dX7_restore_46 rfl 0 rfl ?_
      obtain ⟨w8, ew8, hf⟩ := zbs hf
      refine z_gP B fl_RX7_56 ew8 rfl dX7_restore_47 ?_
      refine z_iconst (v := 0) B dX7_restore_50 (by decide) ?_
      refine z_sipush (v := 360) B dX7_restore_51 (by decide) ?_
      obtain ⟨h9, eh9, hf⟩ := zbs hf
      refine z_callSv B [.ref w7, .int ((360 : Int32) * a1), .ref w8, .int 0, .int 360] [] cw_X7_copyRow mt_RX7_90 (tX7_copyRow hst eh9) ⟨rfl, rfl, (Nat.le_of_ble_eq_true rfl), (Nat.le_of_ble_eq_true rfl), (Nat.le_of_ble_eq_true rfl), (Nat.le_of_ble_eq_true rfl)⟩ rfl rfl (Nat.le_of_ble_eq_true rfl) dX7_restore_54 ?_
      refine z_aload_n B dX7_restore_57 rfl 0 rfl ?_
      refine z_iconst (v := 0) B dX7_restore_58 (by decide) ?_
      obtain ⟨h10, eh10, hf⟩ := zbs hf
      refine z_pI B fl_RX7_87 eh10 rfl dX7_restore_59 ?_
      refine z_aload_n B dX7_restore_62 rfl 0 rfl ?_
      obtain ⟨w11, ew11, hf⟩ := zbs hf
      refine z_gP B fl_RX7_56 ew11 rfl dX7_restore_63 ?_
      refine z_iconst (v := 0) B dX7_restore_66 (by decide) ?_
      obtain ⟨w12, ew12, hf⟩ := zbs hf
      refine z_aI B ew12 dX7_restore_67 ?_
      cases hf
      exact z_iret B dX7_restore_68 (Nat.le_of_ble_eq_true rfl) (Nat.le_of_ble_eq_true rfl)
    refine z_if_eq B 37 dX7_restore_32 (by decide) (fun e => absurd e c6) (fun _ => ?_)
    refine z_iconst (v := 0) B dX7_restore_35 (by decide) ?_
    cases hf
    exact z_iret B dX7_restore_36 (Nat.le_of_ble_eq_true rfl) (Nat.le_of_ble_eq_true rfl)
  refine z_if_ne B 15 dX7_restore_8 (by decide) (fun _ => ?_) (fun e => absurd e c3)
  refine z_aload_n B dX7_restore_15 rfl 0 rfl ?_
  obtain ⟨w13, ew13, hf⟩ := zbs hf
  refine z_gP B fl_RX7_71 ew13 rfl dX7_restore_16 ?_
  refine z_iload_n B dX7_restore_19 rfl 1 rfl ?_
  obtain ⟨w14, ew14, hf⟩ := zbs hf
  refine z_aZ B ew14 dX7_restore_20 ?_
  rcases zite hf with ⟨c15, hf⟩ | ⟨c15, hf⟩
  · refine z_if_ne B 28 dX7_restore_21 (by decide) (fun e => absurd c15 e) (fun _ => ?_)
    refine z_iconst (v := 2) B dX7_restore_24 (by decide) ?_
    refine z_goto B 29 dX7_restore_25 (by decide) ?_
    obtain ⟨w16, h17, ew16, hf⟩ := zb2s hf
    refine z_callVi B [.int 2] [] cw_X7_refused mv_RX7_112 (tX7_refused hst ew16) rfl (by decide) (kfX7_refused ew16) ⟨rfl, rfl, (Nat.le_of_ble_eq_true rfl), (Nat.le_of_ble_eq_true rfl), (Nat.le_of_ble_eq_true rfl), (Nat.le_of_ble_eq_true rfl)⟩ rfl rfl (Nat.le_of_ble_eq_true rfl) dX7_restore_29 ?_
    rcases zite hf with ⟨c18, hf⟩ | ⟨c18, hf⟩
    · refine z_if_eq B 37 dX7_restore_32 (by decide) (fun _ => ?_) (fun e => absurd c18 e)
      refine z_aload_n B dX7_restore_37 rfl 0 rfl ?_
      obtain ⟨w19, ew19, hf⟩ := zbs hf
      refine z_gP B fl_RX7_68 ew19 rfl dX7_restore_38 ?_
      refine z_sipush (v := 360) B dX7_restore_41 (by decide) ?_
      refine z_iload_n B dX7_restore_44 rfl 1 rfl ?_
      refine z_imul B dX7_restore_45 ?_
      refine z_aload_n B dX7_restore_46 rfl 0 rfl ?_
      obtain ⟨w20, ew20, hf⟩ := zbs hf
      refine z_gP B fl_RX7_56 ew20 rfl dX7_restore_47 ?_
      refine z_iconst (v := 0) B dX7_restore_50 (by decide) ?_
      refine z_sipush (v := 360) B dX7_restore_51 (by decide) ?_
      obtain ⟨h21, eh21, hf⟩ := zbs hf
      refine z_callSv B [.ref w19, .int ((360 : Int32) * a1), .ref w20, .int 0, .int 360] [] cw_X7_copyRow mt_RX7_90 (tX7_copyRow hst eh21) ⟨rfl, rfl, (Nat.le_of_ble_eq_true rfl), (Nat.le_of_ble_eq_true rfl), (Nat.le_of_ble_eq_true rfl), (Nat.le_of_ble_eq_true rfl)⟩ rfl rfl (Nat.le_of_ble_eq_true rfl) dX7_restore_54 ?_
      refine z_aload_n B dX7_restore_57 rfl 0 rfl ?_
      refine z_iconst (v := 0) B dX7_restore_58 (by decide) ?_
      obtain ⟨h22, eh22, hf⟩ := zbs hf
      refine z_pI B fl_RX7_87 eh22 rfl dX7_restore_59 ?_
      refine z_aload_n B dX7_restore_62 rfl 0 rfl ?_
      obtain ⟨w23, ew23, hf⟩ := zbs hf
      refine z_gP B fl_RX7_56 ew23 rfl dX7_restore_63 ?_
      refine z_iconst (v := 0) B dX7_restore_66 (by decide) ?_
      obtain ⟨w24, ew24, hf⟩ := zbs hf
      refine z_aI B ew24 dX7_restore_67 ?_
      cases hf
      exact z_iret B dX7_restore_68 (Nat.le_of_ble_eq_true rfl) (Nat.le_of_ble_eq_true rfl)
    refine z_if_eq B 37 dX7_restore_32 (by decide) (fun e => absurd e c18) (fun _ => ?_)
    refine z_iconst (v := 0) B dX7_restore_35 (by decide) ?_
    cases hf
    exact z_iret B dX7_restore_36 (Nat.le_of_ble_eq_true rfl) (Nat.le_of_ble_eq_true rfl)
  refine z_if_ne B 28 dX7_restore_21 (by decide) (fun _ => ?_) (fun e => absurd e c15)
  refine z_iconst (v := 0) B dX7_restore_28 (by decide) ?_
  obtain ⟨w25, h26, ew25, hf⟩ := zb2s hf
  refine z_callVi B [.int 0] [] cw_X7_refused mv_RX7_112 (tX7_refused hst ew25) rfl (by decide) (kfX7_refused ew25) ⟨rfl, rfl, (Nat.le_of_ble_eq_true rfl), (Nat.le_of_ble_eq_true rfl), (Nat.le_of_ble_eq_true rfl), (Nat.le_of_ble_eq_true rfl)⟩ rfl rfl (Nat.le_of_ble_eq_true rfl) dX7_restore_29 ?_
  rcases zite hf with ⟨c27, hf⟩ | ⟨c27, hf⟩
  · refine z_if_eq B 37 dX7_restore_32 (by decide) (fun _ => ?_) (fun e => absurd c27 e)
    refine z_aload_n B dX7_restore_37 rfl 0 rfl ?_
    obtain ⟨w28, ew28, hf⟩ := zbs hf
    refine z_gP B fl_RX7_68 ew28 rfl dX7_restore_38 ?_
    refine z_sipush (v := 360) B dX7_restore_41 (by decide) ?_
    refine z_iload_n B dX7_restore_44 rfl 1 rfl ?_
    refine z_imul B dX7_restore_45 ?_
    refine z_aload_n B dX7_restore_46 rfl 0 rfl ?_
    obtain ⟨w29, ew29, hf⟩ := zbs hf
    refine z_gP B fl_RX7_56 ew29 rfl dX7_restore_47 ?_
    refine z_iconst (v := 0) B dX7_restore_50 (by decide) ?_
    refine z_sipush (v := 360) B dX7_restore_51 (by decide) ?_
    obtain ⟨h30, eh30, hf⟩ := zbs hf
    refine z_callSv B [.ref w28, .int ((360 : Int32) * a1), .ref w29, .int 0, .int 360] [] cw_X7_copyRow mt_RX7_90 (tX7_copyRow hst eh30) ⟨rfl, rfl, (Nat.le_of_ble_eq_true rfl), (Nat.le_of_ble_eq_true rfl), (Nat.le_of_ble_eq_true rfl), (Nat.le_of_ble_eq_true rfl)⟩ rfl rfl (Nat.le_of_ble_eq_true rfl) dX7_restore_54 ?_
    refine z_aload_n B dX7_restore_57 rfl 0 rfl ?_
    refine z_iconst (v := 0) B dX7_restore_58 (by decide) ?_
    obtain ⟨h31, eh31, hf⟩ := zbs hf
    refine z_pI B fl_RX7_87 eh31 rfl dX7_restore_59 ?_
    refine z_aload_n B dX7_restore_62 rfl 0 rfl ?_
    obtain ⟨w32, ew32, hf⟩ := zbs hf
    refine z_gP B fl_RX7_56 ew32 rfl dX7_restore_63 ?_
    refine z_iconst (v := 0) B dX7_restore_66 (by decide) ?_
    obtain ⟨w33, ew33, hf⟩ := zbs hf
    refine z_aI B ew33 dX7_restore_67 ?_
    cases hf
    exact z_iret B dX7_restore_68 (Nat.le_of_ble_eq_true rfl) (Nat.le_of_ble_eq_true rfl)
  refine z_if_eq B 37 dX7_restore_32 (by decide) (fun e => absurd e c27) (fun _ => ?_)
  refine z_iconst (v := 0) B dX7_restore_35 (by decide) ?_
  cases hf
  exact z_iret B dX7_restore_36 (Nat.le_of_ble_eq_true rfl) (Nat.le_of_ble_eq_true rfl)
