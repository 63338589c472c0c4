theorem dwm_0 : (cX6_init.data.toList.drop 0).take 16 = [42, 183, 0, 1, 42, 16, 8, 188, 10, 181, 0, 7, 42, 16, 8, 188] := by decide +kernel
theorem dwm_1 : (cX6_init.data.toList.drop 16).take 16 = [10, 181, 0, 13, 42, 16, 8, 188, 10, 181, 0, 16, 42, 16, 8, 188] := by decide +kernel
theorem dwm_2 : (cX6_init.data.toList.drop 32).take 16 = [10, 181, 0, 19, 42, 16, 6, 188, 10, 181, 0, 22, 42, 16, 6, 188] := by decide +kernel
theorem dwm_3 : (cX6_init.data.toList.drop 48).take 16 = [10, 181, 0, 25, 42, 16, 6, 188, 10, 181, 0, 28, 42, 16, 42, 188] := by decide +kernel
theorem dwm_4 : (cX6_init.data.toList.drop 64).take 16 = [10, 181, 0, 31, 42, 16, 7, 188, 10, 181, 0, 34, 42, 16, 96, 188] := by decide +kernel
theorem dwm_5 : (cX6_init.data.toList.drop 80).take 16 = [10, 181, 0, 37, 42, 16, 49, 188, 10, 181, 0, 40, 42, 16, 49, 188] := by decide +kernel
theorem dwm_6 : (cX6_init.data.toList.drop 96).take 16 = [10, 181, 0, 43, 42, 17, 0, 147, 188, 10, 181, 0, 46, 42, 16, 91] := by decide +kernel
theorem dwm_7 : (cX6_init.data.toList.drop 112).take 16 = [188, 10, 181, 0, 49, 42, 16, 91, 188, 10, 181, 0, 52, 42, 17, 2] := by decide +kernel
theorem dwm_8 : (cX6_init.data.toList.drop 128).take 16 = [216, 188, 10, 181, 0, 55, 42, 16, 91, 188, 10, 181, 0, 58, 42, 17] := by decide +kernel
theorem dwm_9 : (cX6_init.data.toList.drop 144).take 16 = [24, 128, 188, 10, 181, 0, 61, 42, 17, 24, 128, 188, 10, 181, 0, 64] := by decide +kernel
theorem dwm_10 : (cX6_init.data.toList.drop 160).take 16 = [42, 17, 4, 0, 188, 10, 181, 0, 67, 42, 16, 49, 188, 10, 181, 0] := by decide +kernel
theorem dwm_11 : (cX6_init.data.toList.drop 176).take 16 = [70, 42, 16, 12, 188, 10, 181, 0, 73, 42, 16, 8, 188, 10, 181, 0] := by decide +kernel
theorem dwm_12 : (cX6_init.data.toList.drop 192).take 16 = [76, 42, 3, 181, 0, 79, 177] := by decide +kernel
theorem dX6_init_0 : decode cX6_init 0 = .ok (.aload_n 0, 1) := dq_42 (dq_w dwm_0 0 rfl)
theorem dX6_init_1 : decode cX6_init 1 = .ok (.invokespecial 1, 3) := dq_183 (dq_w dwm_0 1 rfl) (dq_w dwm_0 2 rfl) (dq_w dwm_0 3 rfl) rfl
theorem dX6_init_4 : decode cX6_init 4 = .ok (.aload_n 0, 1) := dq_42 (dq_w dwm_0 4 rfl)
theorem dX6_init_5 : decode cX6_init 5 = .ok (.bipush 8, 2) := dq_16 (dq_w dwm_0 5 rfl) (dq_w dwm_0 6 rfl) rfl
theorem dX6_init_7 : decode cX6_init 7 = .ok (.newarray .int, 2) := by decide +kernel
theorem dX6_init_9 : decode cX6_init 9 = .ok (.putfield 7, 3) := dq_181 (dq_w dwm_0 9 rfl) (dq_w dwm_0 10 rfl) (dq_w dwm_0 11 rfl) rfl
theorem dX6_init_12 : decode cX6_init 12 = .ok (.aload_n 0, 1) := dq_42 (dq_w dwm_0 12 rfl)
theorem dX6_init_13 : decode cX6_init 13 = .ok (.bipush 8, 2) := dq_16 (dq_w dwm_0 13 rfl) (dq_w dwm_0 14 rfl) rfl
theorem dX6_init_15 : decode cX6_init 15 = .ok (.newarray .int, 2) := by decide +kernel
theorem dX6_init_17 : decode cX6_init 17 = .ok (.putfield 13, 3) := dq_181 (dq_w dwm_1 1 rfl) (dq_w dwm_1 2 rfl) (dq_w dwm_1 3 rfl) rfl
theorem dX6_init_20 : decode cX6_init 20 = .ok (.aload_n 0, 1) := dq_42 (dq_w dwm_1 4 rfl)
theorem dX6_init_21 : decode cX6_init 21 = .ok (.bipush 8, 2) := dq_16 (dq_w dwm_1 5 rfl) (dq_w dwm_1 6 rfl) rfl
theorem dX6_init_23 : decode cX6_init 23 = .ok (.newarray .int, 2) := by decide +kernel
theorem dX6_init_25 : decode cX6_init 25 = .ok (.putfield 16, 3) := dq_181 (dq_w dwm_1 9 rfl) (dq_w dwm_1 10 rfl) (dq_w dwm_1 11 rfl) rfl
theorem dX6_init_28 : decode cX6_init 28 = .ok (.aload_n 0, 1) := dq_42 (dq_w dwm_1 12 rfl)
theorem dX6_init_29 : decode cX6_init 29 = .ok (.bipush 8, 2) := dq_16 (dq_w dwm_1 13 rfl) (dq_w dwm_1 14 rfl) rfl
theorem dX6_init_31 : decode cX6_init 31 = .ok (.newarray .int, 2) := by decide +kernel
theorem dX6_init_33 : decode cX6_init 33 = .ok (.putfield 19, 3) := dq_181 (dq_w dwm_2 1 rfl) (dq_w dwm_2 2 rfl) (dq_w dwm_2 3 rfl) rfl
theorem dX6_init_36 : decode cX6_init 36 = .ok (.aload_n 0, 1) := dq_42 (dq_w dwm_2 4 rfl)
theorem dX6_init_37 : decode cX6_init 37 = .ok (.bipush 6, 2) := dq_16 (dq_w dwm_2 5 rfl) (dq_w dwm_2 6 rfl) rfl
theorem dX6_init_39 : decode cX6_init 39 = .ok (.newarray .int, 2) := by decide +kernel
theorem dX6_init_41 : decode cX6_init 41 = .ok (.putfield 22, 3) := dq_181 (dq_w dwm_2 9 rfl) (dq_w dwm_2 10 rfl) (dq_w dwm_2 11 rfl) rfl
theorem dX6_init_44 : decode cX6_init 44 = .ok (.aload_n 0, 1) := dq_42 (dq_w dwm_2 12 rfl)
theorem dX6_init_45 : decode cX6_init 45 = .ok (.bipush 6, 2) := dq_16 (dq_w dwm_2 13 rfl) (dq_w dwm_2 14 rfl) rfl
theorem dX6_init_47 : decode cX6_init 47 = .ok (.newarray .int, 2) := by decide +kernel
theorem dX6_init_49 : decode cX6_init 49 = .ok (.putfield 25, 3) := dq_181 (dq_w dwm_3 1 rfl) (dq_w dwm_3 2 rfl) (dq_w dwm_3 3 rfl) rfl
theorem dX6_init_52 : decode cX6_init 52 = .ok (.aload_n 0, 1) := dq_42 (dq_w dwm_3 4 rfl)
theorem dX6_init_53 : decode cX6_init 53 = .ok (.bipush 6, 2) := dq_16 (dq_w dwm_3 5 rfl) (dq_w dwm_3 6 rfl) rfl
theorem dX6_init_55 : decode cX6_init 55 = .ok (.newarray .int, 2) := by decide +kernel
theorem dX6_init_57 : decode cX6_init 57 = .ok (.putfield 28, 3) := dq_181 (dq_w dwm_3 9 rfl) (dq_w dwm_3 10 rfl) (dq_w dwm_3 11 rfl) rfl
theorem dX6_init_60 : decode cX6_init 60 = .ok (.aload_n 0, 1) := dq_42 (dq_w dwm_3 12 rfl)
theorem dX6_init_61 : decode cX6_init 61 = .ok (.bipush 42, 2) := dq_16 (dq_w dwm_3 13 rfl) (dq_w dwm_3 14 rfl) rfl
theorem dX6_init_63 : decode cX6_init 63 = .ok (.newarray .int, 2) := by decide +kernel
theorem dX6_init_65 : decode cX6_init 65 = .ok (.putfield 31, 3) := dq_181 (dq_w dwm_4 1 rfl) (dq_w dwm_4 2 rfl) (dq_w dwm_4 3 rfl) rfl
theorem dX6_init_68 : decode cX6_init 68 = .ok (.aload_n 0, 1) := dq_42 (dq_w dwm_4 4 rfl)
theorem dX6_init_69 : decode cX6_init 69 = .ok (.bipush 7, 2) := dq_16 (dq_w dwm_4 5 rfl) (dq_w dwm_4 6 rfl) rfl
theorem dX6_init_71 : decode cX6_init 71 = .ok (.newarray .int, 2) := by decide +kernel
theorem dX6_init_73 : decode cX6_init 73 = .ok (.putfield 34, 3) := dq_181 (dq_w dwm_4 9 rfl) (dq_w dwm_4 10 rfl) (dq_w dwm_4 11 rfl) rfl
theorem dX6_init_76 : decode cX6_init 76 = .ok (.aload_n 0, 1) := dq_42 (dq_w dwm_4 12 rfl)
theorem dX6_init_77 : decode cX6_init 77 = .ok (.bipush 96, 2) := dq_16 (dq_w dwm_4 13 rfl) (dq_w dwm_4 14 rfl) rfl
theorem dX6_init_79 : decode cX6_init 79 = .ok (.newarray .int, 2) := by decide +kernel
theorem dX6_init_81 : decode cX6_init 81 = .ok (.putfield 37, 3) := dq_181 (dq_w dwm_5 1 rfl) (dq_w dwm_5 2 rfl) (dq_w dwm_5 3 rfl) rfl
theorem dX6_init_84 : decode cX6_init 84 = .ok (.aload_n 0, 1) := dq_42 (dq_w dwm_5 4 rfl)
theorem dX6_init_85 : decode cX6_init 85 = .ok (.bipush 49, 2) := dq_16 (dq_w dwm_5 5 rfl) (dq_w dwm_5 6 rfl) rfl
theorem dX6_init_87 : decode cX6_init 87 = .ok (.newarray .int, 2) := by decide +kernel
theorem dX6_init_89 : decode cX6_init 89 = .ok (.putfield 40, 3) := dq_181 (dq_w dwm_5 9 rfl) (dq_w dwm_5 10 rfl) (dq_w dwm_5 11 rfl) rfl
theorem dX6_init_92 : decode cX6_init 92 = .ok (.aload_n 0, 1) := dq_42 (dq_w dwm_5 12 rfl)
theorem dX6_init_93 : decode cX6_init 93 = .ok (.bipush 49, 2) := dq_16 (dq_w dwm_5 13 rfl) (dq_w dwm_5 14 rfl) rfl
theorem dX6_init_95 : decode cX6_init 95 = .ok (.newarray .int, 2) := by decide +kernel
theorem dX6_init_97 : decode cX6_init 97 = .ok (.putfield 43, 3) := dq_181 (dq_w dwm_6 1 rfl) (dq_w dwm_6 2 rfl) (dq_w dwm_6 3 rfl) rfl
theorem dX6_init_100 : decode cX6_init 100 = .ok (.aload_n 0, 1) := dq_42 (dq_w dwm_6 4 rfl)
theorem dX6_init_101 : decode cX6_init 101 = .ok (.sipush 147, 3) := dq_17 (dq_w dwm_6 5 rfl) (dq_w dwm_6 6 rfl) (dq_w dwm_6 7 rfl) (dq_p (n := 147) rfl rfl)
theorem dX6_init_104 : decode cX6_init 104 = .ok (.newarray .int, 2) := by decide +kernel
theorem dX6_init_106 : decode cX6_init 106 = .ok (.putfield 46, 3) := dq_181 (dq_w dwm_6 10 rfl) (dq_w dwm_6 11 rfl) (dq_w dwm_6 12 rfl) rfl
theorem dX6_init_109 : decode cX6_init 109 = .ok (.aload_n 0, 1) := dq_42 (dq_w dwm_6 13 rfl)
theorem dX6_init_110 : decode cX6_init 110 = .ok (.bipush 91, 2) := dq_16 (dq_w dwm_6 14 rfl) (dq_w dwm_6 15 rfl) rfl
theorem dX6_init_112 : decode cX6_init 112 = .ok (.newarray .int, 2) := by decide +kernel
theorem dX6_init_114 : decode cX6_init 114 = .ok (.putfield 49, 3) := dq_181 (dq_w dwm_7 2 rfl) (dq_w dwm_7 3 rfl) (dq_w dwm_7 4 rfl) rfl
theorem dX6_init_117 : decode cX6_init 117 = .ok (.aload_n 0, 1) := dq_42 (dq_w dwm_7 5 rfl)
theorem dX6_init_118 : decode cX6_init 118 = .ok (.bipush 91, 2) := dq_16 (dq_w dwm_7 6 rfl) (dq_w dwm_7 7 rfl) rfl
theorem dX6_init_120 : decode cX6_init 120 = .ok (.newarray .int, 2) := by decide +kernel
theorem dX6_init_122 : decode cX6_init 122 = .ok (.putfield 52, 3) := dq_181 (dq_w dwm_7 10 rfl) (dq_w dwm_7 11 rfl) (dq_w dwm_7 12 rfl) rfl
theorem dX6_init_125 : decode cX6_init 125 = .ok (.aload_n 0, 1) := dq_42 (dq_w dwm_7 13 rfl)
theorem dX6_init_126 : decode cX6_init 126 = .ok (.sipush 728, 3) := dq_17 (dq_w dwm_7 14 rfl) (dq_w dwm_7 15 rfl) (dq_w dwm_8 0 rfl) (dq_p (n := 728) rfl rfl)
theorem dX6_init_129 : decode cX6_init 129 = .ok (.newarray .int, 2) := by decide +kernel
theorem dX6_init_131 : decode cX6_init 131 = .ok (.putfield 55, 3) := dq_181 (dq_w dwm_8 3 rfl) (dq_w dwm_8 4 rfl) (dq_w dwm_8 5 rfl) rfl
theorem dX6_init_134 : decode cX6_init 134 = .ok (.aload_n 0, 1) := dq_42 (dq_w dwm_8 6 rfl)
theorem dX6_init_135 : decode cX6_init 135 = .ok (.bipush 91, 2) := dq_16 (dq_w dwm_8 7 rfl) (dq_w dwm_8 8 rfl) rfl
theorem dX6_init_137 : decode cX6_init 137 = .ok (.newarray .int, 2) := by decide +kernel
theorem dX6_init_139 : decode cX6_init 139 = .ok (.putfield 58, 3) := dq_181 (dq_w dwm_8 11 rfl) (dq_w dwm_8 12 rfl) (dq_w dwm_8 13 rfl) rfl
theorem dX6_init_142 : decode cX6_init 142 = .ok (.aload_n 0, 1) := dq_42 (dq_w dwm_8 14 rfl)
theorem dX6_init_143 : decode cX6_init 143 = .ok (.sipush 6272, 3) := dq_17 (dq_w dwm_8 15 rfl) (dq_w dwm_9 0 rfl) (dq_w dwm_9 1 rfl) (dq_p (n := 6272) rfl rfl)
theorem dX6_init_146 : decode cX6_init 146 = .ok (.newarray .int, 2) := by decide +kernel
theorem dX6_init_148 : decode cX6_init 148 = .ok (.putfield 61, 3) := dq_181 (dq_w dwm_9 4 rfl) (dq_w dwm_9 5 rfl) (dq_w dwm_9 6 rfl) rfl
theorem dX6_init_151 : decode cX6_init 151 = .ok (.aload_n 0, 1) := dq_42 (dq_w dwm_9 7 rfl)
theorem dX6_init_152 : decode cX6_init 152 = .ok (.sipush 6272, 3) := dq_17 (dq_w dwm_9 8 rfl) (dq_w dwm_9 9 rfl) (dq_w dwm_9 10 rfl) (dq_p (n := 6272) rfl rfl)
theorem dX6_init_155 : decode cX6_init 155 = .ok (.newarray .int, 2) := by decide +kernel
theorem dX6_init_157 : decode cX6_init 157 = .ok (.putfield 64, 3) := dq_181 (dq_w dwm_9 13 rfl) (dq_w dwm_9 14 rfl) (dq_w dwm_9 15 rfl) rfl
theorem dX6_init_160 : decode cX6_init 160 = .ok (.aload_n 0, 1) := dq_42 (dq_w dwm_10 0 rfl)
theorem dX6_init_161 : decode cX6_init 161 = .ok (.sipush 1024, 3) := dq_17 (dq_w dwm_10 1 rfl) (dq_w dwm_10 2 rfl) (dq_w dwm_10 3 rfl) (dq_p (n := 1024) rfl rfl)
theorem dX6_init_164 : decode cX6_init 164 = .ok (.newarray .int, 2) := by decide +kernel
theorem dX6_init_166 : decode cX6_init 166 = .ok (.putfield 67, 3) := dq_181 (dq_w dwm_10 6 rfl) (dq_w dwm_10 7 rfl) (dq_w dwm_10 8 rfl) rfl
theorem dX6_init_169 : decode cX6_init 169 = .ok (.aload_n 0, 1) := dq_42 (dq_w dwm_10 9 rfl)
theorem dX6_init_170 : decode cX6_init 170 = .ok (.bipush 49, 2) := dq_16 (dq_w dwm_10 10 rfl) (dq_w dwm_10 11 rfl) rfl
theorem dX6_init_172 : decode cX6_init 172 = .ok (.newarray .int, 2) := by decide +kernel
theorem dX6_init_174 : decode cX6_init 174 = .ok (.putfield 70, 3) := dq_181 (dq_w dwm_10 14 rfl) (dq_w dwm_10 15 rfl) (dq_w dwm_11 0 rfl) rfl
theorem dX6_init_177 : decode cX6_init 177 = .ok (.aload_n 0, 1) := dq_42 (dq_w dwm_11 1 rfl)
theorem dX6_init_178 : decode cX6_init 178 = .ok (.bipush 12, 2) := dq_16 (dq_w dwm_11 2 rfl) (dq_w dwm_11 3 rfl) rfl
theorem dX6_init_180 : decode cX6_init 180 = .ok (.newarray .int, 2) := by decide +kernel
theorem dX6_init_182 : decode cX6_init 182 = .ok (.putfield 73, 3) := dq_181 (dq_w dwm_11 6 rfl) (dq_w dwm_11 7 rfl) (dq_w dwm_11 8 rfl) rfl
theorem dX6_init_185 : decode cX6_init 185 = .ok (.aload_n 0, 1) := dq_42 (dq_w dwm_11 9 rfl)
theorem dX6_init_186 : decode cX6_init 186 = .ok (.bipush 8, 2) := dq_16 (dq_w dwm_11 10 rfl) (dq_w dwm_11 11 rfl) rfl
theorem dX6_init_188 : decode cX6_init 188 = .ok (.newarray .int, 2) := by decide +kernel
theorem dX6_init_190 : decode cX6_init 190 = .ok (.putfield 76, 3) := dq_181 (dq_w dwm_11 14 rfl) (dq_w dwm_11 15 rfl) (dq_w dwm_12 0 rfl) rfl
theorem dX6_init_193 : decode cX6_init 193 = .ok (.aload_n 0, 1) := dq_42 (dq_w dwm_12 1 rfl)
theorem dX6_init_194 : decode cX6_init 194 = .ok (.iconst 0, 1) := dq_3 (dq_w dwm_12 2 rfl)
theorem dX6_init_195 : decode cX6_init 195 = .ok (.putfield 79, 3) := dq_181 (dq_w dwm_12 3 rfl) (dq_w dwm_12 4 rfl) (dq_w dwm_12 5 rfl) rfl
theorem dX6_init_198 : decode cX6_init 198 = .ok (.return_, 1) := dq_177 (dq_w dwm_12 6 rfl)
theorem dwm_13 : (cX6_in.data.toList.drop 0).take 16 = [30, 32, 148, 155, 0, 14, 30, 22, 4, 148, 157, 0, 7, 4, 167, 0] := by decide +kernel
theorem dwm_14 : (cX6_in.data.toList.drop 16).take 16 = [4, 3, 172] := by decide +kernel
theorem dX6_in_0 : decode cX6_in 0 = .ok (.lload_n 0, 1) := dq_30 (dq_w dwm_13 0 rfl)
theorem dX6_in_1 : decode cX6_in 1 = .ok (.lload_n 2, 1) := dq_32 (dq_w dwm_13 1 rfl)
theorem dX6_in_2 : decode cX6_in 2 = .ok (.lcmp, 1) := dq_148 (dq_w dwm_13 2 rfl)
theorem dX6_in_3 : decode cX6_in 3 = .ok (.ifCond .lt 14, 3) := dq_155 (dq_w dwm_13 3 rfl) (dq_w dwm_13 4 rfl) (dq_w dwm_13 5 rfl) (dq_p (n := 14) rfl rfl)
theorem dX6_in_6 : decode cX6_in 6 = .ok (.lload_n 0, 1) := dq_30 (dq_w dwm_13 6 rfl)
theorem dX6_in_7 : decode cX6_in 7 = .ok (.lload 4, 2) := dq_22 (dq_w dwm_13 7 rfl) (dq_w dwm_13 8 rfl) rfl
theorem dX6_in_9 : decode cX6_in 9 = .ok (.lcmp, 1) := dq_148 (dq_w dwm_13 9 rfl)
theorem dX6_in_10 : decode cX6_in 10 = .ok (.ifCond .gt 7, 3) := dq_157 (dq_w dwm_13 10 rfl) (dq_w dwm_13 11 rfl) (dq_w dwm_13 12 rfl) (dq_p (n := 7) rfl rfl)
theorem dX6_in_13 : decode cX6_in 13 = .ok (.iconst 1, 1) := dq_4 (dq_w dwm_13 13 rfl)
theorem dX6_in_14 : decode cX6_in 14 = .ok (.goto 4, 3) := dq_167 (dq_w dwm_13 14 rfl) (dq_w dwm_13 15 rfl) (dq_w dwm_14 0 rfl) (dq_p (n := 4) rfl rfl)
theorem dX6_in_17 : decode cX6_in 17 = .ok (.iconst 0, 1) := dq_3 (dq_w dwm_14 1 rfl)
theorem dX6_in_18 : decode cX6_in 18 = .ok (.ireturn, 1) := dq_172 (dq_w dwm_14 2 rfl)
theorem dwm_15 : (cX6_refuse.data.toList.drop 0).take 16 = [42, 180, 0, 34, 27, 116, 92, 46, 4, 96, 79, 27, 172] := by decide +kernel
theorem dX6_refuse_0 : decode cX6_refuse 0 = .ok (.aload_n 0, 1) := dq_42 (dq_w dwm_15 0 rfl)
theorem dX6_refuse_1 : decode cX6_refuse 1 = .ok (.getfield 34, 3) := dq_180 (dq_w dwm_15 1 rfl) (dq_w dwm_15 2 rfl) (dq_w dwm_15 3 rfl) rfl
theorem dX6_refuse_4 : decode cX6_refuse 4 = .ok (.iload_n 1, 1) := dq_27 (dq_w dwm_15 4 rfl)
theorem dX6_refuse_5 : decode cX6_refuse 5 = .ok (.ineg, 1) := dq_116 (dq_w dwm_15 5 rfl)
theorem dX6_refuse_6 : decode cX6_refuse 6 = .ok (.dup2, 1) := dq_92 (dq_w dwm_15 6 rfl)
theorem dX6_refuse_7 : decode cX6_refuse 7 = .ok (.iaload, 1) := dq_46 (dq_w dwm_15 7 rfl)
theorem dX6_refuse_8 : decode cX6_refuse 8 = .ok (.iconst 1, 1) := dq_4 (dq_w dwm_15 8 rfl)
theorem dX6_refuse_9 : decode cX6_refuse 9 = .ok (.iadd, 1) := dq_96 (dq_w dwm_15 9 rfl)
theorem dX6_refuse_10 : decode cX6_refuse 10 = .ok (.iastore, 1) := dq_79 (dq_w dwm_15 10 rfl)
theorem dX6_refuse_11 : decode cX6_refuse 11 = .ok (.iload_n 1, 1) := dq_27 (dq_w dwm_15 11 rfl)
theorem dX6_refuse_12 : decode cX6_refuse 12 = .ok (.ireturn, 1) := dq_172 (dq_w dwm_15 12 rfl)
theorem dwm_16 : (cX6_isCell.data.toList.drop 0).take 16 = [26, 133, 9, 20, 0, 83, 184, 0, 85, 172] := by decide +kernel
theorem dX6_isCell_0 : decode cX6_isCell 0 = .ok (.iload_n 0, 1) := dq_26 (dq_w dwm_16 0 rfl)
theorem dX6_isCell_1 : decode cX6_isCell 1 = .ok (.i2l, 1) := dq_133 (dq_w dwm_16 1 rfl)
theorem dX6_isCell_2 : decode cX6_isCell 2 = .ok (.lconst 0, 1) := dq_9 (dq_w dwm_16 2 rfl)
theorem dX6_isCell_3 : decode cX6_isCell 3 = .ok (.ldc2_w 83, 3) := dq_20 (dq_w dwm_16 3 rfl) (dq_w dwm_16 4 rfl) (dq_w dwm_16 5 rfl) rfl
theorem dX6_isCell_6 : decode cX6_isCell 6 = .ok (.invokestatic 85, 3) := dq_184 (dq_w dwm_16 6 rfl) (dq_w dwm_16 7 rfl) (dq_w dwm_16 8 rfl) rfl
theorem dX6_isCell_9 : decode cX6_isCell 9 = .ok (.ireturn, 1) := dq_172 (dq_w dwm_16 9 rfl)
theorem dwm_17 : (cX6_isHouse.data.toList.drop 0).take 16 = [27, 133, 9, 42, 180, 0, 89, 4, 100, 133, 184, 0, 85, 172] := by decide +kernel
theorem dX6_isHouse_0 : decode cX6_isHouse 0 = .ok (.iload_n 1, 1) := dq_27 (dq_w dwm_17 0 rfl)
theorem dX6_isHouse_1 : decode cX6_isHouse 1 = .ok (.i2l, 1) := dq_133 (dq_w dwm_17 1 rfl)
theorem dX6_isHouse_2 : decode cX6_isHouse 2 = .ok (.lconst 0, 1) := dq_9 (dq_w dwm_17 2 rfl)
theorem dX6_isHouse_3 : decode cX6_isHouse 3 = .ok (.aload_n 0, 1) := dq_42 (dq_w dwm_17 3 rfl)
theorem dX6_isHouse_4 : decode cX6_isHouse 4 = .ok (.getfield 89, 3) := dq_180 (dq_w dwm_17 4 rfl) (dq_w dwm_17 5 rfl) (dq_w dwm_17 6 rfl) rfl
theorem dX6_isHouse_7 : decode cX6_isHouse 7 = .ok (.iconst 1, 1) := dq_4 (dq_w dwm_17 7 rfl)
theorem dX6_isHouse_8 : decode cX6_isHouse 8 = .ok (.isub, 1) := dq_100 (dq_w dwm_17 8 rfl)
theorem dX6_isHouse_9 : decode cX6_isHouse 9 = .ok (.i2l, 1) := dq_133 (dq_w dwm_17 9 rfl)
theorem dX6_isHouse_10 : decode cX6_isHouse 10 = .ok (.invokestatic 85, 3) := dq_184 (dq_w dwm_17 10 rfl) (dq_w dwm_17 11 rfl) (dq_w dwm_17 12 rfl) rfl
theorem dX6_isHouse_13 : decode cX6_isHouse 13 = .ok (.ireturn, 1) := dq_172 (dq_w dwm_17 13 rfl)
theorem dwm_18 : (cX6_isWalker.data.toList.drop 0).take 16 = [27, 133, 9, 42, 180, 0, 92, 4, 100, 133, 184, 0, 85, 172] := by decide +kernel
theorem dX6_isWalker_0 : decode cX6_isWalker 0 = .ok (.iload_n 1, 1) := dq_27 (dq_w dwm_18 0 rfl)
theorem dX6_isWalker_1 : decode cX6_isWalker 1 = .ok (.i2l, 1) := dq_133 (dq_w dwm_18 1 rfl)
theorem dX6_isWalker_2 : decode cX6_isWalker 2 = .ok (.lconst 0, 1) := dq_9 (dq_w dwm_18 2 rfl)
theorem dX6_isWalker_3 : decode cX6_isWalker 3 = .ok (.aload_n 0, 1) := dq_42 (dq_w dwm_18 3 rfl)
theorem dX6_isWalker_4 : decode cX6_isWalker 4 = .ok (.getfield 92, 3) := dq_180 (dq_w dwm_18 4 rfl) (dq_w dwm_18 5 rfl) (dq_w dwm_18 6 rfl) rfl
theorem dX6_isWalker_7 : decode cX6_isWalker 7 = .ok (.iconst 1, 1) := dq_4 (dq_w dwm_18 7 rfl)
theorem dX6_isWalker_8 : decode cX6_isWalker 8 = .ok (.isub, 1) := dq_100 (dq_w dwm_18 8 rfl)
theorem dX6_isWalker_9 : decode cX6_isWalker 9 = .ok (.i2l, 1) := dq_133 (dq_w dwm_18 9 rfl)
theorem dX6_isWalker_10 : decode cX6_isWalker 10 = .ok (.invokestatic 85, 3) := dq_184 (dq_w dwm_18 10 rfl) (dq_w dwm_18 11 rfl) (dq_w dwm_18 12 rfl) rfl
theorem dX6_isWalker_13 : decode cX6_isWalker 13 = .ok (.ireturn, 1) := dq_172 (dq_w dwm_18 13 rfl)
theorem dwm_19 : (cX6_wrongNumber.data.toList.drop 0).take 16 = [26, 27, 162, 0, 8, 16, 252, 167, 0, 14, 26, 28, 164, 0, 8, 16] := by decide +kernel
theorem dwm_20 : (cX6_wrongNumber.data.toList.drop 16).take 16 = [250, 167, 0, 4, 3, 172] := by decide +kernel
theorem dX6_wrongNumber_0 : decode cX6_wrongNumber 0 = .ok (.iload_n 0, 1) := dq_26 (dq_w dwm_19 0 rfl)
theorem dX6_wrongNumber_1 : decode cX6_wrongNumber 1 = .ok (.iload_n 1, 1) := dq_27 (dq_w dwm_19 1 rfl)
theorem dX6_wrongNumber_2 : decode cX6_wrongNumber 2 = .ok (.if_icmp .ge 8, 3) := dq_162 (dq_w dwm_19 2 rfl) (dq_w dwm_19 3 rfl) (dq_w dwm_19 4 rfl) (dq_p (n := 8) rfl rfl)
theorem dX6_wrongNumber_5 : decode cX6_wrongNumber 5 = .ok (.bipush (-4), 2) := dq_16 (dq_w dwm_19 5 rfl) (dq_w dwm_19 6 rfl) rfl
theorem dX6_wrongNumber_7 : decode cX6_wrongNumber 7 = .ok (.goto 14, 3) := dq_167 (dq_w dwm_19 7 rfl) (dq_w dwm_19 8 rfl) (dq_w dwm_19 9 rfl) (dq_p (n := 14) rfl rfl)
theorem dX6_wrongNumber_10 : decode cX6_wrongNumber 10 = .ok (.iload_n 0, 1) := dq_26 (dq_w dwm_19 10 rfl)
theorem dX6_wrongNumber_11 : decode cX6_wrongNumber 11 = .ok (.iload_n 2, 1) := dq_28 (dq_w dwm_19 11 rfl)
theorem dX6_wrongNumber_12 : decode cX6_wrongNumber 12 = .ok (.if_icmp .le 8, 3) := dq_164 (dq_w dwm_19 12 rfl) (dq_w dwm_19 13 rfl) (dq_w dwm_19 14 rfl) (dq_p (n := 8) rfl rfl)
theorem dX6_wrongNumber_15 : decode cX6_wrongNumber 15 = .ok (.bipush (-6), 2) := dq_16 (dq_w dwm_19 15 rfl) (dq_w dwm_20 0 rfl) rfl
theorem dX6_wrongNumber_17 : decode cX6_wrongNumber 17 = .ok (.goto 4, 3) := dq_167 (dq_w dwm_20 1 rfl) (dq_w dwm_20 2 rfl) (dq_w dwm_20 3 rfl) (dq_p (n := 4) rfl rfl)
theorem dX6_wrongNumber_20 : decode cX6_wrongNumber 20 = .ok (.iconst 0, 1) := dq_3 (dq_w dwm_20 4 rfl)
theorem dX6_wrongNumber_21 : decode cX6_wrongNumber 21 = .ok (.ireturn, 1) := dq_172 (dq_w dwm_20 5 rfl)
theorem dwm_21 : (cX6_wrongBit.data.toList.drop 0).take 16 = [26, 154, 0, 19, 27, 133, 9, 28, 133, 184, 0, 85, 154, 0, 8, 16] := by decide +kernel
theorem dwm_22 : (cX6_wrongBit.data.toList.drop 16).take 16 = [254, 167, 0, 4, 26, 172] := by decide +kernel
theorem dX6_wrongBit_0 : decode cX6_wrongBit 0 = .ok (.iload_n 0, 1) := dq_26 (dq_w dwm_21 0 rfl)
theorem dX6_wrongBit_1 : decode cX6_wrongBit 1 = .ok (.ifCond .ne 19, 3) := dq_154 (dq_w dwm_21 1 rfl) (dq_w dwm_21 2 rfl) (dq_w dwm_21 3 rfl) (dq_p (n := 19) rfl rfl)
theorem dX6_wrongBit_4 : decode cX6_wrongBit 4 = .ok (.iload_n 1, 1) := dq_27 (dq_w dwm_21 4 rfl)
theorem dX6_wrongBit_5 : decode cX6_wrongBit 5 = .ok (.i2l, 1) := dq_133 (dq_w dwm_21 5 rfl)
theorem dX6_wrongBit_6 : decode cX6_wrongBit 6 = .ok (.lconst 0, 1) := dq_9 (dq_w dwm_21 6 rfl)
theorem dX6_wrongBit_7 : decode cX6_wrongBit 7 = .ok (.iload_n 2, 1) := dq_28 (dq_w dwm_21 7 rfl)
theorem dX6_wrongBit_8 : decode cX6_wrongBit 8 = .ok (.i2l, 1) := dq_133 (dq_w dwm_21 8 rfl)
theorem dX6_wrongBit_9 : decode cX6_wrongBit 9 = .ok (.invokestatic 85, 3) := dq_184 (dq_w dwm_21 9 rfl) (dq_w dwm_21 10 rfl) (dq_w dwm_21 11 rfl) rfl
theorem dX6_wrongBit_12 : decode cX6_wrongBit 12 = .ok (.ifCond .ne 8, 3) := dq_154 (dq_w dwm_21 12 rfl) (dq_w dwm_21 13 rfl) (dq_w dwm_21 14 rfl) (dq_p (n := 8) rfl rfl)
theorem dX6_wrongBit_15 : decode cX6_wrongBit 15 = .ok (.bipush (-2), 2) := dq_16 (dq_w dwm_21 15 rfl) (dq_w dwm_22 0 rfl) rfl
theorem dX6_wrongBit_17 : decode cX6_wrongBit 17 = .ok (.goto 4, 3) := dq_167 (dq_w dwm_22 1 rfl) (dq_w dwm_22 2 rfl) (dq_w dwm_22 3 rfl) (dq_p (n := 4) rfl rfl)
theorem dX6_wrongBit_20 : decode cX6_wrongBit 20 = .ok (.iload_n 0, 1) := dq_26 (dq_w dwm_22 4 rfl)
theorem dX6_wrongBit_21 : decode cX6_wrongBit 21 = .ok (.ireturn, 1) := dq_172 (dq_w dwm_22 5 rfl)
theorem dwm_23 : (cX6_hasBit.data.toList.drop 0).take 16 = [26, 27, 122, 4, 126, 4, 160, 0, 7, 4, 167, 0, 4, 3, 172] := by decide +kernel
theorem dX6_hasBit_0 : decode cX6_hasBit 0 = .ok (.iload_n 0, 1) := dq_26 (dq_w dwm_23 0 rfl)
theorem dX6_hasBit_1 : decode cX6_hasBit 1 = .ok (.iload_n 1, 1) := dq_27 (dq_w dwm_23 1 rfl)
theorem dX6_hasBit_2 : decode cX6_hasBit 2 = .ok (.ishr, 1) := dq_122 (dq_w dwm_23 2 rfl)
theorem dX6_hasBit_3 : decode cX6_hasBit 3 = .ok (.iconst 1, 1) := dq_4 (dq_w dwm_23 3 rfl)
theorem dX6_hasBit_4 : decode cX6_hasBit 4 = .ok (.iand, 1) := dq_126 (dq_w dwm_23 4 rfl)
theorem dX6_hasBit_5 : decode cX6_hasBit 5 = .ok (.iconst 1, 1) := dq_4 (dq_w dwm_23 5 rfl)
theorem dX6_hasBit_6 : decode cX6_hasBit 6 = .ok (.if_icmp .ne 7, 3) := dq_160 (dq_w dwm_23 6 rfl) (dq_w dwm_23 7 rfl) (dq_w dwm_23 8 rfl) (dq_p (n := 7) rfl rfl)
theorem dX6_hasBit_9 : decode cX6_hasBit 9 = .ok (.iconst 1, 1) := dq_4 (dq_w dwm_23 9 rfl)
theorem dX6_hasBit_10 : decode cX6_hasBit 10 = .ok (.goto 4, 3) := dq_167 (dq_w dwm_23 10 rfl) (dq_w dwm_23 11 rfl) (dq_w dwm_23 12 rfl) (dq_p (n := 4) rfl rfl)
theorem dX6_hasBit_13 : decode cX6_hasBit 13 = .ok (.iconst 0, 1) := dq_3 (dq_w dwm_23 13 rfl)
theorem dX6_hasBit_14 : decode cX6_hasBit 14 = .ok (.ireturn, 1) := dq_172 (dq_w dwm_23 14 rfl)
theorem dwm_24 : (cX6_onesOf.data.toList.drop 0).take 16 = [3, 60, 26, 61, 28, 153, 0, 15, 132, 1, 1, 28, 28, 4, 100, 126] := by decide +kernel
theorem dwm_25 : (cX6_onesOf.data.toList.drop 16).take 16 = [61, 167, 255, 243, 27, 172] := by decide +kernel
theorem dX6_onesOf_0 : decode cX6_onesOf 0 = .ok (.iconst 0, 1) := dq_3 (dq_w dwm_24 0 rfl)
theorem dX6_onesOf_1 : decode cX6_onesOf 1 = .ok (.istore_n 1, 1) := dq_60 (dq_w dwm_24 1 rfl)
theorem dX6_onesOf_2 : decode cX6_onesOf 2 = .ok (.iload_n 0, 1) := dq_26 (dq_w dwm_24 2 rfl)
theorem dX6_onesOf_3 : decode cX6_onesOf 3 = .ok (.istore_n 2, 1) := dq_61 (dq_w dwm_24 3 rfl)
theorem dX6_onesOf_4 : decode cX6_onesOf 4 = .ok (.iload_n 2, 1) := dq_28 (dq_w dwm_24 4 rfl)
theorem dX6_onesOf_5 : decode cX6_onesOf 5 = .ok (.ifCond .eq 15, 3) := dq_153 (dq_w dwm_24 5 rfl) (dq_w dwm_24 6 rfl) (dq_w dwm_24 7 rfl) (dq_p (n := 15) rfl rfl)
theorem dX6_onesOf_8 : decode cX6_onesOf 8 = .ok (.iinc 1 1, 3) := dq_132 (dq_w dwm_24 8 rfl) (dq_w dwm_24 9 rfl) rfl (dq_w dwm_24 10 rfl) rfl
theorem dX6_onesOf_11 : decode cX6_onesOf 11 = .ok (.iload_n 2, 1) := dq_28 (dq_w dwm_24 11 rfl)
theorem dX6_onesOf_12 : decode cX6_onesOf 12 = .ok (.iload_n 2, 1) := dq_28 (dq_w dwm_24 12 rfl)
theorem dX6_onesOf_13 : decode cX6_onesOf 13 = .ok (.iconst 1, 1) := dq_4 (dq_w dwm_24 13 rfl)
theorem dX6_onesOf_14 : decode cX6_onesOf 14 = .ok (.isub, 1) := dq_100 (dq_w dwm_24 14 rfl)
theorem dX6_onesOf_15 : decode cX6_onesOf 15 = .ok (.iand, 1) := dq_126 (dq_w dwm_24 15 rfl)
theorem dX6_onesOf_16 : decode cX6_onesOf 16 = .ok (.istore_n 2, 1) := dq_61 (dq_w dwm_25 0 rfl)
theorem dX6_onesOf_17 : decode cX6_onesOf 17 = .ok (.goto (-13), 3) := dq_167 (dq_w dwm_25 1 rfl) (dq_w dwm_25 2 rfl) (dq_w dwm_25 3 rfl) (dq_n (m := 13) rfl rfl)
theorem dX6_onesOf_20 : decode cX6_onesOf 20 = .ok (.iload_n 1, 1) := dq_27 (dq_w dwm_25 4 rfl)
theorem dX6_onesOf_21 : decode cX6_onesOf 21 = .ok (.ireturn, 1) := dq_172 (dq_w dwm_25 5 rfl)
theorem dwm_26 : (cX6_apartBy.data.toList.drop 0).take 16 = [26, 27, 164, 0, 9, 26, 27, 100, 167, 0, 6, 27, 26, 100, 172] := by decide +kernel
theorem dX6_apartBy_0 : decode cX6_apartBy 0 = .ok (.iload_n 0, 1) := dq_26 (dq_w dwm_26 0 rfl)
theorem dX6_apartBy_1 : decode cX6_apartBy 1 = .ok (.iload_n 1, 1) := dq_27 (dq_w dwm_26 1 rfl)
theorem dX6_apartBy_2 : decode cX6_apartBy 2 = .ok (.if_icmp .le 9, 3) := dq_164 (dq_w dwm_26 2 rfl) (dq_w dwm_26 3 rfl) (dq_w dwm_26 4 rfl) (dq_p (n := 9) rfl rfl)
theorem dX6_apartBy_5 : decode cX6_apartBy 5 = .ok (.iload_n 0, 1) := dq_26 (dq_w dwm_26 5 rfl)
theorem dX6_apartBy_6 : decode cX6_apartBy 6 = .ok (.iload_n 1, 1) := dq_27 (dq_w dwm_26 6 rfl)
theorem dX6_apartBy_7 : decode cX6_apartBy 7 = .ok (.isub, 1) := dq_100 (dq_w dwm_26 7 rfl)
theorem dX6_apartBy_8 : decode cX6_apartBy 8 = .ok (.goto 6, 3) := dq_167 (dq_w dwm_26 8 rfl) (dq_w dwm_26 9 rfl) (dq_w dwm_26 10 rfl) (dq_p (n := 6) rfl rfl)
theorem dX6_apartBy_11 : decode cX6_apartBy 11 = .ok (.iload_n 1, 1) := dq_27 (dq_w dwm_26 11 rfl)
theorem dX6_apartBy_12 : decode cX6_apartBy 12 = .ok (.iload_n 0, 1) := dq_26 (dq_w dwm_26 12 rfl)
theorem dX6_apartBy_13 : decode cX6_apartBy 13 = .ok (.isub, 1) := dq_100 (dq_w dwm_26 13 rfl)
theorem dX6_apartBy_14 : decode cX6_apartBy 14 = .ok (.ireturn, 1) := dq_172 (dq_w dwm_26 14 rfl)
theorem dwm_27 : (cX6_stepsOf.data.toList.drop 0).take 16 = [26, 16, 7, 108, 27, 16, 7, 108, 184, 0, 95, 26, 16, 7, 112, 27] := by decide +kernel
theorem dwm_28 : (cX6_stepsOf.data.toList.drop 16).take 16 = [16, 7, 112, 184, 0, 95, 96, 172] := by decide +kernel
theorem dX6_stepsOf_0 : decode cX6_stepsOf 0 = .ok (.iload_n 0, 1) := dq_26 (dq_w dwm_27 0 rfl)
theorem dX6_stepsOf_1 : decode cX6_stepsOf 1 = .ok (.bipush 7, 2) := dq_16 (dq_w dwm_27 1 rfl) (dq_w dwm_27 2 rfl) rfl
theorem dX6_stepsOf_3 : decode cX6_stepsOf 3 = .ok (.idiv, 1) := dq_108 (dq_w dwm_27 3 rfl)
theorem dX6_stepsOf_4 : decode cX6_stepsOf 4 = .ok (.iload_n 1, 1) := dq_27 (dq_w dwm_27 4 rfl)
theorem dX6_stepsOf_5 : decode cX6_stepsOf 5 = .ok (.bipush 7, 2) := dq_16 (dq_w dwm_27 5 rfl) (dq_w dwm_27 6 rfl) rfl
theorem dX6_stepsOf_7 : decode cX6_stepsOf 7 = .ok (.idiv, 1) := dq_108 (dq_w dwm_27 7 rfl)
theorem dX6_stepsOf_8 : decode cX6_stepsOf 8 = .ok (.invokestatic 95, 3) := dq_184 (dq_w dwm_27 8 rfl) (dq_w dwm_27 9 rfl) (dq_w dwm_27 10 rfl) rfl
theorem dX6_stepsOf_11 : decode cX6_stepsOf 11 = .ok (.iload_n 0, 1) := dq_26 (dq_w dwm_27 11 rfl)
theorem dX6_stepsOf_12 : decode cX6_stepsOf 12 = .ok (.bipush 7, 2) := dq_16 (dq_w dwm_27 12 rfl) (dq_w dwm_27 13 rfl) rfl
theorem dX6_stepsOf_14 : decode cX6_stepsOf 14 = .ok (.irem, 1) := dq_112 (dq_w dwm_27 14 rfl)
theorem dX6_stepsOf_15 : decode cX6_stepsOf 15 = .ok (.iload_n 1, 1) := dq_27 (dq_w dwm_27 15 rfl)
theorem dX6_stepsOf_16 : decode cX6_stepsOf 16 = .ok (.bipush 7, 2) := dq_16 (dq_w dwm_28 0 rfl) (dq_w dwm_28 1 rfl) rfl
theorem dX6_stepsOf_18 : decode cX6_stepsOf 18 = .ok (.irem, 1) := dq_112 (dq_w dwm_28 2 rfl)
theorem dX6_stepsOf_19 : decode cX6_stepsOf 19 = .ok (.invokestatic 95, 3) := dq_184 (dq_w dwm_28 3 rfl) (dq_w dwm_28 4 rfl) (dq_w dwm_28 5 rfl) rfl
theorem dX6_stepsOf_22 : decode cX6_stepsOf 22 = .ok (.iadd, 1) := dq_96 (dq_w dwm_28 6 rfl)
theorem dX6_stepsOf_23 : decode cX6_stepsOf 23 = .ok (.ireturn, 1) := dq_172 (dq_w dwm_28 7 rfl)
theorem dwm_29 : (cX6_reachOf.data.toList.drop 0).take 16 = [42, 180, 0, 7, 27, 46, 170, 0, 0, 0, 0, 62, 0, 0, 0, 1] := by decide +kernel
theorem dwm_30 : (cX6_reachOf.data.toList.drop 32).take 16 = [0, 0, 0, 49, 0, 0, 0, 51, 6, 172, 3, 172, 5, 42, 180, 0] := by decide +kernel
theorem dwm_31 : (cX6_reachOf.data.toList.drop 48).take 16 = [13, 27, 46, 5, 108, 96, 172, 4, 172, 7, 42, 180, 0, 13, 27, 46] := by decide +kernel
theorem dwm_32 : (cX6_reachOf.data.toList.drop 64).take 16 = [5, 108, 96, 172, 5, 172] := by decide +kernel
theorem dX6_reachOf_0 : decode cX6_reachOf 0 = .ok (.aload_n 0, 1) := dq_42 (dq_w dwm_29 0 rfl)
theorem dX6_reachOf_1 : decode cX6_reachOf 1 = .ok (.getfield 7, 3) := dq_180 (dq_w dwm_29 1 rfl) (dq_w dwm_29 2 rfl) (dq_w dwm_29 3 rfl) rfl
theorem dX6_reachOf_4 : decode cX6_reachOf 4 = .ok (.iload_n 1, 1) := dq_27 (dq_w dwm_29 4 rfl)
theorem dX6_reachOf_5 : decode cX6_reachOf 5 = .ok (.iaload, 1) := dq_46 (dq_w dwm_29 5 rfl)
theorem dX6_reachOf_6 : decode cX6_reachOf 6 = .ok (.tableswitch 62 1 5 #[34, 36, 38, 49, 51], 34) := by decide +kernel
theorem dX6_reachOf_40 : decode cX6_reachOf 40 = .ok (.iconst 3, 1) := dq_6 (dq_w dwm_30 8 rfl)
theorem dX6_reachOf_41 : decode cX6_reachOf 41 = .ok (.ireturn, 1) := dq_172 (dq_w dwm_30 9 rfl)
theorem dX6_reachOf_42 : decode cX6_reachOf 42 = .ok (.iconst 0, 1) := dq_3 (dq_w dwm_30 10 rfl)
theorem dX6_reachOf_43 : decode cX6_reachOf 43 = .ok (.ireturn, 1) := dq_172 (dq_w dwm_30 11 rfl)
theorem dX6_reachOf_44 : decode cX6_reachOf 44 = .ok (.iconst 2, 1) := dq_5 (dq_w dwm_30 12 rfl)
theorem dX6_reachOf_45 : decode cX6_reachOf 45 = .ok (.aload_n 0, 1) := dq_42 (dq_w dwm_30 13 rfl)
theorem dX6_reachOf_46 : decode cX6_reachOf 46 = .ok (.getfield 13, 3) := dq_180 (dq_w dwm_30 14 rfl) (dq_w dwm_30 15 rfl) (dq_w dwm_31 0 rfl) rfl
theorem dX6_reachOf_49 : decode cX6_reachOf 49 = .ok (.iload_n 1, 1) := dq_27 (dq_w dwm_31 1 rfl)
theorem dX6_reachOf_50 : decode cX6_reachOf 50 = .ok (.iaload, 1) := dq_46 (dq_w dwm_31 2 rfl)
theorem dX6_reachOf_51 : decode cX6_reachOf 51 = .ok (.iconst 2, 1) := dq_5 (dq_w dwm_31 3 rfl)
theorem dX6_reachOf_52 : decode cX6_reachOf 52 = .ok (.idiv, 1) := dq_108 (dq_w dwm_31 4 rfl)
theorem dX6_reachOf_53 : decode cX6_reachOf 53 = .ok (.iadd, 1) := dq_96 (dq_w dwm_31 5 rfl)
theorem dX6_reachOf_54 : decode cX6_reachOf 54 = .ok (.ireturn, 1) := dq_172 (dq_w dwm_31 6 rfl)
theorem dX6_reachOf_55 : decode cX6_reachOf 55 = .ok (.iconst 1, 1) := dq_4 (dq_w dwm_31 7 rfl)
theorem dX6_reachOf_56 : decode cX6_reachOf 56 = .ok (.ireturn, 1) := dq_172 (dq_w dwm_31 8 rfl)
theorem dX6_reachOf_57 : decode cX6_reachOf 57 = .ok (.iconst 4, 1) := dq_7 (dq_w dwm_31 9 rfl)
theorem dX6_reachOf_58 : decode cX6_reachOf 58 = .ok (.aload_n 0, 1) := dq_42 (dq_w dwm_31 10 rfl)
theorem dX6_reachOf_59 : decode cX6_reachOf 59 = .ok (.getfield 13, 3) := dq_180 (dq_w dwm_31 11 rfl) (dq_w dwm_31 12 rfl) (dq_w dwm_31 13 rfl) rfl
theorem dX6_reachOf_62 : decode cX6_reachOf 62 = .ok (.iload_n 1, 1) := dq_27 (dq_w dwm_31 14 rfl)
theorem dX6_reachOf_63 : decode cX6_reachOf 63 = .ok (.iaload, 1) := dq_46 (dq_w dwm_31 15 rfl)
theorem dX6_reachOf_64 : decode cX6_reachOf 64 = .ok (.iconst 2, 1) := dq_5 (dq_w dwm_32 0 rfl)
theorem dX6_reachOf_65 : decode cX6_reachOf 65 = .ok (.idiv, 1) := dq_108 (dq_w dwm_32 1 rfl)
theorem dX6_reachOf_66 : decode cX6_reachOf 66 = .ok (.iadd, 1) := dq_96 (dq_w dwm_32 2 rfl)
theorem dX6_reachOf_67 : decode cX6_reachOf 67 = .ok (.ireturn, 1) := dq_172 (dq_w dwm_32 3 rfl)
theorem dX6_reachOf_68 : decode cX6_reachOf 68 = .ok (.iconst 2, 1) := dq_5 (dq_w dwm_32 4 rfl)
theorem dX6_reachOf_69 : decode cX6_reachOf 69 = .ok (.ireturn, 1) := dq_172 (dq_w dwm_32 5 rfl)
theorem dwm_33 : (cX6_minutesOf.data.toList.drop 0).take 16 = [42, 180, 0, 13, 27, 46, 8, 96, 62, 42, 180, 0, 7, 27, 46, 170] := by decide +kernel
theorem dwm_34 : (cX6_minutesOf.data.toList.drop 48).take 16 = [5, 29, 104, 172, 29, 5, 108, 172, 29, 16, 20, 96, 172, 29, 5, 108] := by decide +kernel
theorem dwm_35 : (cX6_minutesOf.data.toList.drop 64).take 16 = [28, 96, 172, 29, 16, 20, 96, 5, 28, 104, 96, 172, 29, 172] := by decide +kernel
theorem dX6_minutesOf_0 : decode cX6_minutesOf 0 = .ok (.aload_n 0, 1) := dq_42 (dq_w dwm_33 0 rfl)
theorem dX6_minutesOf_1 : decode cX6_minutesOf 1 = .ok (.getfield 13, 3) := dq_180 (dq_w dwm_33 1 rfl) (dq_w dwm_33 2 rfl) (dq_w dwm_33 3 rfl) rfl
theorem dX6_minutesOf_4 : decode cX6_minutesOf 4 = .ok (.iload_n 1, 1) := dq_27 (dq_w dwm_33 4 rfl)
theorem dX6_minutesOf_5 : decode cX6_minutesOf 5 = .ok (.iaload, 1) := dq_46 (dq_w dwm_33 5 rfl)
theorem dX6_minutesOf_6 : decode cX6_minutesOf 6 = .ok (.iconst 5, 1) := dq_8 (dq_w dwm_33 6 rfl)
theorem dX6_minutesOf_7 : decode cX6_minutesOf 7 = .ok (.iadd, 1) := dq_96 (dq_w dwm_33 7 rfl)
theorem dX6_minutesOf_8 : decode cX6_minutesOf 8 = .ok (.istore_n 3, 1) := dq_62 (dq_w dwm_33 8 rfl)
theorem dX6_minutesOf_9 : decode cX6_minutesOf 9 = .ok (.aload_n 0, 1) := dq_42 (dq_w dwm_33 9 rfl)
theorem dX6_minutesOf_10 : decode cX6_minutesOf 10 = .ok (.getfield 7, 3) := dq_180 (dq_w dwm_33 10 rfl) (dq_w dwm_33 11 rfl) (dq_w dwm_33 12 rfl) rfl
theorem dX6_minutesOf_13 : decode cX6_minutesOf 13 = .ok (.iload_n 1, 1) := dq_27 (dq_w dwm_33 13 rfl)
theorem dX6_minutesOf_14 : decode cX6_minutesOf 14 = .ok (.iaload, 1) := dq_46 (dq_w dwm_33 14 rfl)
theorem dX6_minutesOf_15 : decode cX6_minutesOf 15 = .ok (.tableswitch 61 1 5 #[33, 37, 41, 46, 52], 33) := by decide +kernel
theorem dX6_minutesOf_48 : decode cX6_minutesOf 48 = .ok (.iconst 2, 1) := dq_5 (dq_w dwm_34 0 rfl)
theorem dX6_minutesOf_49 : decode cX6_minutesOf 49 = .ok (.iload_n 3, 1) := dq_29 (dq_w dwm_34 1 rfl)
theorem dX6_minutesOf_50 : decode cX6_minutesOf 50 = .ok (.imul, 1) := dq_104 (dq_w dwm_34 2 rfl)
theorem dX6_minutesOf_51 : decode cX6_minutesOf 51 = .ok (.ireturn, 1) := dq_172 (dq_w dwm_34 3 rfl)
theorem dX6_minutesOf_52 : decode cX6_minutesOf 52 = .ok (.iload_n 3, 1) := dq_29 (dq_w dwm_34 4 rfl)
theorem dX6_minutesOf_53 : decode cX6_minutesOf 53 = .ok (.iconst 2, 1) := dq_5 (dq_w dwm_34 5 rfl)
theorem dX6_minutesOf_54 : decode cX6_minutesOf 54 = .ok (.idiv, 1) := dq_108 (dq_w dwm_34 6 rfl)
theorem dX6_minutesOf_55 : decode cX6_minutesOf 55 = .ok (.ireturn, 1) := dq_172 (dq_w dwm_34 7 rfl)
theorem dX6_minutesOf_56 : decode cX6_minutesOf 56 = .ok (.iload_n 3, 1) := dq_29 (dq_w dwm_34 8 rfl)
theorem dX6_minutesOf_57 : decode cX6_minutesOf 57 = .ok (.bipush 20, 2) := dq_16 (dq_w dwm_34 9 rfl) (dq_w dwm_34 10 rfl) rfl
theorem dX6_minutesOf_59 : decode cX6_minutesOf 59 = .ok (.iadd, 1) := dq_96 (dq_w dwm_34 11 rfl)
theorem dX6_minutesOf_60 : decode cX6_minutesOf 60 = .ok (.ireturn, 1) := dq_172 (dq_w dwm_34 12 rfl)
theorem dX6_minutesOf_61 : decode cX6_minutesOf 61 = .ok (.iload_n 3, 1) := dq_29 (dq_w dwm_34 13 rfl)
theorem dX6_minutesOf_62 : decode cX6_minutesOf 62 = .ok (.iconst 2, 1) := dq_5 (dq_w dwm_34 14 rfl)
theorem dX6_minutesOf_63 : decode cX6_minutesOf 63 = .ok (.idiv, 1) := dq_108 (dq_w dwm_34 15 rfl)
theorem dX6_minutesOf_64 : decode cX6_minutesOf 64 = .ok (.iload_n 2, 1) := dq_28 (dq_w dwm_35 0 rfl)
theorem dX6_minutesOf_65 : decode cX6_minutesOf 65 = .ok (.iadd, 1) := dq_96 (dq_w dwm_35 1 rfl)
theorem dX6_minutesOf_66 : decode cX6_minutesOf 66 = .ok (.ireturn, 1) := dq_172 (dq_w dwm_35 2 rfl)
theorem dX6_minutesOf_67 : decode cX6_minutesOf 67 = .ok (.iload_n 3, 1) := dq_29 (dq_w dwm_35 3 rfl)
theorem dX6_minutesOf_68 : decode cX6_minutesOf 68 = .ok (.bipush 20, 2) := dq_16 (dq_w dwm_35 4 rfl) (dq_w dwm_35 5 rfl) rfl
theorem dX6_minutesOf_70 : decode cX6_minutesOf 70 = .ok (.iadd, 1) := dq_96 (dq_w dwm_35 6 rfl)
theorem dX6_minutesOf_71 : decode cX6_minutesOf 71 = .ok (.iconst 2, 1) := dq_5 (dq_w dwm_35 7 rfl)
theorem dX6_minutesOf_72 : decode cX6_minutesOf 72 = .ok (.iload_n 2, 1) := dq_28 (dq_w dwm_35 8 rfl)
theorem dX6_minutesOf_73 : decode cX6_minutesOf 73 = .ok (.imul, 1) := dq_104 (dq_w dwm_35 9 rfl)
theorem dX6_minutesOf_74 : decode cX6_minutesOf 74 = .ok (.iadd, 1) := dq_96 (dq_w dwm_35 10 rfl)
theorem dX6_minutesOf_75 : decode cX6_minutesOf 75 = .ok (.ireturn, 1) := dq_172 (dq_w dwm_35 11 rfl)
theorem dX6_minutesOf_76 : decode cX6_minutesOf 76 = .ok (.iload_n 3, 1) := dq_29 (dq_w dwm_35 12 rfl)
theorem dX6_minutesOf_77 : decode cX6_minutesOf 77 = .ok (.ireturn, 1) := dq_172 (dq_w dwm_35 13 rfl)
theorem dwm_36 : (cX6_canSee.data.toList.drop 0).take 16 = [42, 180, 0, 28, 27, 46, 5, 160, 0, 11, 42, 29, 182, 0, 99, 167] := by decide +kernel
theorem dwm_37 : (cX6_canSee.data.toList.drop 16).take 16 = [0, 24, 42, 180, 0, 28, 27, 46, 4, 160, 0, 13, 42, 29, 182, 0] := by decide +kernel
theorem dwm_38 : (cX6_canSee.data.toList.drop 32).take 16 = [99, 5, 108, 167, 0, 4, 2, 54, 4, 42, 180, 0, 19, 29, 46, 4] := by decide +kernel
theorem dwm_39 : (cX6_canSee.data.toList.drop 48).take 16 = [160, 0, 22, 28, 42, 180, 0, 16, 29, 46, 184, 0, 103, 21, 4, 163] := by decide +kernel
theorem dwm_40 : (cX6_canSee.data.toList.drop 64).take 16 = [0, 7, 4, 167, 0, 4, 3, 172] := by decide +kernel
theorem dX6_canSee_0 : decode cX6_canSee 0 = .ok (.aload_n 0, 1) := dq_42 (dq_w dwm_36 0 rfl)
theorem dX6_canSee_1 : decode cX6_canSee 1 = .ok (.getfield 28, 3) := dq_180 (dq_w dwm_36 1 rfl) (dq_w dwm_36 2 rfl) (dq_w dwm_36 3 rfl) rfl
theorem dX6_canSee_4 : decode cX6_canSee 4 = .ok (.iload_n 1, 1) := dq_27 (dq_w dwm_36 4 rfl)
theorem dX6_canSee_5 : decode cX6_canSee 5 = .ok (.iaload, 1) := dq_46 (dq_w dwm_36 5 rfl)
theorem dX6_canSee_6 : decode cX6_canSee 6 = .ok (.iconst 2, 1) := dq_5 (dq_w dwm_36 6 rfl)
theorem dX6_canSee_7 : decode cX6_canSee 7 = .ok (.if_icmp .ne 11, 3) := dq_160 (dq_w dwm_36 7 rfl) (dq_w dwm_36 8 rfl) (dq_w dwm_36 9 rfl) (dq_p (n := 11) rfl rfl)
theorem dX6_canSee_10 : decode cX6_canSee 10 = .ok (.aload_n 0, 1) := dq_42 (dq_w dwm_36 10 rfl)
theorem dX6_canSee_11 : decode cX6_canSee 11 = .ok (.iload_n 3, 1) := dq_29 (dq_w dwm_36 11 rfl)
theorem dX6_canSee_12 : decode cX6_canSee 12 = .ok (.invokevirtual 99, 3) := dq_182 (dq_w dwm_36 12 rfl) (dq_w dwm_36 13 rfl) (dq_w dwm_36 14 rfl) rfl
theorem dX6_canSee_15 : decode cX6_canSee 15 = .ok (.goto 24, 3) := dq_167 (dq_w dwm_36 15 rfl) (dq_w dwm_37 0 rfl) (dq_w dwm_37 1 rfl) (dq_p (n := 24) rfl rfl)
theorem dX6_canSee_18 : decode cX6_canSee 18 = .ok (.aload_n 0, 1) := dq_42 (dq_w dwm_37 2 rfl)
theorem dX6_canSee_19 : decode cX6_canSee 19 = .ok (.getfield 28, 3) := dq_180 (dq_w dwm_37 3 rfl) (dq_w dwm_37 4 rfl) (dq_w dwm_37 5 rfl) rfl
theorem dX6_canSee_22 : decode cX6_canSee 22 = .ok (.iload_n 1, 1) := dq_27 (dq_w dwm_37 6 rfl)
theorem dX6_canSee_23 : decode cX6_canSee 23 = .ok (.iaload, 1) := dq_46 (dq_w dwm_37 7 rfl)
theorem dX6_canSee_24 : decode cX6_canSee 24 = .ok (.iconst 1, 1) := dq_4 (dq_w dwm_37 8 rfl)
theorem dX6_canSee_25 : decode cX6_canSee 25 = .ok (.if_icmp .ne 13, 3) := dq_160 (dq_w dwm_37 9 rfl) (dq_w dwm_37 10 rfl) (dq_w dwm_37 11 rfl) (dq_p (n := 13) rfl rfl)
theorem dX6_canSee_28 : decode cX6_canSee 28 = .ok (.aload_n 0, 1) := dq_42 (dq_w dwm_37 12 rfl)
theorem dX6_canSee_29 : decode cX6_canSee 29 = .ok (.iload_n 3, 1) := dq_29 (dq_w dwm_37 13 rfl)
theorem dX6_canSee_30 : decode cX6_canSee 30 = .ok (.invokevirtual 99, 3) := dq_182 (dq_w dwm_37 14 rfl) (dq_w dwm_37 15 rfl) (dq_w dwm_38 0 rfl) rfl
theorem dX6_canSee_33 : decode cX6_canSee 33 = .ok (.iconst 2, 1) := dq_5 (dq_w dwm_38 1 rfl)
theorem dX6_canSee_34 : decode cX6_canSee 34 = .ok (.idiv, 1) := dq_108 (dq_w dwm_38 2 rfl)
theorem dX6_canSee_35 : decode cX6_canSee 35 = .ok (.goto 4, 3) := dq_167 (dq_w dwm_38 3 rfl) (dq_w dwm_38 4 rfl) (dq_w dwm_38 5 rfl) (dq_p (n := 4) rfl rfl)
theorem dX6_canSee_38 : decode cX6_canSee 38 = .ok (.iconst (-1), 1) := dq_2 (dq_w dwm_38 6 rfl)
theorem dX6_canSee_39 : decode cX6_canSee 39 = .ok (.istore 4, 2) := dq_54 (dq_w dwm_38 7 rfl) (dq_w dwm_38 8 rfl) rfl
theorem dX6_canSee_41 : decode cX6_canSee 41 = .ok (.aload_n 0, 1) := dq_42 (dq_w dwm_38 9 rfl)
theorem dX6_canSee_42 : decode cX6_canSee 42 = .ok (.getfield 19, 3) := dq_180 (dq_w dwm_38 10 rfl) (dq_w dwm_38 11 rfl) (dq_w dwm_38 12 rfl) rfl
theorem dX6_canSee_45 : decode cX6_canSee 45 = .ok (.iload_n 3, 1) := dq_29 (dq_w dwm_38 13 rfl)
theorem dX6_canSee_46 : decode cX6_canSee 46 = .ok (.iaload, 1) := dq_46 (dq_w dwm_38 14 rfl)
theorem dX6_canSee_47 : decode cX6_canSee 47 = .ok (.iconst 1, 1) := dq_4 (dq_w dwm_38 15 rfl)
theorem dX6_canSee_48 : decode cX6_canSee 48 = .ok (.if_icmp .ne 22, 3) := dq_160 (dq_w dwm_39 0 rfl) (dq_w dwm_39 1 rfl) (dq_w dwm_39 2 rfl) (dq_p (n := 22) rfl rfl)
theorem dX6_canSee_51 : decode cX6_canSee 51 = .ok (.iload_n 2, 1) := dq_28 (dq_w dwm_39 3 rfl)
theorem dX6_canSee_52 : decode cX6_canSee 52 = .ok (.aload_n 0, 1) := dq_42 (dq_w dwm_39 4 rfl)
theorem dX6_canSee_53 : decode cX6_canSee 53 = .ok (.getfield 16, 3) := dq_180 (dq_w dwm_39 5 rfl) (dq_w dwm_39 6 rfl) (dq_w dwm_39 7 rfl) rfl
theorem dX6_canSee_56 : decode cX6_canSee 56 = .ok (.iload_n 3, 1) := dq_29 (dq_w dwm_39 8 rfl)
theorem dX6_canSee_57 : decode cX6_canSee 57 = .ok (.iaload, 1) := dq_46 (dq_w dwm_39 9 rfl)
theorem dX6_canSee_58 : decode cX6_canSee 58 = .ok (.invokestatic 103, 3) := dq_184 (dq_w dwm_39 10 rfl) (dq_w dwm_39 11 rfl) (dq_w dwm_39 12 rfl) rfl
theorem dX6_canSee_61 : decode cX6_canSee 61 = .ok (.iload 4, 2) := dq_21 (dq_w dwm_39 13 rfl) (dq_w dwm_39 14 rfl) rfl
theorem dX6_canSee_63 : decode cX6_canSee 63 = .ok (.if_icmp .gt 7, 3) := dq_163 (dq_w dwm_39 15 rfl) (dq_w dwm_40 0 rfl) (dq_w dwm_40 1 rfl) (dq_p (n := 7) rfl rfl)
theorem dX6_canSee_66 : decode cX6_canSee 66 = .ok (.iconst 1, 1) := dq_4 (dq_w dwm_40 2 rfl)
theorem dX6_canSee_67 : decode cX6_canSee 67 = .ok (.goto 4, 3) := dq_167 (dq_w dwm_40 3 rfl) (dq_w dwm_40 4 rfl) (dq_w dwm_40 5 rfl) (dq_p (n := 4) rfl rfl)
theorem dX6_canSee_70 : decode cX6_canSee 70 = .ok (.iconst 0, 1) := dq_3 (dq_w dwm_40 6 rfl)
theorem dX6_canSee_71 : decode cX6_canSee 71 = .ok (.ireturn, 1) := dq_172 (dq_w dwm_40 7 rfl)
theorem dwm_41 : (cX6_seenFrom.data.toList.drop 0).take 16 = [3, 62, 3, 54, 4, 21, 4, 42, 180, 0, 89, 162, 0, 31, 29, 42] := by decide +kernel
theorem dwm_42 : (cX6_seenFrom.data.toList.drop 16).take 16 = [27, 28, 21, 4, 182, 0, 106, 153, 0, 10, 4, 21, 4, 120, 167, 0] := by decide +kernel
theorem dwm_43 : (cX6_seenFrom.data.toList.drop 32).take 16 = [4, 3, 128, 62, 132, 4, 1, 167, 255, 222, 29, 172] := by decide +kernel
theorem dX6_seenFrom_0 : decode cX6_seenFrom 0 = .ok (.iconst 0, 1) := dq_3 (dq_w dwm_41 0 rfl)
theorem dX6_seenFrom_1 : decode cX6_seenFrom 1 = .ok (.istore_n 3, 1) := dq_62 (dq_w dwm_41 1 rfl)
theorem dX6_seenFrom_2 : decode cX6_seenFrom 2 = .ok (.iconst 0, 1) := dq_3 (dq_w dwm_41 2 rfl)
theorem dX6_seenFrom_3 : decode cX6_seenFrom 3 = .ok (.istore 4, 2) := dq_54 (dq_w dwm_41 3 rfl) (dq_w dwm_41 4 rfl) rfl
theorem dX6_seenFrom_5 : decode cX6_seenFrom 5 = .ok (.iload 4, 2) := dq_21 (dq_w dwm_41 5 rfl) (dq_w dwm_41 6 rfl) rfl
theorem dX6_seenFrom_7 : decode cX6_seenFrom 7 = .ok (.aload_n 0, 1) := dq_42 (dq_w dwm_41 7 rfl)
theorem dX6_seenFrom_8 : decode cX6_seenFrom 8 = .ok (.getfield 89, 3) := dq_180 (dq_w dwm_41 8 rfl) (dq_w dwm_41 9 rfl) (dq_w dwm_41 10 rfl) rfl
theorem dX6_seenFrom_11 : decode cX6_seenFrom 11 = .ok (.if_icmp .ge 31, 3) := dq_162 (dq_w dwm_41 11 rfl) (dq_w dwm_41 12 rfl) (dq_w dwm_41 13 rfl) (dq_p (n := 31) rfl rfl)
theorem dX6_seenFrom_14 : decode cX6_seenFrom 14 = .ok (.iload_n 3, 1) := dq_29 (dq_w dwm_41 14 rfl)
theorem dX6_seenFrom_15 : decode cX6_seenFrom 15 = .ok (.aload_n 0, 1) := dq_42 (dq_w dwm_41 15 rfl)
theorem dX6_seenFrom_16 : decode cX6_seenFrom 16 = .ok (.iload_n 1, 1) := dq_27 (dq_w dwm_42 0 rfl)
theorem dX6_seenFrom_17 : decode cX6_seenFrom 17 = .ok (.iload_n 2, 1) := dq_28 (dq_w dwm_42 1 rfl)
theorem dX6_seenFrom_18 : decode cX6_seenFrom 18 = .ok (.iload 4, 2) := dq_21 (dq_w dwm_42 2 rfl) (dq_w dwm_42 3 rfl) rfl
theorem dX6_seenFrom_20 : decode cX6_seenFrom 20 = .ok (.invokevirtual 106, 3) := dq_182 (dq_w dwm_42 4 rfl) (dq_w dwm_42 5 rfl) (dq_w dwm_42 6 rfl) rfl
theorem dX6_seenFrom_23 : decode cX6_seenFrom 23 = .ok (.ifCond .eq 10, 3) := dq_153 (dq_w dwm_42 7 rfl) (dq_w dwm_42 8 rfl) (dq_w dwm_42 9 rfl) (dq_p (n := 10) rfl rfl)
theorem dX6_seenFrom_26 : decode cX6_seenFrom 26 = .ok (.iconst 1, 1) := dq_4 (dq_w dwm_42 10 rfl)
theorem dX6_seenFrom_27 : decode cX6_seenFrom 27 = .ok (.iload 4, 2) := dq_21 (dq_w dwm_42 11 rfl) (dq_w dwm_42 12 rfl) rfl
theorem dX6_seenFrom_29 : decode cX6_seenFrom 29 = .ok (.ishl, 1) := dq_120 (dq_w dwm_42 13 rfl)
theorem dX6_seenFrom_30 : decode cX6_seenFrom 30 = .ok (.goto 4, 3) := dq_167 (dq_w dwm_42 14 rfl) (dq_w dwm_42 15 rfl) (dq_w dwm_43 0 rfl) (dq_p (n := 4) rfl rfl)
theorem dX6_seenFrom_33 : decode cX6_seenFrom 33 = .ok (.iconst 0, 1) := dq_3 (dq_w dwm_43 1 rfl)
theorem dX6_seenFrom_34 : decode cX6_seenFrom 34 = .ok (.ior, 1) := dq_128 (dq_w dwm_43 2 rfl)
theorem dX6_seenFrom_35 : decode cX6_seenFrom 35 = .ok (.istore_n 3, 1) := dq_62 (dq_w dwm_43 3 rfl)
theorem dX6_seenFrom_36 : decode cX6_seenFrom 36 = .ok (.iinc 4 1, 3) := dq_132 (dq_w dwm_43 4 rfl) (dq_w dwm_43 5 rfl) rfl (dq_w dwm_43 6 rfl) rfl
theorem dX6_seenFrom_39 : decode cX6_seenFrom 39 = .ok (.goto (-34), 3) := dq_167 (dq_w dwm_43 7 rfl) (dq_w dwm_43 8 rfl) (dq_w dwm_43 9 rfl) (dq_n (m := 34) rfl rfl)
theorem dX6_seenFrom_42 : decode cX6_seenFrom 42 = .ok (.iload_n 3, 1) := dq_29 (dq_w dwm_43 10 rfl)
theorem dX6_seenFrom_43 : decode cX6_seenFrom 43 = .ok (.ireturn, 1) := dq_172 (dq_w dwm_43 11 rfl)
theorem dwm_44 : (cX6_owesBits.data.toList.drop 0).take 16 = [3, 61, 3, 62, 29, 42, 180, 0, 89, 162, 0, 33, 28, 42, 180, 0] := by decide +kernel
theorem dwm_45 : (cX6_owesBits.data.toList.drop 16).take 16 = [31, 16, 7, 27, 104, 29, 96, 46, 158, 0, 9, 4, 29, 120, 167, 0] := by decide +kernel
theorem dwm_46 : (cX6_owesBits.data.toList.drop 32).take 16 = [4, 3, 128, 61, 132, 3, 1, 167, 255, 221, 28, 172] := by decide +kernel
theorem dX6_owesBits_0 : decode cX6_owesBits 0 = .ok (.iconst 0, 1) := dq_3 (dq_w dwm_44 0 rfl)
theorem dX6_owesBits_1 : decode cX6_owesBits 1 = .ok (.istore_n 2, 1) := dq_61 (dq_w dwm_44 1 rfl)
theorem dX6_owesBits_2 : decode cX6_owesBits 2 = .ok (.iconst 0, 1) := dq_3 (dq_w dwm_44 2 rfl)
theorem dX6_owesBits_3 : decode cX6_owesBits 3 = .ok (.istore_n 3, 1) := dq_62 (dq_w dwm_44 3 rfl)
theorem dX6_owesBits_4 : decode cX6_owesBits 4 = .ok (.iload_n 3, 1) := dq_29 (dq_w dwm_44 4 rfl)
theorem dX6_owesBits_5 : decode cX6_owesBits 5 = .ok (.aload_n 0, 1) := dq_42 (dq_w dwm_44 5 rfl)
theorem dX6_owesBits_6 : decode cX6_owesBits 6 = .ok (.getfield 89, 3) := dq_180 (dq_w dwm_44 6 rfl) (dq_w dwm_44 7 rfl) (dq_w dwm_44 8 rfl) rfl
theorem dX6_owesBits_9 : decode cX6_owesBits 9 = .ok (.if_icmp .ge 33, 3) := dq_162 (dq_w dwm_44 9 rfl) (dq_w dwm_44 10 rfl) (dq_w dwm_44 11 rfl) (dq_p (n := 33) rfl rfl)
theorem dX6_owesBits_12 : decode cX6_owesBits 12 = .ok (.iload_n 2, 1) := dq_28 (dq_w dwm_44 12 rfl)
theorem dX6_owesBits_13 : decode cX6_owesBits 13 = .ok (.aload_n 0, 1) := dq_42 (dq_w dwm_44 13 rfl)
theorem dX6_owesBits_14 : decode cX6_owesBits 14 = .ok (.getfield 31, 3) := dq_180 (dq_w dwm_44 14 rfl) (dq_w dwm_44 15 rfl) (dq_w dwm_45 0 rfl) rfl
theorem dX6_owesBits_17 : decode cX6_owesBits 17 = .ok (.bipush 7, 2) := dq_16 (dq_w dwm_45 1 rfl) (dq_w dwm_45 2 rfl) rfl
theorem dX6_owesBits_19 : decode cX6_owesBits 19 = .ok (.iload_n 1, 1) := dq_27 (dq_w dwm_45 3 rfl)
theorem dX6_owesBits_20 : decode cX6_owesBits 20 = .ok (.imul, 1) := dq_104 (dq_w dwm_45 4 rfl)
theorem dX6_owesBits_21 : decode cX6_owesBits 21 = .ok (.iload_n 3, 1) := dq_29 (dq_w dwm_45 5 rfl)
theorem dX6_owesBits_22 : decode cX6_owesBits 22 = .ok (.iadd, 1) := dq_96 (dq_w dwm_45 6 rfl)
theorem dX6_owesBits_23 : decode cX6_owesBits 23 = .ok (.iaload, 1) := dq_46 (dq_w dwm_45 7 rfl)
theorem dX6_owesBits_24 : decode cX6_owesBits 24 = .ok (.ifCond .le 9, 3) := dq_158 (dq_w dwm_45 8 rfl) (dq_w dwm_45 9 rfl) (dq_w dwm_45 10 rfl) (dq_p (n := 9) rfl rfl)
theorem dX6_owesBits_27 : decode cX6_owesBits 27 = .ok (.iconst 1, 1) := dq_4 (dq_w dwm_45 11 rfl)
theorem dX6_owesBits_28 : decode cX6_owesBits 28 = .ok (.iload_n 3, 1) := dq_29 (dq_w dwm_45 12 rfl)
theorem dX6_owesBits_29 : decode cX6_owesBits 29 = .ok (.ishl, 1) := dq_120 (dq_w dwm_45 13 rfl)
theorem dX6_owesBits_30 : decode cX6_owesBits 30 = .ok (.goto 4, 3) := dq_167 (dq_w dwm_45 14 rfl) (dq_w dwm_45 15 rfl) (dq_w dwm_46 0 rfl) (dq_p (n := 4) rfl rfl)
theorem dX6_owesBits_33 : decode cX6_owesBits 33 = .ok (.iconst 0, 1) := dq_3 (dq_w dwm_46 1 rfl)
theorem dX6_owesBits_34 : decode cX6_owesBits 34 = .ok (.ior, 1) := dq_128 (dq_w dwm_46 2 rfl)
theorem dX6_owesBits_35 : decode cX6_owesBits 35 = .ok (.istore_n 2, 1) := dq_61 (dq_w dwm_46 3 rfl)
theorem dX6_owesBits_36 : decode cX6_owesBits 36 = .ok (.iinc 3 1, 3) := dq_132 (dq_w dwm_46 4 rfl) (dq_w dwm_46 5 rfl) rfl (dq_w dwm_46 6 rfl) rfl
theorem dX6_owesBits_39 : decode cX6_owesBits 39 = .ok (.goto (-35), 3) := dq_167 (dq_w dwm_46 7 rfl) (dq_w dwm_46 8 rfl) (dq_w dwm_46 9 rfl) (dq_n (m := 35) rfl rfl)
theorem dX6_owesBits_42 : decode cX6_owesBits 42 = .ok (.iload_n 2, 1) := dq_28 (dq_w dwm_46 10 rfl)
theorem dX6_owesBits_43 : decode cX6_owesBits 43 = .ok (.ireturn, 1) := dq_172 (dq_w dwm_46 11 rfl)
theorem dwm_47 : (cX6_priceOf.data.toList.drop 0).take 16 = [3, 61, 3, 62, 29, 42, 180, 0, 89, 162, 0, 43, 42, 180, 0, 31] := by decide +kernel
theorem dwm_48 : (cX6_priceOf.data.toList.drop 16).take 16 = [16, 7, 27, 104, 29, 96, 46, 54, 4, 28, 21, 4, 158, 0, 15, 42] := by decide +kernel
theorem dwm_49 : (cX6_priceOf.data.toList.drop 32).take 16 = [29, 21, 4, 4, 100, 182, 0, 110, 167, 0, 4, 3, 96, 61, 132, 3] := by decide +kernel
theorem dwm_50 : (cX6_priceOf.data.toList.drop 48).take 16 = [1, 167, 255, 211, 28, 172] := by decide +kernel
theorem dX6_priceOf_0 : decode cX6_priceOf 0 = .ok (.iconst 0, 1) := dq_3 (dq_w dwm_47 0 rfl)
theorem dX6_priceOf_1 : decode cX6_priceOf 1 = .ok (.istore_n 2, 1) := dq_61 (dq_w dwm_47 1 rfl)
theorem dX6_priceOf_2 : decode cX6_priceOf 2 = .ok (.iconst 0, 1) := dq_3 (dq_w dwm_47 2 rfl)
theorem dX6_priceOf_3 : decode cX6_priceOf 3 = .ok (.istore_n 3, 1) := dq_62 (dq_w dwm_47 3 rfl)
theorem dX6_priceOf_4 : decode cX6_priceOf 4 = .ok (.iload_n 3, 1) := dq_29 (dq_w dwm_47 4 rfl)
theorem dX6_priceOf_5 : decode cX6_priceOf 5 = .ok (.aload_n 0, 1) := dq_42 (dq_w dwm_47 5 rfl)
theorem dX6_priceOf_6 : decode cX6_priceOf 6 = .ok (.getfield 89, 3) := dq_180 (dq_w dwm_47 6 rfl) (dq_w dwm_47 7 rfl) (dq_w dwm_47 8 rfl) rfl
theorem dX6_priceOf_9 : decode cX6_priceOf 9 = .ok (.if_icmp .ge 43, 3) := dq_162 (dq_w dwm_47 9 rfl) (dq_w dwm_47 10 rfl) (dq_w dwm_47 11 rfl) (dq_p (n := 43) rfl rfl)
theorem dX6_priceOf_12 : decode cX6_priceOf 12 = .ok (.aload_n 0, 1) := dq_42 (dq_w dwm_47 12 rfl)
theorem dX6_priceOf_13 : decode cX6_priceOf 13 = .ok (.getfield 31, 3) := dq_180 (dq_w dwm_47 13 rfl) (dq_w dwm_47 14 rfl) (dq_w dwm_47 15 rfl) rfl
theorem dX6_priceOf_16 : decode cX6_priceOf 16 = .ok (.bipush 7, 2) := dq_16 (dq_w dwm_48 0 rfl) (dq_w dwm_48 1 rfl) rfl
theorem dX6_priceOf_18 : decode cX6_priceOf 18 = .ok (.iload_n 1, 1) := dq_27 (dq_w dwm_48 2 rfl)
theorem dX6_priceOf_19 : decode cX6_priceOf 19 = .ok (.imul, 1) := dq_104 (dq_w dwm_48 3 rfl)
theorem dX6_priceOf_20 : decode cX6_priceOf 20 = .ok (.iload_n 3, 1) := dq_29 (dq_w dwm_48 4 rfl)
theorem dX6_priceOf_21 : decode cX6_priceOf 21 = .ok (.iadd, 1) := dq_96 (dq_w dwm_48 5 rfl)
theorem dX6_priceOf_22 : decode cX6_priceOf 22 = .ok (.iaload, 1) := dq_46 (dq_w dwm_48 6 rfl)
theorem dX6_priceOf_23 : decode cX6_priceOf 23 = .ok (.istore 4, 2) := dq_54 (dq_w dwm_48 7 rfl) (dq_w dwm_48 8 rfl) rfl
theorem dX6_priceOf_25 : decode cX6_priceOf 25 = .ok (.iload_n 2, 1) := dq_28 (dq_w dwm_48 9 rfl)
theorem dX6_priceOf_26 : decode cX6_priceOf 26 = .ok (.iload 4, 2) := dq_21 (dq_w dwm_48 10 rfl) (dq_w dwm_48 11 rfl) rfl
theorem dX6_priceOf_28 : decode cX6_priceOf 28 = .ok (.ifCond .le 15, 3) := dq_158 (dq_w dwm_48 12 rfl) (dq_w dwm_48 13 rfl) (dq_w dwm_48 14 rfl) (dq_p (n := 15) rfl rfl)
theorem dX6_priceOf_31 : decode cX6_priceOf 31 = .ok (.aload_n 0, 1) := dq_42 (dq_w dwm_48 15 rfl)
theorem dX6_priceOf_32 : decode cX6_priceOf 32 = .ok (.iload_n 3, 1) := dq_29 (dq_w dwm_49 0 rfl)
theorem dX6_priceOf_33 : decode cX6_priceOf 33 = .ok (.iload 4, 2) := dq_21 (dq_w dwm_49 1 rfl) (dq_w dwm_49 2 rfl) rfl
theorem dX6_priceOf_35 : decode cX6_priceOf 35 = .ok (.iconst 1, 1) := dq_4 (dq_w dwm_49 3 rfl)
theorem dX6_priceOf_36 : decode cX6_priceOf 36 = .ok (.isub, 1) := dq_100 (dq_w dwm_49 4 rfl)
theorem dX6_priceOf_37 : decode cX6_priceOf 37 = .ok (.invokevirtual 110, 3) := dq_182 (dq_w dwm_49 5 rfl) (dq_w dwm_49 6 rfl) (dq_w dwm_49 7 rfl) rfl
theorem dX6_priceOf_40 : decode cX6_priceOf 40 = .ok (.goto 4, 3) := dq_167 (dq_w dwm_49 8 rfl) (dq_w dwm_49 9 rfl) (dq_w dwm_49 10 rfl) (dq_p (n := 4) rfl rfl)
theorem dX6_priceOf_43 : decode cX6_priceOf 43 = .ok (.iconst 0, 1) := dq_3 (dq_w dwm_49 11 rfl)
theorem dX6_priceOf_44 : decode cX6_priceOf 44 = .ok (.iadd, 1) := dq_96 (dq_w dwm_49 12 rfl)
theorem dX6_priceOf_45 : decode cX6_priceOf 45 = .ok (.istore_n 2, 1) := dq_61 (dq_w dwm_49 13 rfl)
theorem dX6_priceOf_46 : decode cX6_priceOf 46 = .ok (.iinc 3 1, 3) := dq_132 (dq_w dwm_49 14 rfl) (dq_w dwm_49 15 rfl) rfl (dq_w dwm_50 0 rfl) rfl
theorem dX6_priceOf_49 : decode cX6_priceOf 49 = .ok (.goto (-45), 3) := dq_167 (dq_w dwm_50 1 rfl) (dq_w dwm_50 2 rfl) (dq_w dwm_50 3 rfl) (dq_n (m := 45) rfl rfl)
theorem dX6_priceOf_52 : decode cX6_priceOf 52 = .ok (.iload_n 2, 1) := dq_28 (dq_w dwm_50 4 rfl)
theorem dX6_priceOf_53 : decode cX6_priceOf 53 = .ok (.ireturn, 1) := dq_172 (dq_w dwm_50 5 rfl)
theorem dwm_51 : (cX6_allPrices.data.toList.drop 0).take 16 = [3, 60, 3, 61, 28, 42, 180, 0, 92, 162, 0, 17, 27, 42, 28, 182] := by decide +kernel
theorem dwm_52 : (cX6_allPrices.data.toList.drop 16).take 16 = [0, 113, 96, 60, 132, 2, 1, 167, 255, 237, 27, 172] := by decide +kernel
theorem dX6_allPrices_0 : decode cX6_allPrices 0 = .ok (.iconst 0, 1) := dq_3 (dq_w dwm_51 0 rfl)
theorem dX6_allPrices_1 : decode cX6_allPrices 1 = .ok (.istore_n 1, 1) := dq_60 (dq_w dwm_51 1 rfl)
theorem dX6_allPrices_2 : decode cX6_allPrices 2 = .ok (.iconst 0, 1) := dq_3 (dq_w dwm_51 2 rfl)
theorem dX6_allPrices_3 : decode cX6_allPrices 3 = .ok (.istore_n 2, 1) := dq_61 (dq_w dwm_51 3 rfl)
theorem dX6_allPrices_4 : decode cX6_allPrices 4 = .ok (.iload_n 2, 1) := dq_28 (dq_w dwm_51 4 rfl)
theorem dX6_allPrices_5 : decode cX6_allPrices 5 = .ok (.aload_n 0, 1) := dq_42 (dq_w dwm_51 5 rfl)
theorem dX6_allPrices_6 : decode cX6_allPrices 6 = .ok (.getfield 92, 3) := dq_180 (dq_w dwm_51 6 rfl) (dq_w dwm_51 7 rfl) (dq_w dwm_51 8 rfl) rfl
theorem dX6_allPrices_9 : decode cX6_allPrices 9 = .ok (.if_icmp .ge 17, 3) := dq_162 (dq_w dwm_51 9 rfl) (dq_w dwm_51 10 rfl) (dq_w dwm_51 11 rfl) (dq_p (n := 17) rfl rfl)
theorem dX6_allPrices_12 : decode cX6_allPrices 12 = .ok (.iload_n 1, 1) := dq_27 (dq_w dwm_51 12 rfl)
theorem dX6_allPrices_13 : decode cX6_allPrices 13 = .ok (.aload_n 0, 1) := dq_42 (dq_w dwm_51 13 rfl)
theorem dX6_allPrices_14 : decode cX6_allPrices 14 = .ok (.iload_n 2, 1) := dq_28 (dq_w dwm_51 14 rfl)
theorem dX6_allPrices_15 : decode cX6_allPrices 15 = .ok (.invokevirtual 113, 3) := dq_182 (dq_w dwm_51 15 rfl) (dq_w dwm_52 0 rfl) (dq_w dwm_52 1 rfl) rfl
theorem dX6_allPrices_18 : decode cX6_allPrices 18 = .ok (.iadd, 1) := dq_96 (dq_w dwm_52 2 rfl)
theorem dX6_allPrices_19 : decode cX6_allPrices 19 = .ok (.istore_n 1, 1) := dq_60 (dq_w dwm_52 3 rfl)
theorem dX6_allPrices_20 : decode cX6_allPrices 20 = .ok (.iinc 2 1, 3) := dq_132 (dq_w dwm_52 4 rfl) (dq_w dwm_52 5 rfl) rfl (dq_w dwm_52 6 rfl) rfl
theorem dX6_allPrices_23 : decode cX6_allPrices 23 = .ok (.goto (-19), 3) := dq_167 (dq_w dwm_52 7 rfl) (dq_w dwm_52 8 rfl) (dq_w dwm_52 9 rfl) (dq_n (m := 19) rfl rfl)
theorem dX6_allPrices_26 : decode cX6_allPrices 26 = .ok (.iload_n 1, 1) := dq_27 (dq_w dwm_52 10 rfl)
theorem dX6_allPrices_27 : decode cX6_allPrices 27 = .ok (.ireturn, 1) := dq_172 (dq_w dwm_52 11 rfl)
theorem dwm_53 : (cX6_allDebts.data.toList.drop 0).take 16 = [3, 60, 3, 61, 28, 42, 180, 0, 92, 162, 0, 20, 27, 42, 28, 182] := by decide +kernel
theorem dwm_54 : (cX6_allDebts.data.toList.drop 16).take 16 = [0, 116, 184, 0, 119, 96, 60, 132, 2, 1, 167, 255, 234, 27, 172] := by decide +kernel
theorem dX6_allDebts_0 : decode cX6_allDebts 0 = .ok (.iconst 0, 1) := dq_3 (dq_w dwm_53 0 rfl)
theorem dX6_allDebts_1 : decode cX6_allDebts 1 = .ok (.istore_n 1, 1) := dq_60 (dq_w dwm_53 1 rfl)
theorem dX6_allDebts_2 : decode cX6_allDebts 2 = .ok (.iconst 0, 1) := dq_3 (dq_w dwm_53 2 rfl)
theorem dX6_allDebts_3 : decode cX6_allDebts 3 = .ok (.istore_n 2, 1) := dq_61 (dq_w dwm_53 3 rfl)
theorem dX6_allDebts_4 : decode cX6_allDebts 4 = .ok (.iload_n 2, 1) := dq_28 (dq_w dwm_53 4 rfl)
theorem dX6_allDebts_5 : decode cX6_allDebts 5 = .ok (.aload_n 0, 1) := dq_42 (dq_w dwm_53 5 rfl)
theorem dX6_allDebts_6 : decode cX6_allDebts 6 = .ok (.getfield 92, 3) := dq_180 (dq_w dwm_53 6 rfl) (dq_w dwm_53 7 rfl) (dq_w dwm_53 8 rfl) rfl
theorem dX6_allDebts_9 : decode cX6_allDebts 9 = .ok (.if_icmp .ge 20, 3) := dq_162 (dq_w dwm_53 9 rfl) (dq_w dwm_53 10 rfl) (dq_w dwm_53 11 rfl) (dq_p (n := 20) rfl rfl)
theorem dX6_allDebts_12 : decode cX6_allDebts 12 = .ok (.iload_n 1, 1) := dq_27 (dq_w dwm_53 12 rfl)
theorem dX6_allDebts_13 : decode cX6_allDebts 13 = .ok (.aload_n 0, 1) := dq_42 (dq_w dwm_53 13 rfl)
theorem dX6_allDebts_14 : decode cX6_allDebts 14 = .ok (.iload_n 2, 1) := dq_28 (dq_w dwm_53 14 rfl)
theorem dX6_allDebts_15 : decode cX6_allDebts 15 = .ok (.invokevirtual 116, 3) := dq_182 (dq_w dwm_53 15 rfl) (dq_w dwm_54 0 rfl) (dq_w dwm_54 1 rfl) rfl
theorem dX6_allDebts_18 : decode cX6_allDebts 18 = .ok (.invokestatic 119, 3) := dq_184 (dq_w dwm_54 2 rfl) (dq_w dwm_54 3 rfl) (dq_w dwm_54 4 rfl) rfl
theorem dX6_allDebts_21 : decode cX6_allDebts 21 = .ok (.iadd, 1) := dq_96 (dq_w dwm_54 5 rfl)
theorem dX6_allDebts_22 : decode cX6_allDebts 22 = .ok (.istore_n 1, 1) := dq_60 (dq_w dwm_54 6 rfl)
theorem dX6_allDebts_23 : decode cX6_allDebts 23 = .ok (.iinc 2 1, 3) := dq_132 (dq_w dwm_54 7 rfl) (dq_w dwm_54 8 rfl) rfl (dq_w dwm_54 9 rfl) rfl
theorem dX6_allDebts_26 : decode cX6_allDebts 26 = .ok (.goto (-22), 3) := dq_167 (dq_w dwm_54 10 rfl) (dq_w dwm_54 11 rfl) (dq_w dwm_54 12 rfl) (dq_n (m := 22) rfl rfl)
theorem dX6_allDebts_29 : decode cX6_allDebts 29 = .ok (.iload_n 1, 1) := dq_27 (dq_w dwm_54 13 rfl)
theorem dX6_allDebts_30 : decode cX6_allDebts 30 = .ok (.ireturn, 1) := dq_172 (dq_w dwm_54 14 rfl)
theorem dwm_55 : (cX6_owersOf.data.toList.drop 0).take 16 = [3, 61, 3, 62, 29, 42, 180, 0, 92, 162, 0, 33, 28, 42, 180, 0] := by decide +kernel
theorem dwm_56 : (cX6_owersOf.data.toList.drop 16).take 16 = [31, 16, 7, 29, 104, 27, 96, 46, 158, 0, 9, 4, 29, 120, 167, 0] := by decide +kernel
theorem dwm_57 : (cX6_owersOf.data.toList.drop 32).take 16 = [4, 3, 128, 61, 132, 3, 1, 167, 255, 221, 28, 172] := by decide +kernel
theorem dX6_owersOf_0 : decode cX6_owersOf 0 = .ok (.iconst 0, 1) := dq_3 (dq_w dwm_55 0 rfl)
theorem dX6_owersOf_1 : decode cX6_owersOf 1 = .ok (.istore_n 2, 1) := dq_61 (dq_w dwm_55 1 rfl)
theorem dX6_owersOf_2 : decode cX6_owersOf 2 = .ok (.iconst 0, 1) := dq_3 (dq_w dwm_55 2 rfl)
theorem dX6_owersOf_3 : decode cX6_owersOf 3 = .ok (.istore_n 3, 1) := dq_62 (dq_w dwm_55 3 rfl)
theorem dX6_owersOf_4 : decode cX6_owersOf 4 = .ok (.iload_n 3, 1) := dq_29 (dq_w dwm_55 4 rfl)
theorem dX6_owersOf_5 : decode cX6_owersOf 5 = .ok (.aload_n 0, 1) := dq_42 (dq_w dwm_55 5 rfl)
theorem dX6_owersOf_6 : decode cX6_owersOf 6 = .ok (.getfield 92, 3) := dq_180 (dq_w dwm_55 6 rfl) (dq_w dwm_55 7 rfl) (dq_w dwm_55 8 rfl) rfl
theorem dX6_owersOf_9 : decode cX6_owersOf 9 = .ok (.if_icmp .ge 33, 3) := dq_162 (dq_w dwm_55 9 rfl) (dq_w dwm_55 10 rfl) (dq_w dwm_55 11 rfl) (dq_p (n := 33) rfl rfl)
theorem dX6_owersOf_12 : decode cX6_owersOf 12 = .ok (.iload_n 2, 1) := dq_28 (dq_w dwm_55 12 rfl)
theorem dX6_owersOf_13 : decode cX6_owersOf 13 = .ok (.aload_n 0, 1) := dq_42 (dq_w dwm_55 13 rfl)
theorem dX6_owersOf_14 : decode cX6_owersOf 14 = .ok (.getfield 31, 3) := dq_180 (dq_w dwm_55 14 rfl) (dq_w dwm_55 15 rfl) (dq_w dwm_56 0 rfl) rfl
theorem dX6_owersOf_17 : decode cX6_owersOf 17 = .ok (.bipush 7, 2) := dq_16 (dq_w dwm_56 1 rfl) (dq_w dwm_56 2 rfl) rfl
theorem dX6_owersOf_19 : decode cX6_owersOf 19 = .ok (.iload_n 3, 1) := dq_29 (dq_w dwm_56 3 rfl)
theorem dX6_owersOf_20 : decode cX6_owersOf 20 = .ok (.imul, 1) := dq_104 (dq_w dwm_56 4 rfl)
theorem dX6_owersOf_21 : decode cX6_owersOf 21 = .ok (.iload_n 1, 1) := dq_27 (dq_w dwm_56 5 rfl)
theorem dX6_owersOf_22 : decode cX6_owersOf 22 = .ok (.iadd, 1) := dq_96 (dq_w dwm_56 6 rfl)
theorem dX6_owersOf_23 : decode cX6_owersOf 23 = .ok (.iaload, 1) := dq_46 (dq_w dwm_56 7 rfl)
theorem dX6_owersOf_24 : decode cX6_owersOf 24 = .ok (.ifCond .le 9, 3) := dq_158 (dq_w dwm_56 8 rfl) (dq_w dwm_56 9 rfl) (dq_w dwm_56 10 rfl) (dq_p (n := 9) rfl rfl)
theorem dX6_owersOf_27 : decode cX6_owersOf 27 = .ok (.iconst 1, 1) := dq_4 (dq_w dwm_56 11 rfl)
theorem dX6_owersOf_28 : decode cX6_owersOf 28 = .ok (.iload_n 3, 1) := dq_29 (dq_w dwm_56 12 rfl)
theorem dX6_owersOf_29 : decode cX6_owersOf 29 = .ok (.ishl, 1) := dq_120 (dq_w dwm_56 13 rfl)
theorem dX6_owersOf_30 : decode cX6_owersOf 30 = .ok (.goto 4, 3) := dq_167 (dq_w dwm_56 14 rfl) (dq_w dwm_56 15 rfl) (dq_w dwm_57 0 rfl) (dq_p (n := 4) rfl rfl)
theorem dX6_owersOf_33 : decode cX6_owersOf 33 = .ok (.iconst 0, 1) := dq_3 (dq_w dwm_57 1 rfl)
theorem dX6_owersOf_34 : decode cX6_owersOf 34 = .ok (.ior, 1) := dq_128 (dq_w dwm_57 2 rfl)
theorem dX6_owersOf_35 : decode cX6_owersOf 35 = .ok (.istore_n 2, 1) := dq_61 (dq_w dwm_57 3 rfl)
theorem dX6_owersOf_36 : decode cX6_owersOf 36 = .ok (.iinc 3 1, 3) := dq_132 (dq_w dwm_57 4 rfl) (dq_w dwm_57 5 rfl) rfl (dq_w dwm_57 6 rfl) rfl
theorem dX6_owersOf_39 : decode cX6_owersOf 39 = .ok (.goto (-35), 3) := dq_167 (dq_w dwm_57 7 rfl) (dq_w dwm_57 8 rfl) (dq_w dwm_57 9 rfl) (dq_n (m := 35) rfl rfl)
theorem dX6_owersOf_42 : decode cX6_owersOf 42 = .ok (.iload_n 2, 1) := dq_28 (dq_w dwm_57 10 rfl)
theorem dX6_owersOf_43 : decode cX6_owersOf 43 = .ok (.ireturn, 1) := dq_172 (dq_w dwm_57 11 rfl)
theorem dwm_58 : (cX6_towards.data.toList.drop 0).take 16 = [26, 16, 7, 108, 27, 16, 7, 108, 159, 0, 26, 26, 16, 7, 108, 27] := by decide +kernel
theorem dwm_59 : (cX6_towards.data.toList.drop 16).take 16 = [16, 7, 108, 162, 0, 10, 26, 16, 7, 96, 167, 0, 7, 26, 16, 7] := by decide +kernel
theorem dwm_60 : (cX6_towards.data.toList.drop 32).take 16 = [100, 172, 26, 27, 162, 0, 9, 26, 4, 96, 167, 0, 15, 26, 27, 164] := by decide +kernel
theorem dwm_61 : (cX6_towards.data.toList.drop 48).take 16 = [0, 9, 26, 4, 100, 167, 0, 4, 26, 172] := by decide +kernel
theorem dX6_towards_0 : decode cX6_towards 0 = .ok (.iload_n 0, 1) := dq_26 (dq_w dwm_58 0 rfl)
theorem dX6_towards_1 : decode cX6_towards 1 = .ok (.bipush 7, 2) := dq_16 (dq_w dwm_58 1 rfl) (dq_w dwm_58 2 rfl) rfl
theorem dX6_towards_3 : decode cX6_towards 3 = .ok (.idiv, 1) := dq_108 (dq_w dwm_58 3 rfl)
theorem dX6_towards_4 : decode cX6_towards 4 = .ok (.iload_n 1, 1) := dq_27 (dq_w dwm_58 4 rfl)
theorem dX6_towards_5 : decode cX6_towards 5 = .ok (.bipush 7, 2) := dq_16 (dq_w dwm_58 5 rfl) (dq_w dwm_58 6 rfl) rfl
theorem dX6_towards_7 : decode cX6_towards 7 = .ok (.idiv, 1) := dq_108 (dq_w dwm_58 7 rfl)
theorem dX6_towards_8 : decode cX6_towards 8 = .ok (.if_icmp .eq 26, 3) := dq_159 (dq_w dwm_58 8 rfl) (dq_w dwm_58 9 rfl) (dq_w dwm_58 10 rfl) (dq_p (n := 26) rfl rfl)
theorem dX6_towards_11 : decode cX6_towards 11 = .ok (.iload_n 0, 1) := dq_26 (dq_w dwm_58 11 rfl)
theorem dX6_towards_12 : decode cX6_towards 12 = .ok (.bipush 7, 2) := dq_16 (dq_w dwm_58 12 rfl) (dq_w dwm_58 13 rfl) rfl
theorem dX6_towards_14 : decode cX6_towards 14 = .ok (.idiv, 1) := dq_108 (dq_w dwm_58 14 rfl)
theorem dX6_towards_15 : decode cX6_towards 15 = .ok (.iload_n 1, 1) := dq_27 (dq_w dwm_58 15 rfl)
theorem dX6_towards_16 : decode cX6_towards 16 = .ok (.bipush 7, 2) := dq_16 (dq_w dwm_59 0 rfl) (dq_w dwm_59 1 rfl) rfl
theorem dX6_towards_18 : decode cX6_towards 18 = .ok (.idiv, 1) := dq_108 (dq_w dwm_59 2 rfl)
theorem dX6_towards_19 : decode cX6_towards 19 = .ok (.if_icmp .ge 10, 3) := dq_162 (dq_w dwm_59 3 rfl) (dq_w dwm_59 4 rfl) (dq_w dwm_59 5 rfl) (dq_p (n := 10) rfl rfl)
theorem dX6_towards_22 : decode cX6_towards 22 = .ok (.iload_n 0, 1) := dq_26 (dq_w dwm_59 6 rfl)
theorem dX6_towards_23 : decode cX6_towards 23 = .ok (.bipush 7, 2) := dq_16 (dq_w dwm_59 7 rfl) (dq_w dwm_59 8 rfl) rfl
theorem dX6_towards_25 : decode cX6_towards 25 = .ok (.iadd, 1) := dq_96 (dq_w dwm_59 9 rfl)
theorem dX6_towards_26 : decode cX6_towards 26 = .ok (.goto 7, 3) := dq_167 (dq_w dwm_59 10 rfl) (dq_w dwm_59 11 rfl) (dq_w dwm_59 12 rfl) (dq_p (n := 7) rfl rfl)
theorem dX6_towards_29 : decode cX6_towards 29 = .ok (.iload_n 0, 1) := dq_26 (dq_w dwm_59 13 rfl)
theorem dX6_towards_30 : decode cX6_towards 30 = .ok (.bipush 7, 2) := dq_16 (dq_w dwm_59 14 rfl) (dq_w dwm_59 15 rfl) rfl
theorem dX6_towards_32 : decode cX6_towards 32 = .ok (.isub, 1) := dq_100 (dq_w dwm_60 0 rfl)
theorem dX6_towards_33 : decode cX6_towards 33 = .ok (.ireturn, 1) := dq_172 (dq_w dwm_60 1 rfl)
theorem dX6_towards_34 : decode cX6_towards 34 = .ok (.iload_n 0, 1) := dq_26 (dq_w dwm_60 2 rfl)
theorem dX6_towards_35 : decode cX6_towards 35 = .ok (.iload_n 1, 1) := dq_27 (dq_w dwm_60 3 rfl)
theorem dX6_towards_36 : decode cX6_towards 36 = .ok (.if_icmp .ge 9, 3) := dq_162 (dq_w dwm_60 4 rfl) (dq_w dwm_60 5 rfl) (dq_w dwm_60 6 rfl) (dq_p (n := 9) rfl rfl)
theorem dX6_towards_39 : decode cX6_towards 39 = .ok (.iload_n 0, 1) := dq_26 (dq_w dwm_60 7 rfl)
theorem dX6_towards_40 : decode cX6_towards 40 = .ok (.iconst 1, 1) := dq_4 (dq_w dwm_60 8 rfl)
theorem dX6_towards_41 : decode cX6_towards 41 = .ok (.iadd, 1) := dq_96 (dq_w dwm_60 9 rfl)
theorem dX6_towards_42 : decode cX6_towards 42 = .ok (.goto 15, 3) := dq_167 (dq_w dwm_60 10 rfl) (dq_w dwm_60 11 rfl) (dq_w dwm_60 12 rfl) (dq_p (n := 15) rfl rfl)
theorem dX6_towards_45 : decode cX6_towards 45 = .ok (.iload_n 0, 1) := dq_26 (dq_w dwm_60 13 rfl)
theorem dX6_towards_46 : decode cX6_towards 46 = .ok (.iload_n 1, 1) := dq_27 (dq_w dwm_60 14 rfl)
theorem dX6_towards_47 : decode cX6_towards 47 = .ok (.if_icmp .le 9, 3) := dq_164 (dq_w dwm_60 15 rfl) (dq_w dwm_61 0 rfl) (dq_w dwm_61 1 rfl) (dq_p (n := 9) rfl rfl)
theorem dX6_towards_50 : decode cX6_towards 50 = .ok (.iload_n 0, 1) := dq_26 (dq_w dwm_61 2 rfl)
theorem dX6_towards_51 : decode cX6_towards 51 = .ok (.iconst 1, 1) := dq_4 (dq_w dwm_61 3 rfl)
theorem dX6_towards_52 : decode cX6_towards 52 = .ok (.isub, 1) := dq_100 (dq_w dwm_61 4 rfl)
theorem dX6_towards_53 : decode cX6_towards 53 = .ok (.goto 4, 3) := dq_167 (dq_w dwm_61 5 rfl) (dq_w dwm_61 6 rfl) (dq_w dwm_61 7 rfl) (dq_p (n := 4) rfl rfl)
theorem dX6_towards_56 : decode cX6_towards 56 = .ok (.iload_n 0, 1) := dq_26 (dq_w dwm_61 8 rfl)
theorem dX6_towards_57 : decode cX6_towards 57 = .ok (.ireturn, 1) := dq_172 (dq_w dwm_61 9 rfl)
theorem dwm_62 : (cX6_eveningBy.data.toList.drop 0).take 16 = [42, 89, 180, 0, 122, 4, 96, 181, 0, 122, 3, 61, 28, 16, 42, 162] := by decide +kernel
theorem dwm_63 : (cX6_eveningBy.data.toList.drop 16).take 16 = [0, 43, 42, 180, 0, 31, 28, 92, 46, 42, 180, 0, 31, 28, 46, 158] := by decide +kernel
theorem dwm_64 : (cX6_eveningBy.data.toList.drop 32).take 16 = [0, 18, 42, 180, 0, 31, 28, 46, 16, 100, 162, 0, 7, 4, 167, 0] := by decide +kernel
theorem dwm_65 : (cX6_eveningBy.data.toList.drop 48).take 16 = [4, 3, 96, 79, 132, 2, 1, 167, 255, 213, 3, 61, 28, 42, 180, 0] := by decide +kernel
theorem dwm_66 : (cX6_eveningBy.data.toList.drop 64).take 16 = [92, 162, 0, 120, 42, 180, 0, 22, 28, 42, 180, 0, 22, 28, 46, 42] := by decide +kernel
theorem dwm_67 : (cX6_eveningBy.data.toList.drop 80).take 16 = [180, 0, 25, 28, 46, 184, 0, 125, 79, 27, 153, 0, 7, 3, 167, 0] := by decide +kernel
theorem dwm_68 : (cX6_eveningBy.data.toList.drop 96).take 16 = [14, 42, 28, 42, 180, 0, 22, 28, 46, 182, 0, 128, 62, 3, 54, 4] := by decide +kernel
theorem dwm_69 : (cX6_eveningBy.data.toList.drop 112).take 16 = [21, 4, 42, 180, 0, 89, 162, 0, 61, 42, 180, 0, 31, 16, 7, 28] := by decide +kernel
theorem dwm_70 : (cX6_eveningBy.data.toList.drop 128).take 16 = [104, 21, 4, 96, 42, 180, 0, 31, 16, 7, 28, 104, 21, 4, 96, 46] := by decide +kernel
theorem dwm_71 : (cX6_eveningBy.data.toList.drop 144).take 16 = [154, 0, 16, 29, 21, 4, 184, 0, 131, 153, 0, 7, 4, 167, 0, 15] := by decide +kernel
theorem dwm_72 : (cX6_eveningBy.data.toList.drop 160).take 16 = [42, 180, 0, 31, 16, 7, 28, 104, 21, 4, 96, 46, 79, 132, 4, 1] := by decide +kernel
theorem dwm_73 : (cX6_eveningBy.data.toList.drop 176).take 16 = [167, 255, 192, 132, 2, 1, 167, 255, 134, 177] := by decide +kernel
theorem dX6_eveningBy_0 : decode cX6_eveningBy 0 = .ok (.aload_n 0, 1) := dq_42 (dq_w dwm_62 0 rfl)
theorem dX6_eveningBy_1 : decode cX6_eveningBy 1 = .ok (.dup, 1) := dq_89 (dq_w dwm_62 1 rfl)
theorem dX6_eveningBy_2 : decode cX6_eveningBy 2 = .ok (.getfield 122, 3) := dq_180 (dq_w dwm_62 2 rfl) (dq_w dwm_62 3 rfl) (dq_w dwm_62 4 rfl) rfl
theorem dX6_eveningBy_5 : decode cX6_eveningBy 5 = .ok (.iconst 1, 1) := dq_4 (dq_w dwm_62 5 rfl)
theorem dX6_eveningBy_6 : decode cX6_eveningBy 6 = .ok (.iadd, 1) := dq_96 (dq_w dwm_62 6 rfl)
theorem dX6_eveningBy_7 : decode cX6_eveningBy 7 = .ok (.putfield 122, 3) := dq_181 (dq_w dwm_62 7 rfl) (dq_w dwm_62 8 rfl) (dq_w dwm_62 9 rfl) rfl
theorem dX6_eveningBy_10 : decode cX6_eveningBy 10 = .ok (.iconst 0, 1) := dq_3 (dq_w dwm_62 10 rfl)
theorem dX6_eveningBy_11 : decode cX6_eveningBy 11 = .ok (.istore_n 2, 1) := dq_61 (dq_w dwm_62 11 rfl)
theorem dX6_eveningBy_12 : decode cX6_eveningBy 12 = .ok (.iload_n 2, 1) := dq_28 (dq_w dwm_62 12 rfl)
theorem dX6_eveningBy_13 : decode cX6_eveningBy 13 = .ok (.bipush 42, 2) := dq_16 (dq_w dwm_62 13 rfl) (dq_w dwm_62 14 rfl) rfl
theorem dX6_eveningBy_15 : decode cX6_eveningBy 15 = .ok (.if_icmp .ge 43, 3) := dq_162 (dq_w dwm_62 15 rfl) (dq_w dwm_63 0 rfl) (dq_w dwm_63 1 rfl) (dq_p (n := 43) rfl rfl)
theorem dX6_eveningBy_18 : decode cX6_eveningBy 18 = .ok (.aload_n 0, 1) := dq_42 (dq_w dwm_63 2 rfl)
theorem dX6_eveningBy_19 : decode cX6_eveningBy 19 = .ok (.getfield 31, 3) := dq_180 (dq_w dwm_63 3 rfl) (dq_w dwm_63 4 rfl) (dq_w dwm_63 5 rfl) rfl
theorem dX6_eveningBy_22 : decode cX6_eveningBy 22 = .ok (.iload_n 2, 1) := dq_28 (dq_w dwm_63 6 rfl)
theorem dX6_eveningBy_23 : decode cX6_eveningBy 23 = .ok (.dup2, 1) := dq_92 (dq_w dwm_63 7 rfl)
theorem dX6_eveningBy_24 : decode cX6_eveningBy 24 = .ok (.iaload, 1) := dq_46 (dq_w dwm_63 8 rfl)
theorem dX6_eveningBy_25 : decode cX6_eveningBy 25 = .ok (.aload_n 0, 1) := dq_42 (dq_w dwm_63 9 rfl)
theorem dX6_eveningBy_26 : decode cX6_eveningBy 26 = .ok (.getfield 31, 3) := dq_180 (dq_w dwm_63 10 rfl) (dq_w dwm_63 11 rfl) (dq_w dwm_63 12 rfl) rfl
theorem dX6_eveningBy_29 : decode cX6_eveningBy 29 = .ok (.iload_n 2, 1) := dq_28 (dq_w dwm_63 13 rfl)
theorem dX6_eveningBy_30 : decode cX6_eveningBy 30 = .ok (.iaload, 1) := dq_46 (dq_w dwm_63 14 rfl)
theorem dX6_eveningBy_31 : decode cX6_eveningBy 31 = .ok (.ifCond .le 18, 3) := dq_158 (dq_w dwm_63 15 rfl) (dq_w dwm_64 0 rfl) (dq_w dwm_64 1 rfl) (dq_p (n := 18) rfl rfl)
theorem dX6_eveningBy_34 : decode cX6_eveningBy 34 = .ok (.aload_n 0, 1) := dq_42 (dq_w dwm_64 2 rfl)
theorem dX6_eveningBy_35 : decode cX6_eveningBy 35 = .ok (.getfield 31, 3) := dq_180 (dq_w dwm_64 3 rfl) (dq_w dwm_64 4 rfl) (dq_w dwm_64 5 rfl) rfl
theorem dX6_eveningBy_38 : decode cX6_eveningBy 38 = .ok (.iload_n 2, 1) := dq_28 (dq_w dwm_64 6 rfl)
theorem dX6_eveningBy_39 : decode cX6_eveningBy 39 = .ok (.iaload, 1) := dq_46 (dq_w dwm_64 7 rfl)
theorem dX6_eveningBy_40 : decode cX6_eveningBy 40 = .ok (.bipush 100, 2) := dq_16 (dq_w dwm_64 8 rfl) (dq_w dwm_64 9 rfl) rfl
theorem dX6_eveningBy_42 : decode cX6_eveningBy 42 = .ok (.if_icmp .ge 7, 3) := dq_162 (dq_w dwm_64 10 rfl) (dq_w dwm_64 11 rfl) (dq_w dwm_64 12 rfl) (dq_p (n := 7) rfl rfl)
theorem dX6_eveningBy_45 : decode cX6_eveningBy 45 = .ok (.iconst 1, 1) := dq_4 (dq_w dwm_64 13 rfl)
theorem dX6_eveningBy_46 : decode cX6_eveningBy 46 = .ok (.goto 4, 3) := dq_167 (dq_w dwm_64 14 rfl) (dq_w dwm_64 15 rfl) (dq_w dwm_65 0 rfl) (dq_p (n := 4) rfl rfl)
theorem dX6_eveningBy_49 : decode cX6_eveningBy 49 = .ok (.iconst 0, 1) := dq_3 (dq_w dwm_65 1 rfl)
theorem dX6_eveningBy_50 : decode cX6_eveningBy 50 = .ok (.iadd, 1) := dq_96 (dq_w dwm_65 2 rfl)
theorem dX6_eveningBy_51 : decode cX6_eveningBy 51 = .ok (.iastore, 1) := dq_79 (dq_w dwm_65 3 rfl)
theorem dX6_eveningBy_52 : decode cX6_eveningBy 52 = .ok (.iinc 2 1, 3) := dq_132 (dq_w dwm_65 4 rfl) (dq_w dwm_65 5 rfl) rfl (dq_w dwm_65 6 rfl) rfl
theorem dX6_eveningBy_55 : decode cX6_eveningBy 55 = .ok (.goto (-43), 3) := dq_167 (dq_w dwm_65 7 rfl) (dq_w dwm_65 8 rfl) (dq_w dwm_65 9 rfl) (dq_n (m := 43) rfl rfl)
theorem dX6_eveningBy_58 : decode cX6_eveningBy 58 = .ok (.iconst 0, 1) := dq_3 (dq_w dwm_65 10 rfl)
theorem dX6_eveningBy_59 : decode cX6_eveningBy 59 = .ok (.istore_n 2, 1) := dq_61 (dq_w dwm_65 11 rfl)
theorem dX6_eveningBy_60 : decode cX6_eveningBy 60 = .ok (.iload_n 2, 1) := dq_28 (dq_w dwm_65 12 rfl)
theorem dX6_eveningBy_61 : decode cX6_eveningBy 61 = .ok (.aload_n 0, 1) := dq_42 (dq_w dwm_65 13 rfl)
theorem dX6_eveningBy_62 : decode cX6_eveningBy 62 = .ok (.getfield 92, 3) := dq_180 (dq_w dwm_65 14 rfl) (dq_w dwm_65 15 rfl) (dq_w dwm_66 0 rfl) rfl
theorem dX6_eveningBy_65 : decode cX6_eveningBy 65 = .ok (.if_icmp .ge 120, 3) := dq_162 (dq_w dwm_66 1 rfl) (dq_w dwm_66 2 rfl) (dq_w dwm_66 3 rfl) (dq_p (n := 120) rfl rfl)
theorem dX6_eveningBy_68 : decode cX6_eveningBy 68 = .ok (.aload_n 0, 1) := dq_42 (dq_w dwm_66 4 rfl)
theorem dX6_eveningBy_69 : decode cX6_eveningBy 69 = .ok (.getfield 22, 3) := dq_180 (dq_w dwm_66 5 rfl) (dq_w dwm_66 6 rfl) (dq_w dwm_66 7 rfl) rfl
theorem dX6_eveningBy_72 : decode cX6_eveningBy 72 = .ok (.iload_n 2, 1) := dq_28 (dq_w dwm_66 8 rfl)
theorem dX6_eveningBy_73 : decode cX6_eveningBy 73 = .ok (.aload_n 0, 1) := dq_42 (dq_w dwm_66 9 rfl)
theorem dX6_eveningBy_74 : decode cX6_eveningBy 74 = .ok (.getfield 22, 3) := dq_180 (dq_w dwm_66 10 rfl) (dq_w dwm_66 11 rfl) (dq_w dwm_66 12 rfl) rfl
theorem dX6_eveningBy_77 : decode cX6_eveningBy 77 = .ok (.iload_n 2, 1) := dq_28 (dq_w dwm_66 13 rfl)
theorem dX6_eveningBy_78 : decode cX6_eveningBy 78 = .ok (.iaload, 1) := dq_46 (dq_w dwm_66 14 rfl)
theorem dX6_eveningBy_79 : decode cX6_eveningBy 79 = .ok (.aload_n 0, 1) := dq_42 (dq_w dwm_66 15 rfl)
theorem dX6_eveningBy_80 : decode cX6_eveningBy 80 = .ok (.getfield 25, 3) := dq_180 (dq_w dwm_67 0 rfl) (dq_w dwm_67 1 rfl) (dq_w dwm_67 2 rfl) rfl
theorem dX6_eveningBy_83 : decode cX6_eveningBy 83 = .ok (.iload_n 2, 1) := dq_28 (dq_w dwm_67 3 rfl)
theorem dX6_eveningBy_84 : decode cX6_eveningBy 84 = .ok (.iaload, 1) := dq_46 (dq_w dwm_67 4 rfl)
theorem dX6_eveningBy_85 : decode cX6_eveningBy 85 = .ok (.invokestatic 125, 3) := dq_184 (dq_w dwm_67 5 rfl) (dq_w dwm_67 6 rfl) (dq_w dwm_67 7 rfl) rfl
theorem dX6_eveningBy_88 : decode cX6_eveningBy 88 = .ok (.iastore, 1) := dq_79 (dq_w dwm_67 8 rfl)
theorem dX6_eveningBy_89 : decode cX6_eveningBy 89 = .ok (.iload_n 1, 1) := dq_27 (dq_w dwm_67 9 rfl)
theorem dX6_eveningBy_90 : decode cX6_eveningBy 90 = .ok (.ifCond .eq 7, 3) := dq_153 (dq_w dwm_67 10 rfl) (dq_w dwm_67 11 rfl) (dq_w dwm_67 12 rfl) (dq_p (n := 7) rfl rfl)
theorem dX6_eveningBy_93 : decode cX6_eveningBy 93 = .ok (.iconst 0, 1) := dq_3 (dq_w dwm_67 13 rfl)
theorem dX6_eveningBy_94 : decode cX6_eveningBy 94 = .ok (.goto 14, 3) := dq_167 (dq_w dwm_67 14 rfl) (dq_w dwm_67 15 rfl) (dq_w dwm_68 0 rfl) (dq_p (n := 14) rfl rfl)
theorem dX6_eveningBy_97 : decode cX6_eveningBy 97 = .ok (.aload_n 0, 1) := dq_42 (dq_w dwm_68 1 rfl)
theorem dX6_eveningBy_98 : decode cX6_eveningBy 98 = .ok (.iload_n 2, 1) := dq_28 (dq_w dwm_68 2 rfl)
theorem dX6_eveningBy_99 : decode cX6_eveningBy 99 = .ok (.aload_n 0, 1) := dq_42 (dq_w dwm_68 3 rfl)
theorem dX6_eveningBy_100 : decode cX6_eveningBy 100 = .ok (.getfield 22, 3) := dq_180 (dq_w dwm_68 4 rfl) (dq_w dwm_68 5 rfl) (dq_w dwm_68 6 rfl) rfl
theorem dX6_eveningBy_103 : decode cX6_eveningBy 103 = .ok (.iload_n 2, 1) := dq_28 (dq_w dwm_68 7 rfl)
theorem dX6_eveningBy_104 : decode cX6_eveningBy 104 = .ok (.iaload, 1) := dq_46 (dq_w dwm_68 8 rfl)
theorem dX6_eveningBy_105 : decode cX6_eveningBy 105 = .ok (.invokevirtual 128, 3) := dq_182 (dq_w dwm_68 9 rfl) (dq_w dwm_68 10 rfl) (dq_w dwm_68 11 rfl) rfl
theorem dX6_eveningBy_108 : decode cX6_eveningBy 108 = .ok (.istore_n 3, 1) := dq_62 (dq_w dwm_68 12 rfl)
theorem dX6_eveningBy_109 : decode cX6_eveningBy 109 = .ok (.iconst 0, 1) := dq_3 (dq_w dwm_68 13 rfl)
theorem dX6_eveningBy_110 : decode cX6_eveningBy 110 = .ok (.istore 4, 2) := dq_54 (dq_w dwm_68 14 rfl) (dq_w dwm_68 15 rfl) rfl
theorem dX6_eveningBy_112 : decode cX6_eveningBy 112 = .ok (.iload 4, 2) := dq_21 (dq_w dwm_69 0 rfl) (dq_w dwm_69 1 rfl) rfl
theorem dX6_eveningBy_114 : decode cX6_eveningBy 114 = .ok (.aload_n 0, 1) := dq_42 (dq_w dwm_69 2 rfl)
theorem dX6_eveningBy_115 : decode cX6_eveningBy 115 = .ok (.getfield 89, 3) := dq_180 (dq_w dwm_69 3 rfl) (dq_w dwm_69 4 rfl) (dq_w dwm_69 5 rfl) rfl
theorem dX6_eveningBy_118 : decode cX6_eveningBy 118 = .ok (.if_icmp .ge 61, 3) := dq_162 (dq_w dwm_69 6 rfl) (dq_w dwm_69 7 rfl) (dq_w dwm_69 8 rfl) (dq_p (n := 61) rfl rfl)
theorem dX6_eveningBy_121 : decode cX6_eveningBy 121 = .ok (.aload_n 0, 1) := dq_42 (dq_w dwm_69 9 rfl)
theorem dX6_eveningBy_122 : decode cX6_eveningBy 122 = .ok (.getfield 31, 3) := dq_180 (dq_w dwm_69 10 rfl) (dq_w dwm_69 11 rfl) (dq_w dwm_69 12 rfl) rfl
theorem dX6_eveningBy_125 : decode cX6_eveningBy 125 = .ok (.bipush 7, 2) := dq_16 (dq_w dwm_69 13 rfl) (dq_w dwm_69 14 rfl) rfl
theorem dX6_eveningBy_127 : decode cX6_eveningBy 127 = .ok (.iload_n 2, 1) := dq_28 (dq_w dwm_69 15 rfl)
theorem dX6_eveningBy_128 : decode cX6_eveningBy 128 = .ok (.imul, 1) := dq_104 (dq_w dwm_70 0 rfl)
theorem dX6_eveningBy_129 : decode cX6_eveningBy 129 = .ok (.iload 4, 2) := dq_21 (dq_w dwm_70 1 rfl) (dq_w dwm_70 2 rfl) rfl
theorem dX6_eveningBy_131 : decode cX6_eveningBy 131 = .ok (.iadd, 1) := dq_96 (dq_w dwm_70 3 rfl)
theorem dX6_eveningBy_132 : decode cX6_eveningBy 132 = .ok (.aload_n 0, 1) := dq_42 (dq_w dwm_70 4 rfl)
theorem dX6_eveningBy_133 : decode cX6_eveningBy 133 = .ok (.getfield 31, 3) := dq_180 (dq_w dwm_70 5 rfl) (dq_w dwm_70 6 rfl) (dq_w dwm_70 7 rfl) rfl
theorem dX6_eveningBy_136 : decode cX6_eveningBy 136 = .ok (.bipush 7, 2) := dq_16 (dq_w dwm_70 8 rfl) (dq_w dwm_70 9 rfl) rfl
theorem dX6_eveningBy_138 : decode cX6_eveningBy 138 = .ok (.iload_n 2, 1) := dq_28 (dq_w dwm_70 10 rfl)
theorem dX6_eveningBy_139 : decode cX6_eveningBy 139 = .ok (.imul, 1) := dq_104 (dq_w dwm_70 11 rfl)
theorem dX6_eveningBy_140 : decode cX6_eveningBy 140 = .ok (.iload 4, 2) := dq_21 (dq_w dwm_70 12 rfl) (dq_w dwm_70 13 rfl) rfl
theorem dX6_eveningBy_142 : decode cX6_eveningBy 142 = .ok (.iadd, 1) := dq_96 (dq_w dwm_70 14 rfl)
theorem dX6_eveningBy_143 : decode cX6_eveningBy 143 = .ok (.iaload, 1) := dq_46 (dq_w dwm_70 15 rfl)
theorem dX6_eveningBy_144 : decode cX6_eveningBy 144 = .ok (.ifCond .ne 16, 3) := dq_154 (dq_w dwm_71 0 rfl) (dq_w dwm_71 1 rfl) (dq_w dwm_71 2 rfl) (dq_p (n := 16) rfl rfl)
theorem dX6_eveningBy_147 : decode cX6_eveningBy 147 = .ok (.iload_n 3, 1) := dq_29 (dq_w dwm_71 3 rfl)
theorem dX6_eveningBy_148 : decode cX6_eveningBy 148 = .ok (.iload 4, 2) := dq_21 (dq_w dwm_71 4 rfl) (dq_w dwm_71 5 rfl) rfl
theorem dX6_eveningBy_150 : decode cX6_eveningBy 150 = .ok (.invokestatic 131, 3) := dq_184 (dq_w dwm_71 6 rfl) (dq_w dwm_71 7 rfl) (dq_w dwm_71 8 rfl) rfl
theorem dX6_eveningBy_153 : decode cX6_eveningBy 153 = .ok (.ifCond .eq 7, 3) := dq_153 (dq_w dwm_71 9 rfl) (dq_w dwm_71 10 rfl) (dq_w dwm_71 11 rfl) (dq_p (n := 7) rfl rfl)
theorem dX6_eveningBy_156 : decode cX6_eveningBy 156 = .ok (.iconst 1, 1) := dq_4 (dq_w dwm_71 12 rfl)
theorem dX6_eveningBy_157 : decode cX6_eveningBy 157 = .ok (.goto 15, 3) := dq_167 (dq_w dwm_71 13 rfl) (dq_w dwm_71 14 rfl) (dq_w dwm_71 15 rfl) (dq_p (n := 15) rfl rfl)
theorem dX6_eveningBy_160 : decode cX6_eveningBy 160 = .ok (.aload_n 0, 1) := dq_42 (dq_w dwm_72 0 rfl)
theorem dX6_eveningBy_161 : decode cX6_eveningBy 161 = .ok (.getfield 31, 3) := dq_180 (dq_w dwm_72 1 rfl) (dq_w dwm_72 2 rfl) (dq_w dwm_72 3 rfl) rfl
theorem dX6_eveningBy_164 : decode cX6_eveningBy 164 = .ok (.bipush 7, 2) := dq_16 (dq_w dwm_72 4 rfl) (dq_w dwm_72 5 rfl) rfl
theorem dX6_eveningBy_166 : decode cX6_eveningBy 166 = .ok (.iload_n 2, 1) := dq_28 (dq_w dwm_72 6 rfl)
theorem dX6_eveningBy_167 : decode cX6_eveningBy 167 = .ok (.imul, 1) := dq_104 (dq_w dwm_72 7 rfl)
theorem dX6_eveningBy_168 : decode cX6_eveningBy 168 = .ok (.iload 4, 2) := dq_21 (dq_w dwm_72 8 rfl) (dq_w dwm_72 9 rfl) rfl
theorem dX6_eveningBy_170 : decode cX6_eveningBy 170 = .ok (.iadd, 1) := dq_96 (dq_w dwm_72 10 rfl)
theorem dX6_eveningBy_171 : decode cX6_eveningBy 171 = .ok (.iaload, 1) := dq_46 (dq_w dwm_72 11 rfl)
theorem dX6_eveningBy_172 : decode cX6_eveningBy 172 = .ok (.iastore, 1) := dq_79 (dq_w dwm_72 12 rfl)
theorem dX6_eveningBy_173 : decode cX6_eveningBy 173 = .ok (.iinc 4 1, 3) := dq_132 (dq_w dwm_72 13 rfl) (dq_w dwm_72 14 rfl) rfl (dq_w dwm_72 15 rfl) rfl
theorem dX6_eveningBy_176 : decode cX6_eveningBy 176 = .ok (.goto (-64), 3) := dq_167 (dq_w dwm_73 0 rfl) (dq_w dwm_73 1 rfl) (dq_w dwm_73 2 rfl) (dq_n (m := 64) rfl rfl)
theorem dX6_eveningBy_179 : decode cX6_eveningBy 179 = .ok (.iinc 2 1, 3) := dq_132 (dq_w dwm_73 3 rfl) (dq_w dwm_73 4 rfl) rfl (dq_w dwm_73 5 rfl) rfl
theorem dX6_eveningBy_182 : decode cX6_eveningBy 182 = .ok (.goto (-122), 3) := dq_167 (dq_w dwm_73 6 rfl) (dq_w dwm_73 7 rfl) (dq_w dwm_73 8 rfl) (dq_n (m := 122) rfl rfl)
theorem dX6_eveningBy_185 : decode cX6_eveningBy 185 = .ok (.return_, 1) := dq_177 (dq_w dwm_73 9 rfl)
theorem dwm_74 : (cX6_goEvenings.data.toList.drop 0).take 16 = [3, 61, 28, 27, 162, 0, 14, 42, 3, 182, 0, 135, 132, 2, 1, 167] := by decide +kernel
theorem dwm_75 : (cX6_goEvenings.data.toList.drop 16).take 16 = [255, 243, 177] := by decide +kernel
theorem dX6_goEvenings_0 : decode cX6_goEvenings 0 = .ok (.iconst 0, 1) := dq_3 (dq_w dwm_74 0 rfl)
theorem dX6_goEvenings_1 : decode cX6_goEvenings 1 = .ok (.istore_n 2, 1) := dq_61 (dq_w dwm_74 1 rfl)
theorem dX6_goEvenings_2 : decode cX6_goEvenings 2 = .ok (.iload_n 2, 1) := dq_28 (dq_w dwm_74 2 rfl)
theorem dX6_goEvenings_3 : decode cX6_goEvenings 3 = .ok (.iload_n 1, 1) := dq_27 (dq_w dwm_74 3 rfl)
theorem dX6_goEvenings_4 : decode cX6_goEvenings 4 = .ok (.if_icmp .ge 14, 3) := dq_162 (dq_w dwm_74 4 rfl) (dq_w dwm_74 5 rfl) (dq_w dwm_74 6 rfl) (dq_p (n := 14) rfl rfl)
theorem dX6_goEvenings_7 : decode cX6_goEvenings 7 = .ok (.aload_n 0, 1) := dq_42 (dq_w dwm_74 7 rfl)
theorem dX6_goEvenings_8 : decode cX6_goEvenings 8 = .ok (.iconst 0, 1) := dq_3 (dq_w dwm_74 8 rfl)
theorem dX6_goEvenings_9 : decode cX6_goEvenings 9 = .ok (.invokevirtual 135, 3) := dq_182 (dq_w dwm_74 9 rfl) (dq_w dwm_74 10 rfl) (dq_w dwm_74 11 rfl) rfl
theorem dX6_goEvenings_12 : decode cX6_goEvenings 12 = .ok (.iinc 2 1, 3) := dq_132 (dq_w dwm_74 12 rfl) (dq_w dwm_74 13 rfl) rfl (dq_w dwm_74 14 rfl) rfl
theorem dX6_goEvenings_15 : decode cX6_goEvenings 15 = .ok (.goto (-13), 3) := dq_167 (dq_w dwm_74 15 rfl) (dq_w dwm_75 0 rfl) (dq_w dwm_75 1 rfl) (dq_n (m := 13) rfl rfl)
theorem dX6_goEvenings_18 : decode cX6_goEvenings 18 = .ok (.return_, 1) := dq_177 (dq_w dwm_75 2 rfl)
theorem dwm_76 : (cX6_houseComes.data.toList.drop 0).take 16 = [27, 16, 6, 162, 0, 23, 29, 184, 0, 139, 153, 0, 16, 42, 180, 0] := by decide +kernel
theorem dwm_77 : (cX6_houseComes.data.toList.drop 16).take 16 = [89, 16, 7, 162, 0, 7, 4, 167, 0, 4, 3, 54, 4, 21, 4, 153] := by decide +kernel
theorem dwm_78 : (cX6_houseComes.data.toList.drop 32).take 16 = [0, 85, 42, 180, 0, 7, 42, 180, 0, 89, 27, 79, 42, 180, 0, 13] := by decide +kernel
theorem dwm_79 : (cX6_houseComes.data.toList.drop 48).take 16 = [42, 180, 0, 89, 28, 79, 42, 180, 0, 16, 42, 180, 0, 89, 29, 79] := by decide +kernel
theorem dwm_80 : (cX6_houseComes.data.toList.drop 64).take 16 = [42, 180, 0, 19, 42, 180, 0, 89, 4, 79, 3, 54, 5, 21, 5, 16] := by decide +kernel
theorem dwm_81 : (cX6_houseComes.data.toList.drop 80).take 16 = [6, 162, 0, 25, 42, 180, 0, 31, 16, 7, 21, 5, 104, 42, 180, 0] := by decide +kernel
theorem dwm_82 : (cX6_houseComes.data.toList.drop 96).take 16 = [89, 96, 3, 79, 132, 5, 1, 167, 255, 230, 42, 89, 180, 0, 89, 4] := by decide +kernel
theorem dwm_83 : (cX6_houseComes.data.toList.drop 112).take 16 = [96, 181, 0, 89, 21, 4, 172] := by decide +kernel
theorem dX6_houseComes_0 : decode cX6_houseComes 0 = .ok (.iload_n 1, 1) := dq_27 (dq_w dwm_76 0 rfl)
theorem dX6_houseComes_1 : decode cX6_houseComes 1 = .ok (.bipush 6, 2) := dq_16 (dq_w dwm_76 1 rfl) (dq_w dwm_76 2 rfl) rfl
theorem dX6_houseComes_3 : decode cX6_houseComes 3 = .ok (.if_icmp .ge 23, 3) := dq_162 (dq_w dwm_76 3 rfl) (dq_w dwm_76 4 rfl) (dq_w dwm_76 5 rfl) (dq_p (n := 23) rfl rfl)
theorem dX6_houseComes_6 : decode cX6_houseComes 6 = .ok (.iload_n 3, 1) := dq_29 (dq_w dwm_76 6 rfl)
theorem dX6_houseComes_7 : decode cX6_houseComes 7 = .ok (.invokestatic 139, 3) := dq_184 (dq_w dwm_76 7 rfl) (dq_w dwm_76 8 rfl) (dq_w dwm_76 9 rfl) rfl
theorem dX6_houseComes_10 : decode cX6_houseComes 10 = .ok (.ifCond .eq 16, 3) := dq_153 (dq_w dwm_76 10 rfl) (dq_w dwm_76 11 rfl) (dq_w dwm_76 12 rfl) (dq_p (n := 16) rfl rfl)
theorem dX6_houseComes_13 : decode cX6_houseComes 13 = .ok (.aload_n 0, 1) := dq_42 (dq_w dwm_76 13 rfl)
theorem dX6_houseComes_14 : decode cX6_houseComes 14 = .ok (.getfield 89, 3) := dq_180 (dq_w dwm_76 14 rfl) (dq_w dwm_76 15 rfl) (dq_w dwm_77 0 rfl) rfl
theorem dX6_houseComes_17 : decode cX6_houseComes 17 = .ok (.bipush 7, 2) := dq_16 (dq_w dwm_77 1 rfl) (dq_w dwm_77 2 rfl) rfl
theorem dX6_houseComes_19 : decode cX6_houseComes 19 = .ok (.if_icmp .ge 7, 3) := dq_162 (dq_w dwm_77 3 rfl) (dq_w dwm_77 4 rfl) (dq_w dwm_77 5 rfl) (dq_p (n := 7) rfl rfl)
theorem dX6_houseComes_22 : decode cX6_houseComes 22 = .ok (.iconst 1, 1) := dq_4 (dq_w dwm_77 6 rfl)
theorem dX6_houseComes_23 : decode cX6_houseComes 23 = .ok (.goto 4, 3) := dq_167 (dq_w dwm_77 7 rfl) (dq_w dwm_77 8 rfl) (dq_w dwm_77 9 rfl) (dq_p (n := 4) rfl rfl)
theorem dX6_houseComes_26 : decode cX6_houseComes 26 = .ok (.iconst 0, 1) := dq_3 (dq_w dwm_77 10 rfl)
theorem dX6_houseComes_27 : decode cX6_houseComes 27 = .ok (.istore 4, 2) := dq_54 (dq_w dwm_77 11 rfl) (dq_w dwm_77 12 rfl) rfl
theorem dX6_houseComes_29 : decode cX6_houseComes 29 = .ok (.iload 4, 2) := dq_21 (dq_w dwm_77 13 rfl) (dq_w dwm_77 14 rfl) rfl
theorem dX6_houseComes_31 : decode cX6_houseComes 31 = .ok (.ifCond .eq 85, 3) := dq_153 (dq_w dwm_77 15 rfl) (dq_w dwm_78 0 rfl) (dq_w dwm_78 1 rfl) (dq_p (n := 85) rfl rfl)
theorem dX6_houseComes_34 : decode cX6_houseComes 34 = .ok (.aload_n 0, 1) := dq_42 (dq_w dwm_78 2 rfl)
theorem dX6_houseComes_35 : decode cX6_houseComes 35 = .ok (.getfield 7, 3) := dq_180 (dq_w dwm_78 3 rfl) (dq_w dwm_78 4 rfl) (dq_w dwm_78 5 rfl) rfl
theorem dX6_houseComes_38 : decode cX6_houseComes 38 = .ok (.aload_n 0, 1) := dq_42 (dq_w dwm_78 6 rfl)
theorem dX6_houseComes_39 : decode cX6_houseComes 39 = .ok (.getfield 89, 3) := dq_180 (dq_w dwm_78 7 rfl) (dq_w dwm_78 8 rfl) (dq_w dwm_78 9 rfl) rfl
theorem dX6_houseComes_42 : decode cX6_houseComes 42 = .ok (.iload_n 1, 1) := dq_27 (dq_w dwm_78 10 rfl)
theorem dX6_houseComes_43 : decode cX6_houseComes 43 = .ok (.iastore, 1) := dq_79 (dq_w dwm_78 11 rfl)
theorem dX6_houseComes_44 : decode cX6_houseComes 44 = .ok (.aload_n 0, 1) := dq_42 (dq_w dwm_78 12 rfl)
theorem dX6_houseComes_45 : decode cX6_houseComes 45 = .ok (.getfield 13, 3) := dq_180 (dq_w dwm_78 13 rfl) (dq_w dwm_78 14 rfl) (dq_w dwm_78 15 rfl) rfl
theorem dX6_houseComes_48 : decode cX6_houseComes 48 = .ok (.aload_n 0, 1) := dq_42 (dq_w dwm_79 0 rfl)
theorem dX6_houseComes_49 : decode cX6_houseComes 49 = .ok (.getfield 89, 3) := dq_180 (dq_w dwm_79 1 rfl) (dq_w dwm_79 2 rfl) (dq_w dwm_79 3 rfl) rfl
theorem dX6_houseComes_52 : decode cX6_houseComes 52 = .ok (.iload_n 2, 1) := dq_28 (dq_w dwm_79 4 rfl)
theorem dX6_houseComes_53 : decode cX6_houseComes 53 = .ok (.iastore, 1) := dq_79 (dq_w dwm_79 5 rfl)
theorem dX6_houseComes_54 : decode cX6_houseComes 54 = .ok (.aload_n 0, 1) := dq_42 (dq_w dwm_79 6 rfl)
theorem dX6_houseComes_55 : decode cX6_houseComes 55 = .ok (.getfield 16, 3) := dq_180 (dq_w dwm_79 7 rfl) (dq_w dwm_79 8 rfl) (dq_w dwm_79 9 rfl) rfl
theorem dX6_houseComes_58 : decode cX6_houseComes 58 = .ok (.aload_n 0, 1) := dq_42 (dq_w dwm_79 10 rfl)
theorem dX6_houseComes_59 : decode cX6_houseComes 59 = .ok (.getfield 89, 3) := dq_180 (dq_w dwm_79 11 rfl) (dq_w dwm_79 12 rfl) (dq_w dwm_79 13 rfl) rfl
theorem dX6_houseComes_62 : decode cX6_houseComes 62 = .ok (.iload_n 3, 1) := dq_29 (dq_w dwm_79 14 rfl)
theorem dX6_houseComes_63 : decode cX6_houseComes 63 = .ok (.iastore, 1) := dq_79 (dq_w dwm_79 15 rfl)
theorem dX6_houseComes_64 : decode cX6_houseComes 64 = .ok (.aload_n 0, 1) := dq_42 (dq_w dwm_80 0 rfl)
theorem dX6_houseComes_65 : decode cX6_houseComes 65 = .ok (.getfield 19, 3) := dq_180 (dq_w dwm_80 1 rfl) (dq_w dwm_80 2 rfl) (dq_w dwm_80 3 rfl) rfl
theorem dX6_houseComes_68 : decode cX6_houseComes 68 = .ok (.aload_n 0, 1) := dq_42 (dq_w dwm_80 4 rfl)
theorem dX6_houseComes_69 : decode cX6_houseComes 69 = .ok (.getfield 89, 3) := dq_180 (dq_w dwm_80 5 rfl) (dq_w dwm_80 6 rfl) (dq_w dwm_80 7 rfl) rfl
theorem dX6_houseComes_72 : decode cX6_houseComes 72 = .ok (.iconst 1, 1) := dq_4 (dq_w dwm_80 8 rfl)
theorem dX6_houseComes_73 : decode cX6_houseComes 73 = .ok (.iastore, 1) := dq_79 (dq_w dwm_80 9 rfl)
theorem dX6_houseComes_74 : decode cX6_houseComes 74 = .ok (.iconst 0, 1) := dq_3 (dq_w dwm_80 10 rfl)
theorem dX6_houseComes_75 : decode cX6_houseComes 75 = .ok (.istore 5, 2) := dq_54 (dq_w dwm_80 11 rfl) (dq_w dwm_80 12 rfl) rfl
theorem dX6_houseComes_77 : decode cX6_houseComes 77 = .ok (.iload 5, 2) := dq_21 (dq_w dwm_80 13 rfl) (dq_w dwm_80 14 rfl) rfl
theorem dX6_houseComes_79 : decode cX6_houseComes 79 = .ok (.bipush 6, 2) := dq_16 (dq_w dwm_80 15 rfl) (dq_w dwm_81 0 rfl) rfl
theorem dX6_houseComes_81 : decode cX6_houseComes 81 = .ok (.if_icmp .ge 25, 3) := dq_162 (dq_w dwm_81 1 rfl) (dq_w dwm_81 2 rfl) (dq_w dwm_81 3 rfl) (dq_p (n := 25) rfl rfl)
theorem dX6_houseComes_84 : decode cX6_houseComes 84 = .ok (.aload_n 0, 1) := dq_42 (dq_w dwm_81 4 rfl)
theorem dX6_houseComes_85 : decode cX6_houseComes 85 = .ok (.getfield 31, 3) := dq_180 (dq_w dwm_81 5 rfl) (dq_w dwm_81 6 rfl) (dq_w dwm_81 7 rfl) rfl
theorem dX6_houseComes_88 : decode cX6_houseComes 88 = .ok (.bipush 7, 2) := dq_16 (dq_w dwm_81 8 rfl) (dq_w dwm_81 9 rfl) rfl
theorem dX6_houseComes_90 : decode cX6_houseComes 90 = .ok (.iload 5, 2) := dq_21 (dq_w dwm_81 10 rfl) (dq_w dwm_81 11 rfl) rfl
theorem dX6_houseComes_92 : decode cX6_houseComes 92 = .ok (.imul, 1) := dq_104 (dq_w dwm_81 12 rfl)
theorem dX6_houseComes_93 : decode cX6_houseComes 93 = .ok (.aload_n 0, 1) := dq_42 (dq_w dwm_81 13 rfl)
theorem dX6_houseComes_94 : decode cX6_houseComes 94 = .ok (.getfield 89, 3) := dq_180 (dq_w dwm_81 14 rfl) (dq_w dwm_81 15 rfl) (dq_w dwm_82 0 rfl) rfl
theorem dX6_houseComes_97 : decode cX6_houseComes 97 = .ok (.iadd, 1) := dq_96 (dq_w dwm_82 1 rfl)
theorem dX6_houseComes_98 : decode cX6_houseComes 98 = .ok (.iconst 0, 1) := dq_3 (dq_w dwm_82 2 rfl)
theorem dX6_houseComes_99 : decode cX6_houseComes 99 = .ok (.iastore, 1) := dq_79 (dq_w dwm_82 3 rfl)
theorem dX6_houseComes_100 : decode cX6_houseComes 100 = .ok (.iinc 5 1, 3) := dq_132 (dq_w dwm_82 4 rfl) (dq_w dwm_82 5 rfl) rfl (dq_w dwm_82 6 rfl) rfl
theorem dX6_houseComes_103 : decode cX6_houseComes 103 = .ok (.goto (-26), 3) := dq_167 (dq_w dwm_82 7 rfl) (dq_w dwm_82 8 rfl) (dq_w dwm_82 9 rfl) (dq_n (m := 26) rfl rfl)
theorem dX6_houseComes_106 : decode cX6_houseComes 106 = .ok (.aload_n 0, 1) := dq_42 (dq_w dwm_82 10 rfl)
theorem dX6_houseComes_107 : decode cX6_houseComes 107 = .ok (.dup, 1) := dq_89 (dq_w dwm_82 11 rfl)
theorem dX6_houseComes_108 : decode cX6_houseComes 108 = .ok (.getfield 89, 3) := dq_180 (dq_w dwm_82 12 rfl) (dq_w dwm_82 13 rfl) (dq_w dwm_82 14 rfl) rfl
theorem dX6_houseComes_111 : decode cX6_houseComes 111 = .ok (.iconst 1, 1) := dq_4 (dq_w dwm_82 15 rfl)
theorem dX6_houseComes_112 : decode cX6_houseComes 112 = .ok (.iadd, 1) := dq_96 (dq_w dwm_83 0 rfl)
theorem dX6_houseComes_113 : decode cX6_houseComes 113 = .ok (.putfield 89, 3) := dq_181 (dq_w dwm_83 1 rfl) (dq_w dwm_83 2 rfl) (dq_w dwm_83 3 rfl) rfl
theorem dX6_houseComes_116 : decode cX6_houseComes 116 = .ok (.iload 4, 2) := dq_21 (dq_w dwm_83 4 rfl) (dq_w dwm_83 5 rfl) rfl
theorem dX6_houseComes_118 : decode cX6_houseComes 118 = .ok (.ireturn, 1) := dq_172 (dq_w dwm_83 6 rfl)
theorem dwm_84 : (cX6_walkerComes.data.toList.drop 0).take 16 = [27, 184, 0, 139, 153, 0, 28, 28, 184, 0, 139, 153, 0, 21, 29, 5] := by decide +kernel
theorem dwm_85 : (cX6_walkerComes.data.toList.drop 16).take 16 = [163, 0, 16, 42, 180, 0, 92, 16, 6, 162, 0, 7, 4, 167, 0, 4] := by decide +kernel
theorem dwm_86 : (cX6_walkerComes.data.toList.drop 32).take 16 = [3, 54, 4, 21, 4, 153, 0, 75, 42, 180, 0, 22, 42, 180, 0, 92] := by decide +kernel
theorem dwm_87 : (cX6_walkerComes.data.toList.drop 48).take 16 = [27, 79, 42, 180, 0, 25, 42, 180, 0, 92, 28, 79, 42, 180, 0, 28] := by decide +kernel
theorem dwm_88 : (cX6_walkerComes.data.toList.drop 64).take 16 = [42, 180, 0, 92, 29, 79, 3, 54, 5, 21, 5, 16, 7, 162, 0, 25] := by decide +kernel
theorem dwm_89 : (cX6_walkerComes.data.toList.drop 80).take 16 = [42, 180, 0, 31, 16, 7, 42, 180, 0, 92, 104, 21, 5, 96, 3, 79] := by decide +kernel
theorem dwm_90 : (cX6_walkerComes.data.toList.drop 96).take 16 = [132, 5, 1, 167, 255, 230, 42, 89, 180, 0, 92, 4, 96, 181, 0, 92] := by decide +kernel
theorem dwm_91 : (cX6_walkerComes.data.toList.drop 112).take 16 = [21, 4, 172] := by decide +kernel
theorem dX6_walkerComes_0 : decode cX6_walkerComes 0 = .ok (.iload_n 1, 1) := dq_27 (dq_w dwm_84 0 rfl)
theorem dX6_walkerComes_1 : decode cX6_walkerComes 1 = .ok (.invokestatic 139, 3) := dq_184 (dq_w dwm_84 1 rfl) (dq_w dwm_84 2 rfl) (dq_w dwm_84 3 rfl) rfl
theorem dX6_walkerComes_4 : decode cX6_walkerComes 4 = .ok (.ifCond .eq 28, 3) := dq_153 (dq_w dwm_84 4 rfl) (dq_w dwm_84 5 rfl) (dq_w dwm_84 6 rfl) (dq_p (n := 28) rfl rfl)
theorem dX6_walkerComes_7 : decode cX6_walkerComes 7 = .ok (.iload_n 2, 1) := dq_28 (dq_w dwm_84 7 rfl)
theorem dX6_walkerComes_8 : decode cX6_walkerComes 8 = .ok (.invokestatic 139, 3) := dq_184 (dq_w dwm_84 8 rfl) (dq_w dwm_84 9 rfl) (dq_w dwm_84 10 rfl) rfl
theorem dX6_walkerComes_11 : decode cX6_walkerComes 11 = .ok (.ifCond .eq 21, 3) := dq_153 (dq_w dwm_84 11 rfl) (dq_w dwm_84 12 rfl) (dq_w dwm_84 13 rfl) (dq_p (n := 21) rfl rfl)
theorem dX6_walkerComes_14 : decode cX6_walkerComes 14 = .ok (.iload_n 3, 1) := dq_29 (dq_w dwm_84 14 rfl)
theorem dX6_walkerComes_15 : decode cX6_walkerComes 15 = .ok (.iconst 2, 1) := dq_5 (dq_w dwm_84 15 rfl)
theorem dX6_walkerComes_16 : decode cX6_walkerComes 16 = .ok (.if_icmp .gt 16, 3) := dq_163 (dq_w dwm_85 0 rfl) (dq_w dwm_85 1 rfl) (dq_w dwm_85 2 rfl) (dq_p (n := 16) rfl rfl)
theorem dX6_walkerComes_19 : decode cX6_walkerComes 19 = .ok (.aload_n 0, 1) := dq_42 (dq_w dwm_85 3 rfl)
theorem dX6_walkerComes_20 : decode cX6_walkerComes 20 = .ok (.getfield 92, 3) := dq_180 (dq_w dwm_85 4 rfl) (dq_w dwm_85 5 rfl) (dq_w dwm_85 6 rfl) rfl
theorem dX6_walkerComes_23 : decode cX6_walkerComes 23 = .ok (.bipush 6, 2) := dq_16 (dq_w dwm_85 7 rfl) (dq_w dwm_85 8 rfl) rfl
theorem dX6_walkerComes_25 : decode cX6_walkerComes 25 = .ok (.if_icmp .ge 7, 3) := dq_162 (dq_w dwm_85 9 rfl) (dq_w dwm_85 10 rfl) (dq_w dwm_85 11 rfl) (dq_p (n := 7) rfl rfl)
theorem dX6_walkerComes_28 : decode cX6_walkerComes 28 = .ok (.iconst 1, 1) := dq_4 (dq_w dwm_85 12 rfl)
theorem dX6_walkerComes_29 : decode cX6_walkerComes 29 = .ok (.goto 4, 3) := dq_167 (dq_w dwm_85 13 rfl) (dq_w dwm_85 14 rfl) (dq_w dwm_85 15 rfl) (dq_p (n := 4) rfl rfl)
theorem dX6_walkerComes_32 : decode cX6_walkerComes 32 = .ok (.iconst 0, 1) := dq_3 (dq_w dwm_86 0 rfl)
theorem dX6_walkerComes_33 : decode cX6_walkerComes 33 = .ok (.istore 4, 2) := dq_54 (dq_w dwm_86 1 rfl) (dq_w dwm_86 2 rfl) rfl
theorem dX6_walkerComes_35 : decode cX6_walkerComes 35 = .ok (.iload 4, 2) := dq_21 (dq_w dwm_86 3 rfl) (dq_w dwm_86 4 rfl) rfl
theorem dX6_walkerComes_37 : decode cX6_walkerComes 37 = .ok (.ifCond .eq 75, 3) := dq_153 (dq_w dwm_86 5 rfl) (dq_w dwm_86 6 rfl) (dq_w dwm_86 7 rfl) (dq_p (n := 75) rfl rfl)
theorem dX6_walkerComes_40 : decode cX6_walkerComes 40 = .ok (.aload_n 0, 1) := dq_42 (dq_w dwm_86 8 rfl)
theorem dX6_walkerComes_41 : decode cX6_walkerComes 41 = .ok (.getfield 22, 3) := dq_180 (dq_w dwm_86 9 rfl) (dq_w dwm_86 10 rfl) (dq_w dwm_86 11 rfl) rfl
theorem dX6_walkerComes_44 : decode cX6_walkerComes 44 = .ok (.aload_n 0, 1) := dq_42 (dq_w dwm_86 12 rfl)
theorem dX6_walkerComes_45 : decode cX6_walkerComes 45 = .ok (.getfield 92, 3) := dq_180 (dq_w dwm_86 13 rfl) (dq_w dwm_86 14 rfl) (dq_w dwm_86 15 rfl) rfl
theorem dX6_walkerComes_48 : decode cX6_walkerComes 48 = .ok (.iload_n 1, 1) := dq_27 (dq_w dwm_87 0 rfl)
theorem dX6_walkerComes_49 : decode cX6_walkerComes 49 = .ok (.iastore, 1) := dq_79 (dq_w dwm_87 1 rfl)
theorem dX6_walkerComes_50 : decode cX6_walkerComes 50 = .ok (.aload_n 0, 1) := dq_42 (dq_w dwm_87 2 rfl)
theorem dX6_walkerComes_51 : decode cX6_walkerComes 51 = .ok (.getfield 25, 3) := dq_180 (dq_w dwm_87 3 rfl) (dq_w dwm_87 4 rfl) (dq_w dwm_87 5 rfl) rfl
theorem dX6_walkerComes_54 : decode cX6_walkerComes 54 = .ok (.aload_n 0, 1) := dq_42 (dq_w dwm_87 6 rfl)
theorem dX6_walkerComes_55 : decode cX6_walkerComes 55 = .ok (.getfield 92, 3) := dq_180 (dq_w dwm_87 7 rfl) (dq_w dwm_87 8 rfl) (dq_w dwm_87 9 rfl) rfl
theorem dX6_walkerComes_58 : decode cX6_walkerComes 58 = .ok (.iload_n 2, 1) := dq_28 (dq_w dwm_87 10 rfl)
theorem dX6_walkerComes_59 : decode cX6_walkerComes 59 = .ok (.iastore, 1) := dq_79 (dq_w dwm_87 11 rfl)
theorem dX6_walkerComes_60 : decode cX6_walkerComes 60 = .ok (.aload_n 0, 1) := dq_42 (dq_w dwm_87 12 rfl)
theorem dX6_walkerComes_61 : decode cX6_walkerComes 61 = .ok (.getfield 28, 3) := dq_180 (dq_w dwm_87 13 rfl) (dq_w dwm_87 14 rfl) (dq_w dwm_87 15 rfl) rfl
theorem dX6_walkerComes_64 : decode cX6_walkerComes 64 = .ok (.aload_n 0, 1) := dq_42 (dq_w dwm_88 0 rfl)
theorem dX6_walkerComes_65 : decode cX6_walkerComes 65 = .ok (.getfield 92, 3) := dq_180 (dq_w dwm_88 1 rfl) (dq_w dwm_88 2 rfl) (dq_w dwm_88 3 rfl) rfl
theorem dX6_walkerComes_68 : decode cX6_walkerComes 68 = .ok (.iload_n 3, 1) := dq_29 (dq_w dwm_88 4 rfl)
theorem dX6_walkerComes_69 : decode cX6_walkerComes 69 = .ok (.iastore, 1) := dq_79 (dq_w dwm_88 5 rfl)
theorem dX6_walkerComes_70 : decode cX6_walkerComes 70 = .ok (.iconst 0, 1) := dq_3 (dq_w dwm_88 6 rfl)
theorem dX6_walkerComes_71 : decode cX6_walkerComes 71 = .ok (.istore 5, 2) := dq_54 (dq_w dwm_88 7 rfl) (dq_w dwm_88 8 rfl) rfl
theorem dX6_walkerComes_73 : decode cX6_walkerComes 73 = .ok (.iload 5, 2) := dq_21 (dq_w dwm_88 9 rfl) (dq_w dwm_88 10 rfl) rfl
theorem dX6_walkerComes_75 : decode cX6_walkerComes 75 = .ok (.bipush 7, 2) := dq_16 (dq_w dwm_88 11 rfl) (dq_w dwm_88 12 rfl) rfl
theorem dX6_walkerComes_77 : decode cX6_walkerComes 77 = .ok (.if_icmp .ge 25, 3) := dq_162 (dq_w dwm_88 13 rfl) (dq_w dwm_88 14 rfl) (dq_w dwm_88 15 rfl) (dq_p (n := 25) rfl rfl)
theorem dX6_walkerComes_80 : decode cX6_walkerComes 80 = .ok (.aload_n 0, 1) := dq_42 (dq_w dwm_89 0 rfl)
theorem dX6_walkerComes_81 : decode cX6_walkerComes 81 = .ok (.getfield 31, 3) := dq_180 (dq_w dwm_89 1 rfl) (dq_w dwm_89 2 rfl) (dq_w dwm_89 3 rfl) rfl
theorem dX6_walkerComes_84 : decode cX6_walkerComes 84 = .ok (.bipush 7, 2) := dq_16 (dq_w dwm_89 4 rfl) (dq_w dwm_89 5 rfl) rfl
theorem dX6_walkerComes_86 : decode cX6_walkerComes 86 = .ok (.aload_n 0, 1) := dq_42 (dq_w dwm_89 6 rfl)
theorem dX6_walkerComes_87 : decode cX6_walkerComes 87 = .ok (.getfield 92, 3) := dq_180 (dq_w dwm_89 7 rfl) (dq_w dwm_89 8 rfl) (dq_w dwm_89 9 rfl) rfl
theorem dX6_walkerComes_90 : decode cX6_walkerComes 90 = .ok (.imul, 1) := dq_104 (dq_w dwm_89 10 rfl)
theorem dX6_walkerComes_91 : decode cX6_walkerComes 91 = .ok (.iload 5, 2) := dq_21 (dq_w dwm_89 11 rfl) (dq_w dwm_89 12 rfl) rfl
theorem dX6_walkerComes_93 : decode cX6_walkerComes 93 = .ok (.iadd, 1) := dq_96 (dq_w dwm_89 13 rfl)
theorem dX6_walkerComes_94 : decode cX6_walkerComes 94 = .ok (.iconst 0, 1) := dq_3 (dq_w dwm_89 14 rfl)
theorem dX6_walkerComes_95 : decode cX6_walkerComes 95 = .ok (.iastore, 1) := dq_79 (dq_w dwm_89 15 rfl)
theorem dX6_walkerComes_96 : decode cX6_walkerComes 96 = .ok (.iinc 5 1, 3) := dq_132 (dq_w dwm_90 0 rfl) (dq_w dwm_90 1 rfl) rfl (dq_w dwm_90 2 rfl) rfl
theorem dX6_walkerComes_99 : decode cX6_walkerComes 99 = .ok (.goto (-26), 3) := dq_167 (dq_w dwm_90 3 rfl) (dq_w dwm_90 4 rfl) (dq_w dwm_90 5 rfl) (dq_n (m := 26) rfl rfl)
theorem dX6_walkerComes_102 : decode cX6_walkerComes 102 = .ok (.aload_n 0, 1) := dq_42 (dq_w dwm_90 6 rfl)
theorem dX6_walkerComes_103 : decode cX6_walkerComes 103 = .ok (.dup, 1) := dq_89 (dq_w dwm_90 7 rfl)
theorem dX6_walkerComes_104 : decode cX6_walkerComes 104 = .ok (.getfield 92, 3) := dq_180 (dq_w dwm_90 8 rfl) (dq_w dwm_90 9 rfl) (dq_w dwm_90 10 rfl) rfl
theorem dX6_walkerComes_107 : decode cX6_walkerComes 107 = .ok (.iconst 1, 1) := dq_4 (dq_w dwm_90 11 rfl)
theorem dX6_walkerComes_108 : decode cX6_walkerComes 108 = .ok (.iadd, 1) := dq_96 (dq_w dwm_90 12 rfl)
theorem dX6_walkerComes_109 : decode cX6_walkerComes 109 = .ok (.putfield 92, 3) := dq_181 (dq_w dwm_90 13 rfl) (dq_w dwm_90 14 rfl) (dq_w dwm_90 15 rfl) rfl
theorem dX6_walkerComes_112 : decode cX6_walkerComes 112 = .ok (.iload 4, 2) := dq_21 (dq_w dwm_91 0 rfl) (dq_w dwm_91 1 rfl) rfl
theorem dX6_walkerComes_114 : decode cX6_walkerComes 114 = .ok (.ireturn, 1) := dq_172 (dq_w dwm_91 2 rfl)
theorem dwm_92 : (cX6_feed.data.toList.drop 0).take 16 = [42, 3, 181, 0, 79, 27, 156, 0, 10, 42, 16, 252, 182, 0, 143, 172] := by decide +kernel
theorem dwm_93 : (cX6_feed.data.toList.drop 16).take 16 = [27, 17, 0, 255, 163, 0, 12, 42, 180, 0, 146, 16, 96, 160, 0, 10] := by decide +kernel
theorem dwm_94 : (cX6_feed.data.toList.drop 32).take 16 = [42, 16, 250, 182, 0, 143, 172, 42, 180, 0, 37, 42, 180, 0, 146, 27] := by decide +kernel
theorem dwm_95 : (cX6_feed.data.toList.drop 48).take 16 = [79, 42, 89, 180, 0, 146, 4, 96, 181, 0, 146, 42, 180, 0, 146, 172] := by decide +kernel
theorem dX6_feed_0 : decode cX6_feed 0 = .ok (.aload_n 0, 1) := dq_42 (dq_w dwm_92 0 rfl)
theorem dX6_feed_1 : decode cX6_feed 1 = .ok (.iconst 0, 1) := dq_3 (dq_w dwm_92 1 rfl)
theorem dX6_feed_2 : decode cX6_feed 2 = .ok (.putfield 79, 3) := dq_181 (dq_w dwm_92 2 rfl) (dq_w dwm_92 3 rfl) (dq_w dwm_92 4 rfl) rfl
theorem dX6_feed_5 : decode cX6_feed 5 = .ok (.iload_n 1, 1) := dq_27 (dq_w dwm_92 5 rfl)
theorem dX6_feed_6 : decode cX6_feed 6 = .ok (.ifCond .ge 10, 3) := dq_156 (dq_w dwm_92 6 rfl) (dq_w dwm_92 7 rfl) (dq_w dwm_92 8 rfl) (dq_p (n := 10) rfl rfl)
theorem dX6_feed_9 : decode cX6_feed 9 = .ok (.aload_n 0, 1) := dq_42 (dq_w dwm_92 9 rfl)
theorem dX6_feed_10 : decode cX6_feed 10 = .ok (.bipush (-4), 2) := dq_16 (dq_w dwm_92 10 rfl) (dq_w dwm_92 11 rfl) rfl
theorem dX6_feed_12 : decode cX6_feed 12 = .ok (.invokevirtual 143, 3) := dq_182 (dq_w dwm_92 12 rfl) (dq_w dwm_92 13 rfl) (dq_w dwm_92 14 rfl) rfl
theorem dX6_feed_15 : decode cX6_feed 15 = .ok (.ireturn, 1) := dq_172 (dq_w dwm_92 15 rfl)
theorem dX6_feed_16 : decode cX6_feed 16 = .ok (.iload_n 1, 1) := dq_27 (dq_w dwm_93 0 rfl)
theorem dX6_feed_17 : decode cX6_feed 17 = .ok (.sipush 255, 3) := dq_17 (dq_w dwm_93 1 rfl) (dq_w dwm_93 2 rfl) (dq_w dwm_93 3 rfl) (dq_p (n := 255) rfl rfl)
theorem dX6_feed_20 : decode cX6_feed 20 = .ok (.if_icmp .gt 12, 3) := dq_163 (dq_w dwm_93 4 rfl) (dq_w dwm_93 5 rfl) (dq_w dwm_93 6 rfl) (dq_p (n := 12) rfl rfl)
theorem dX6_feed_23 : decode cX6_feed 23 = .ok (.aload_n 0, 1) := dq_42 (dq_w dwm_93 7 rfl)
theorem dX6_feed_24 : decode cX6_feed 24 = .ok (.getfield 146, 3) := dq_180 (dq_w dwm_93 8 rfl) (dq_w dwm_93 9 rfl) (dq_w dwm_93 10 rfl) rfl
theorem dX6_feed_27 : decode cX6_feed 27 = .ok (.bipush 96, 2) := dq_16 (dq_w dwm_93 11 rfl) (dq_w dwm_93 12 rfl) rfl
theorem dX6_feed_29 : decode cX6_feed 29 = .ok (.if_icmp .ne 10, 3) := dq_160 (dq_w dwm_93 13 rfl) (dq_w dwm_93 14 rfl) (dq_w dwm_93 15 rfl) (dq_p (n := 10) rfl rfl)
theorem dX6_feed_32 : decode cX6_feed 32 = .ok (.aload_n 0, 1) := dq_42 (dq_w dwm_94 0 rfl)
theorem dX6_feed_33 : decode cX6_feed 33 = .ok (.bipush (-6), 2) := dq_16 (dq_w dwm_94 1 rfl) (dq_w dwm_94 2 rfl) rfl
theorem dX6_feed_35 : decode cX6_feed 35 = .ok (.invokevirtual 143, 3) := dq_182 (dq_w dwm_94 3 rfl) (dq_w dwm_94 4 rfl) (dq_w dwm_94 5 rfl) rfl
theorem dX6_feed_38 : decode cX6_feed 38 = .ok (.ireturn, 1) := dq_172 (dq_w dwm_94 6 rfl)
theorem dX6_feed_39 : decode cX6_feed 39 = .ok (.aload_n 0, 1) := dq_42 (dq_w dwm_94 7 rfl)
theorem dX6_feed_40 : decode cX6_feed 40 = .ok (.getfield 37, 3) := dq_180 (dq_w dwm_94 8 rfl) (dq_w dwm_94 9 rfl) (dq_w dwm_94 10 rfl) rfl
theorem dX6_feed_43 : decode cX6_feed 43 = .ok (.aload_n 0, 1) := dq_42 (dq_w dwm_94 11 rfl)
theorem dX6_feed_44 : decode cX6_feed 44 = .ok (.getfield 146, 3) := dq_180 (dq_w dwm_94 12 rfl) (dq_w dwm_94 13 rfl) (dq_w dwm_94 14 rfl) rfl
theorem dX6_feed_47 : decode cX6_feed 47 = .ok (.iload_n 1, 1) := dq_27 (dq_w dwm_94 15 rfl)
theorem dX6_feed_48 : decode cX6_feed 48 = .ok (.iastore, 1) := dq_79 (dq_w dwm_95 0 rfl)
theorem dX6_feed_49 : decode cX6_feed 49 = .ok (.aload_n 0, 1) := dq_42 (dq_w dwm_95 1 rfl)
theorem dX6_feed_50 : decode cX6_feed 50 = .ok (.dup, 1) := dq_89 (dq_w dwm_95 2 rfl)
theorem dX6_feed_51 : decode cX6_feed 51 = .ok (.getfield 146, 3) := dq_180 (dq_w dwm_95 3 rfl) (dq_w dwm_95 4 rfl) (dq_w dwm_95 5 rfl) rfl
theorem dX6_feed_54 : decode cX6_feed 54 = .ok (.iconst 1, 1) := dq_4 (dq_w dwm_95 6 rfl)
theorem dX6_feed_55 : decode cX6_feed 55 = .ok (.iadd, 1) := dq_96 (dq_w dwm_95 7 rfl)
theorem dX6_feed_56 : decode cX6_feed 56 = .ok (.putfield 146, 3) := dq_181 (dq_w dwm_95 8 rfl) (dq_w dwm_95 9 rfl) (dq_w dwm_95 10 rfl) rfl
theorem dX6_feed_59 : decode cX6_feed 59 = .ok (.aload_n 0, 1) := dq_42 (dq_w dwm_95 11 rfl)
theorem dX6_feed_60 : decode cX6_feed 60 = .ok (.getfield 146, 3) := dq_180 (dq_w dwm_95 12 rfl) (dq_w dwm_95 13 rfl) (dq_w dwm_95 14 rfl) rfl
theorem dX6_feed_63 : decode cX6_feed 63 = .ok (.ireturn, 1) := dq_172 (dq_w dwm_95 15 rfl)
theorem dwm_96 : (cX6_here.data.toList.drop 0).take 16 = [42, 180, 0, 149, 42, 180, 0, 146, 162, 0, 15, 42, 180, 0, 37, 42] := by decide +kernel
theorem dwm_97 : (cX6_here.data.toList.drop 16).take 16 = [180, 0, 149, 46, 167, 0, 4, 2, 172] := by decide +kernel
theorem dX6_here_0 : decode cX6_here 0 = .ok (.aload_n 0, 1) := dq_42 (dq_w dwm_96 0 rfl)
theorem dX6_here_1 : decode cX6_here 1 = .ok (.getfield 149, 3) := dq_180 (dq_w dwm_96 1 rfl) (dq_w dwm_96 2 rfl) (dq_w dwm_96 3 rfl) rfl
theorem dX6_here_4 : decode cX6_here 4 = .ok (.aload_n 0, 1) := dq_42 (dq_w dwm_96 4 rfl)
theorem dX6_here_5 : decode cX6_here 5 = .ok (.getfield 146, 3) := dq_180 (dq_w dwm_96 5 rfl) (dq_w dwm_96 6 rfl) (dq_w dwm_96 7 rfl) rfl
theorem dX6_here_8 : decode cX6_here 8 = .ok (.if_icmp .ge 15, 3) := dq_162 (dq_w dwm_96 8 rfl) (dq_w dwm_96 9 rfl) (dq_w dwm_96 10 rfl) (dq_p (n := 15) rfl rfl)
theorem dX6_here_11 : decode cX6_here 11 = .ok (.aload_n 0, 1) := dq_42 (dq_w dwm_96 11 rfl)
theorem dX6_here_12 : decode cX6_here 12 = .ok (.getfield 37, 3) := dq_180 (dq_w dwm_96 12 rfl) (dq_w dwm_96 13 rfl) (dq_w dwm_96 14 rfl) rfl
theorem dX6_here_15 : decode cX6_here 15 = .ok (.aload_n 0, 1) := dq_42 (dq_w dwm_96 15 rfl)
theorem dX6_here_16 : decode cX6_here 16 = .ok (.getfield 149, 3) := dq_180 (dq_w dwm_97 0 rfl) (dq_w dwm_97 1 rfl) (dq_w dwm_97 2 rfl) rfl
theorem dX6_here_19 : decode cX6_here 19 = .ok (.iaload, 1) := dq_46 (dq_w dwm_97 3 rfl)
theorem dX6_here_20 : decode cX6_here 20 = .ok (.goto 4, 3) := dq_167 (dq_w dwm_97 4 rfl) (dq_w dwm_97 5 rfl) (dq_w dwm_97 6 rfl) (dq_p (n := 4) rfl rfl)
theorem dX6_here_23 : decode cX6_here 23 = .ok (.iconst (-1), 1) := dq_2 (dq_w dwm_97 7 rfl)
theorem dX6_here_24 : decode cX6_here 24 = .ok (.ireturn, 1) := dq_172 (dq_w dwm_97 8 rfl)
theorem dwm_98 : (cX6_readDigits.data.toList.drop 0).take 16 = [3, 61, 3, 62, 29, 27, 162, 0, 92, 42, 42, 180, 0, 152, 154, 0] := by decide +kernel
theorem dwm_99 : (cX6_readDigits.data.toList.drop 16).take 16 = [20, 42, 182, 0, 156, 133, 20, 0, 83, 20, 0, 160, 184, 0, 85, 154] := by decide +kernel
theorem dwm_100 : (cX6_readDigits.data.toList.drop 32).take 16 = [0, 7, 4, 167, 0, 4, 3, 181, 0, 152, 42, 180, 0, 152, 153, 0] := by decide +kernel
theorem dwm_101 : (cX6_readDigits.data.toList.drop 48).take 16 = [7, 3, 167, 0, 20, 16, 10, 28, 104, 42, 180, 0, 37, 42, 180, 0] := by decide +kernel
theorem dwm_102 : (cX6_readDigits.data.toList.drop 64).take 16 = [149, 46, 96, 16, 48, 100, 61, 42, 89, 180, 0, 149, 42, 180, 0, 152] := by decide +kernel
theorem dwm_103 : (cX6_readDigits.data.toList.drop 80).take 16 = [153, 0, 7, 3, 167, 0, 4, 4, 96, 181, 0, 149, 132, 3, 1, 167] := by decide +kernel
theorem dwm_104 : (cX6_readDigits.data.toList.drop 96).take 16 = [255, 165, 28, 172] := by decide +kernel
theorem dX6_readDigits_0 : decode cX6_readDigits 0 = .ok (.iconst 0, 1) := dq_3 (dq_w dwm_98 0 rfl)
theorem dX6_readDigits_1 : decode cX6_readDigits 1 = .ok (.istore_n 2, 1) := dq_61 (dq_w dwm_98 1 rfl)
theorem dX6_readDigits_2 : decode cX6_readDigits 2 = .ok (.iconst 0, 1) := dq_3 (dq_w dwm_98 2 rfl)
theorem dX6_readDigits_3 : decode cX6_readDigits 3 = .ok (.istore_n 3, 1) := dq_62 (dq_w dwm_98 3 rfl)
theorem dX6_readDigits_4 : decode cX6_readDigits 4 = .ok (.iload_n 3, 1) := dq_29 (dq_w dwm_98 4 rfl)
theorem dX6_readDigits_5 : decode cX6_readDigits 5 = .ok (.iload_n 1, 1) := dq_27 (dq_w dwm_98 5 rfl)
theorem dX6_readDigits_6 : decode cX6_readDigits 6 = .ok (.if_icmp .ge 92, 3) := dq_162 (dq_w dwm_98 6 rfl) (dq_w dwm_98 7 rfl) (dq_w dwm_98 8 rfl) (dq_p (n := 92) rfl rfl)
theorem dX6_readDigits_9 : decode cX6_readDigits 9 = .ok (.aload_n 0, 1) := dq_42 (dq_w dwm_98 9 rfl)
theorem dX6_readDigits_10 : decode cX6_readDigits 10 = .ok (.aload_n 0, 1) := dq_42 (dq_w dwm_98 10 rfl)
theorem dX6_readDigits_11 : decode cX6_readDigits 11 = .ok (.getfield 152, 3) := dq_180 (dq_w dwm_98 11 rfl) (dq_w dwm_98 12 rfl) (dq_w dwm_98 13 rfl) rfl
theorem dX6_readDigits_14 : decode cX6_readDigits 14 = .ok (.ifCond .ne 20, 3) := dq_154 (dq_w dwm_98 14 rfl) (dq_w dwm_98 15 rfl) (dq_w dwm_99 0 rfl) (dq_p (n := 20) rfl rfl)
theorem dX6_readDigits_17 : decode cX6_readDigits 17 = .ok (.aload_n 0, 1) := dq_42 (dq_w dwm_99 1 rfl)
theorem dX6_readDigits_18 : decode cX6_readDigits 18 = .ok (.invokevirtual 156, 3) := dq_182 (dq_w dwm_99 2 rfl) (dq_w dwm_99 3 rfl) (dq_w dwm_99 4 rfl) rfl
theorem dX6_readDigits_21 : decode cX6_readDigits 21 = .ok (.i2l, 1) := dq_133 (dq_w dwm_99 5 rfl)
theorem dX6_readDigits_22 : decode cX6_readDigits 22 = .ok (.ldc2_w 83, 3) := dq_20 (dq_w dwm_99 6 rfl) (dq_w dwm_99 7 rfl) (dq_w dwm_99 8 rfl) rfl
theorem dX6_readDigits_25 : decode cX6_readDigits 25 = .ok (.ldc2_w 160, 3) := dq_20 (dq_w dwm_99 9 rfl) (dq_w dwm_99 10 rfl) (dq_w dwm_99 11 rfl) rfl
theorem dX6_readDigits_28 : decode cX6_readDigits 28 = .ok (.invokestatic 85, 3) := dq_184 (dq_w dwm_99 12 rfl) (dq_w dwm_99 13 rfl) (dq_w dwm_99 14 rfl) rfl
theorem dX6_readDigits_31 : decode cX6_readDigits 31 = .ok (.ifCond .ne 7, 3) := dq_154 (dq_w dwm_99 15 rfl) (dq_w dwm_100 0 rfl) (dq_w dwm_100 1 rfl) (dq_p (n := 7) rfl rfl)
theorem dX6_readDigits_34 : decode cX6_readDigits 34 = .ok (.iconst 1, 1) := dq_4 (dq_w dwm_100 2 rfl)
theorem dX6_readDigits_35 : decode cX6_readDigits 35 = .ok (.goto 4, 3) := dq_167 (dq_w dwm_100 3 rfl) (dq_w dwm_100 4 rfl) (dq_w dwm_100 5 rfl) (dq_p (n := 4) rfl rfl)
theorem dX6_readDigits_38 : decode cX6_readDigits 38 = .ok (.iconst 0, 1) := dq_3 (dq_w dwm_100 6 rfl)
theorem dX6_readDigits_39 : decode cX6_readDigits 39 = .ok (.putfield 152, 3) := dq_181 (dq_w dwm_100 7 rfl) (dq_w dwm_100 8 rfl) (dq_w dwm_100 9 rfl) rfl
theorem dX6_readDigits_42 : decode cX6_readDigits 42 = .ok (.aload_n 0, 1) := dq_42 (dq_w dwm_100 10 rfl)
theorem dX6_readDigits_43 : decode cX6_readDigits 43 = .ok (.getfield 152, 3) := dq_180 (dq_w dwm_100 11 rfl) (dq_w dwm_100 12 rfl) (dq_w dwm_100 13 rfl) rfl
theorem dX6_readDigits_46 : decode cX6_readDigits 46 = .ok (.ifCond .eq 7, 3) := dq_153 (dq_w dwm_100 14 rfl) (dq_w dwm_100 15 rfl) (dq_w dwm_101 0 rfl) (dq_p (n := 7) rfl rfl)
theorem dX6_readDigits_49 : decode cX6_readDigits 49 = .ok (.iconst 0, 1) := dq_3 (dq_w dwm_101 1 rfl)
theorem dX6_readDigits_50 : decode cX6_readDigits 50 = .ok (.goto 20, 3) := dq_167 (dq_w dwm_101 2 rfl) (dq_w dwm_101 3 rfl) (dq_w dwm_101 4 rfl) (dq_p (n := 20) rfl rfl)
theorem dX6_readDigits_53 : decode cX6_readDigits 53 = .ok (.bipush 10, 2) := dq_16 (dq_w dwm_101 5 rfl) (dq_w dwm_101 6 rfl) rfl
theorem dX6_readDigits_55 : decode cX6_readDigits 55 = .ok (.iload_n 2, 1) := dq_28 (dq_w dwm_101 7 rfl)
theorem dX6_readDigits_56 : decode cX6_readDigits 56 = .ok (.imul, 1) := dq_104 (dq_w dwm_101 8 rfl)
theorem dX6_readDigits_57 : decode cX6_readDigits 57 = .ok (.aload_n 0, 1) := dq_42 (dq_w dwm_101 9 rfl)
theorem dX6_readDigits_58 : decode cX6_readDigits 58 = .ok (.getfield 37, 3) := dq_180 (dq_w dwm_101 10 rfl) (dq_w dwm_101 11 rfl) (dq_w dwm_101 12 rfl) rfl
theorem dX6_readDigits_61 : decode cX6_readDigits 61 = .ok (.aload_n 0, 1) := dq_42 (dq_w dwm_101 13 rfl)
theorem dX6_readDigits_62 : decode cX6_readDigits 62 = .ok (.getfield 149, 3) := dq_180 (dq_w dwm_101 14 rfl) (dq_w dwm_101 15 rfl) (dq_w dwm_102 0 rfl) rfl
theorem dX6_readDigits_65 : decode cX6_readDigits 65 = .ok (.iaload, 1) := dq_46 (dq_w dwm_102 1 rfl)
theorem dX6_readDigits_66 : decode cX6_readDigits 66 = .ok (.iadd, 1) := dq_96 (dq_w dwm_102 2 rfl)
theorem dX6_readDigits_67 : decode cX6_readDigits 67 = .ok (.bipush 48, 2) := dq_16 (dq_w dwm_102 3 rfl) (dq_w dwm_102 4 rfl) rfl
theorem dX6_readDigits_69 : decode cX6_readDigits 69 = .ok (.isub, 1) := dq_100 (dq_w dwm_102 5 rfl)
theorem dX6_readDigits_70 : decode cX6_readDigits 70 = .ok (.istore_n 2, 1) := dq_61 (dq_w dwm_102 6 rfl)
theorem dX6_readDigits_71 : decode cX6_readDigits 71 = .ok (.aload_n 0, 1) := dq_42 (dq_w dwm_102 7 rfl)
theorem dX6_readDigits_72 : decode cX6_readDigits 72 = .ok (.dup, 1) := dq_89 (dq_w dwm_102 8 rfl)
theorem dX6_readDigits_73 : decode cX6_readDigits 73 = .ok (.getfield 149, 3) := dq_180 (dq_w dwm_102 9 rfl) (dq_w dwm_102 10 rfl) (dq_w dwm_102 11 rfl) rfl
theorem dX6_readDigits_76 : decode cX6_readDigits 76 = .ok (.aload_n 0, 1) := dq_42 (dq_w dwm_102 12 rfl)
theorem dX6_readDigits_77 : decode cX6_readDigits 77 = .ok (.getfield 152, 3) := dq_180 (dq_w dwm_102 13 rfl) (dq_w dwm_102 14 rfl) (dq_w dwm_102 15 rfl) rfl
theorem dX6_readDigits_80 : decode cX6_readDigits 80 = .ok (.ifCond .eq 7, 3) := dq_153 (dq_w dwm_103 0 rfl) (dq_w dwm_103 1 rfl) (dq_w dwm_103 2 rfl) (dq_p (n := 7) rfl rfl)
theorem dX6_readDigits_83 : decode cX6_readDigits 83 = .ok (.iconst 0, 1) := dq_3 (dq_w dwm_103 3 rfl)
theorem dX6_readDigits_84 : decode cX6_readDigits 84 = .ok (.goto 4, 3) := dq_167 (dq_w dwm_103 4 rfl) (dq_w dwm_103 5 rfl) (dq_w dwm_103 6 rfl) (dq_p (n := 4) rfl rfl)
theorem dX6_readDigits_87 : decode cX6_readDigits 87 = .ok (.iconst 1, 1) := dq_4 (dq_w dwm_103 7 rfl)
theorem dX6_readDigits_88 : decode cX6_readDigits 88 = .ok (.iadd, 1) := dq_96 (dq_w dwm_103 8 rfl)
theorem dX6_readDigits_89 : decode cX6_readDigits 89 = .ok (.putfield 149, 3) := dq_181 (dq_w dwm_103 9 rfl) (dq_w dwm_103 10 rfl) (dq_w dwm_103 11 rfl) rfl
theorem dX6_readDigits_92 : decode cX6_readDigits 92 = .ok (.iinc 3 1, 3) := dq_132 (dq_w dwm_103 12 rfl) (dq_w dwm_103 13 rfl) rfl (dq_w dwm_103 14 rfl) rfl
theorem dX6_readDigits_95 : decode cX6_readDigits 95 = .ok (.goto (-91), 3) := dq_167 (dq_w dwm_103 15 rfl) (dq_w dwm_104 0 rfl) (dq_w dwm_104 1 rfl) (dq_n (m := 91) rfl rfl)
theorem dX6_readDigits_98 : decode cX6_readDigits 98 = .ok (.iload_n 2, 1) := dq_28 (dq_w dwm_104 2 rfl)
theorem dX6_readDigits_99 : decode cX6_readDigits 99 = .ok (.ireturn, 1) := dq_172 (dq_w dwm_104 3 rfl)
theorem dwm_105 : (cX6_isLetter.data.toList.drop 0).take 16 = [26, 16, 104, 159, 0, 33, 26, 16, 119, 159, 0, 27, 26, 16, 108, 159] := by decide +kernel
theorem dwm_106 : (cX6_isLetter.data.toList.drop 16).take 16 = [0, 21, 26, 16, 103, 159, 0, 15, 26, 16, 111, 159, 0, 9, 26, 16] := by decide +kernel
theorem dwm_107 : (cX6_isLetter.data.toList.drop 32).take 16 = [101, 160, 0, 7, 4, 167, 0, 4, 3, 172] := by decide +kernel
theorem dX6_isLetter_0 : decode cX6_isLetter 0 = .ok (.iload_n 0, 1) := dq_26 (dq_w dwm_105 0 rfl)
theorem dX6_isLetter_1 : decode cX6_isLetter 1 = .ok (.bipush 104, 2) := dq_16 (dq_w dwm_105 1 rfl) (dq_w dwm_105 2 rfl) rfl
theorem dX6_isLetter_3 : decode cX6_isLetter 3 = .ok (.if_icmp .eq 33, 3) := dq_159 (dq_w dwm_105 3 rfl) (dq_w dwm_105 4 rfl) (dq_w dwm_105 5 rfl) (dq_p (n := 33) rfl rfl)
theorem dX6_isLetter_6 : decode cX6_isLetter 6 = .ok (.iload_n 0, 1) := dq_26 (dq_w dwm_105 6 rfl)
theorem dX6_isLetter_7 : decode cX6_isLetter 7 = .ok (.bipush 119, 2) := dq_16 (dq_w dwm_105 7 rfl) (dq_w dwm_105 8 rfl) rfl
theorem dX6_isLetter_9 : decode cX6_isLetter 9 = .ok (.if_icmp .eq 27, 3) := dq_159 (dq_w dwm_105 9 rfl) (dq_w dwm_105 10 rfl) (dq_w dwm_105 11 rfl) (dq_p (n := 27) rfl rfl)
theorem dX6_isLetter_12 : decode cX6_isLetter 12 = .ok (.iload_n 0, 1) := dq_26 (dq_w dwm_105 12 rfl)
theorem dX6_isLetter_13 : decode cX6_isLetter 13 = .ok (.bipush 108, 2) := dq_16 (dq_w dwm_105 13 rfl) (dq_w dwm_105 14 rfl) rfl
theorem dX6_isLetter_15 : decode cX6_isLetter 15 = .ok (.if_icmp .eq 21, 3) := dq_159 (dq_w dwm_105 15 rfl) (dq_w dwm_106 0 rfl) (dq_w dwm_106 1 rfl) (dq_p (n := 21) rfl rfl)
theorem dX6_isLetter_18 : decode cX6_isLetter 18 = .ok (.iload_n 0, 1) := dq_26 (dq_w dwm_106 2 rfl)
theorem dX6_isLetter_19 : decode cX6_isLetter 19 = .ok (.bipush 103, 2) := dq_16 (dq_w dwm_106 3 rfl) (dq_w dwm_106 4 rfl) rfl
theorem dX6_isLetter_21 : decode cX6_isLetter 21 = .ok (.if_icmp .eq 15, 3) := dq_159 (dq_w dwm_106 5 rfl) (dq_w dwm_106 6 rfl) (dq_w dwm_106 7 rfl) (dq_p (n := 15) rfl rfl)
theorem dX6_isLetter_24 : decode cX6_isLetter 24 = .ok (.iload_n 0, 1) := dq_26 (dq_w dwm_106 8 rfl)
theorem dX6_isLetter_25 : decode cX6_isLetter 25 = .ok (.bipush 111, 2) := dq_16 (dq_w dwm_106 9 rfl) (dq_w dwm_106 10 rfl) rfl
theorem dX6_isLetter_27 : decode cX6_isLetter 27 = .ok (.if_icmp .eq 9, 3) := dq_159 (dq_w dwm_106 11 rfl) (dq_w dwm_106 12 rfl) (dq_w dwm_106 13 rfl) (dq_p (n := 9) rfl rfl)
theorem dX6_isLetter_30 : decode cX6_isLetter 30 = .ok (.iload_n 0, 1) := dq_26 (dq_w dwm_106 14 rfl)
theorem dX6_isLetter_31 : decode cX6_isLetter 31 = .ok (.bipush 101, 2) := dq_16 (dq_w dwm_106 15 rfl) (dq_w dwm_107 0 rfl) rfl
theorem dX6_isLetter_33 : decode cX6_isLetter 33 = .ok (.if_icmp .ne 7, 3) := dq_160 (dq_w dwm_107 1 rfl) (dq_w dwm_107 2 rfl) (dq_w dwm_107 3 rfl) (dq_p (n := 7) rfl rfl)
theorem dX6_isLetter_36 : decode cX6_isLetter 36 = .ok (.iconst 1, 1) := dq_4 (dq_w dwm_107 4 rfl)
theorem dX6_isLetter_37 : decode cX6_isLetter 37 = .ok (.goto 4, 3) := dq_167 (dq_w dwm_107 5 rfl) (dq_w dwm_107 6 rfl) (dq_w dwm_107 7 rfl) (dq_p (n := 4) rfl rfl)
theorem dX6_isLetter_40 : decode cX6_isLetter 40 = .ok (.iconst 0, 1) := dq_3 (dq_w dwm_107 8 rfl)
theorem dX6_isLetter_41 : decode cX6_isLetter 41 = .ok (.ireturn, 1) := dq_172 (dq_w dwm_107 9 rfl)
theorem dwm_108 : (cX6_readNumbers.data.toList.drop 0).take 16 = [42, 180, 0, 46, 28, 42, 27, 16, 119, 159, 0, 9, 27, 16, 101, 160] := by decide +kernel
theorem dwm_109 : (cX6_readNumbers.data.toList.drop 16).take 16 = [0, 7, 5, 167, 0, 4, 4, 182, 0, 162, 79, 27, 16, 104, 160, 0] := by decide +kernel
theorem dwm_110 : (cX6_readNumbers.data.toList.drop 32).take 16 = [32, 42, 180, 0, 46, 28, 4, 96, 42, 4, 182, 0, 162, 79, 42, 180] := by decide +kernel
theorem dwm_111 : (cX6_readNumbers.data.toList.drop 48).take 16 = [0, 46, 28, 5, 96, 42, 5, 182, 0, 162, 79, 167, 0, 79, 27, 16] := by decide +kernel
theorem dwm_112 : (cX6_readNumbers.data.toList.drop 64).take 16 = [119, 160, 0, 32, 42, 180, 0, 46, 28, 4, 96, 42, 5, 182, 0, 162] := by decide +kernel
theorem dwm_113 : (cX6_readNumbers.data.toList.drop 80).take 16 = [79, 42, 180, 0, 46, 28, 5, 96, 42, 4, 182, 0, 162, 79, 167, 0] := by decide +kernel
theorem dwm_114 : (cX6_readNumbers.data.toList.drop 96).take 16 = [44, 27, 16, 103, 160, 0, 19, 42, 180, 0, 46, 28, 4, 96, 42, 5] := by decide +kernel
theorem dwm_115 : (cX6_readNumbers.data.toList.drop 112).take 16 = [182, 0, 162, 79, 167, 0, 22, 27, 16, 111, 160, 0, 16, 42, 180, 0] := by decide +kernel
theorem dwm_116 : (cX6_readNumbers.data.toList.drop 128).take 16 = [46, 28, 4, 96, 42, 4, 182, 0, 162, 79, 177] := by decide +kernel
theorem dX6_readNumbers_0 : decode cX6_readNumbers 0 = .ok (.aload_n 0, 1) := dq_42 (dq_w dwm_108 0 rfl)
theorem dX6_readNumbers_1 : decode cX6_readNumbers 1 = .ok (.getfield 46, 3) := dq_180 (dq_w dwm_108 1 rfl) (dq_w dwm_108 2 rfl) (dq_w dwm_108 3 rfl) rfl
theorem dX6_readNumbers_4 : decode cX6_readNumbers 4 = .ok (.iload_n 2, 1) := dq_28 (dq_w dwm_108 4 rfl)
theorem dX6_readNumbers_5 : decode cX6_readNumbers 5 = .ok (.aload_n 0, 1) := dq_42 (dq_w dwm_108 5 rfl)
theorem dX6_readNumbers_6 : decode cX6_readNumbers 6 = .ok (.iload_n 1, 1) := dq_27 (dq_w dwm_108 6 rfl)
theorem dX6_readNumbers_7 : decode cX6_readNumbers 7 = .ok (.bipush 119, 2) := dq_16 (dq_w dwm_108 7 rfl) (dq_w dwm_108 8 rfl) rfl
theorem dX6_readNumbers_9 : decode cX6_readNumbers 9 = .ok (.if_icmp .eq 9, 3) := dq_159 (dq_w dwm_108 9 rfl) (dq_w dwm_108 10 rfl) (dq_w dwm_108 11 rfl) (dq_p (n := 9) rfl rfl)
theorem dX6_readNumbers_12 : decode cX6_readNumbers 12 = .ok (.iload_n 1, 1) := dq_27 (dq_w dwm_108 12 rfl)
theorem dX6_readNumbers_13 : decode cX6_readNumbers 13 = .ok (.bipush 101, 2) := dq_16 (dq_w dwm_108 13 rfl) (dq_w dwm_108 14 rfl) rfl
theorem dX6_readNumbers_15 : decode cX6_readNumbers 15 = .ok (.if_icmp .ne 7, 3) := dq_160 (dq_w dwm_108 15 rfl) (dq_w dwm_109 0 rfl) (dq_w dwm_109 1 rfl) (dq_p (n := 7) rfl rfl)
theorem dX6_readNumbers_18 : decode cX6_readNumbers 18 = .ok (.iconst 2, 1) := dq_5 (dq_w dwm_109 2 rfl)
theorem dX6_readNumbers_19 : decode cX6_readNumbers 19 = .ok (.goto 4, 3) := dq_167 (dq_w dwm_109 3 rfl) (dq_w dwm_109 4 rfl) (dq_w dwm_109 5 rfl) (dq_p (n := 4) rfl rfl)
theorem dX6_readNumbers_22 : decode cX6_readNumbers 22 = .ok (.iconst 1, 1) := dq_4 (dq_w dwm_109 6 rfl)
theorem dX6_readNumbers_23 : decode cX6_readNumbers 23 = .ok (.invokevirtual 162, 3) := dq_182 (dq_w dwm_109 7 rfl) (dq_w dwm_109 8 rfl) (dq_w dwm_109 9 rfl) rfl
theorem dX6_readNumbers_26 : decode cX6_readNumbers 26 = .ok (.iastore, 1) := dq_79 (dq_w dwm_109 10 rfl)
theorem dX6_readNumbers_27 : decode cX6_readNumbers 27 = .ok (.iload_n 1, 1) := dq_27 (dq_w dwm_109 11 rfl)
theorem dX6_readNumbers_28 : decode cX6_readNumbers 28 = .ok (.bipush 104, 2) := dq_16 (dq_w dwm_109 12 rfl) (dq_w dwm_109 13 rfl) rfl
theorem dX6_readNumbers_30 : decode cX6_readNumbers 30 = .ok (.if_icmp .ne 32, 3) := dq_160 (dq_w dwm_109 14 rfl) (dq_w dwm_109 15 rfl) (dq_w dwm_110 0 rfl) (dq_p (n := 32) rfl rfl)
theorem dX6_readNumbers_33 : decode cX6_readNumbers 33 = .ok (.aload_n 0, 1) := dq_42 (dq_w dwm_110 1 rfl)
theorem dX6_readNumbers_34 : decode cX6_readNumbers 34 = .ok (.getfield 46, 3) := dq_180 (dq_w dwm_110 2 rfl) (dq_w dwm_110 3 rfl) (dq_w dwm_110 4 rfl) rfl
theorem dX6_readNumbers_37 : decode cX6_readNumbers 37 = .ok (.iload_n 2, 1) := dq_28 (dq_w dwm_110 5 rfl)
theorem dX6_readNumbers_38 : decode cX6_readNumbers 38 = .ok (.iconst 1, 1) := dq_4 (dq_w dwm_110 6 rfl)
theorem dX6_readNumbers_39 : decode cX6_readNumbers 39 = .ok (.iadd, 1) := dq_96 (dq_w dwm_110 7 rfl)
theorem dX6_readNumbers_40 : decode cX6_readNumbers 40 = .ok (.aload_n 0, 1) := dq_42 (dq_w dwm_110 8 rfl)
theorem dX6_readNumbers_41 : decode cX6_readNumbers 41 = .ok (.iconst 1, 1) := dq_4 (dq_w dwm_110 9 rfl)
theorem dX6_readNumbers_42 : decode cX6_readNumbers 42 = .ok (.invokevirtual 162, 3) := dq_182 (dq_w dwm_110 10 rfl) (dq_w dwm_110 11 rfl) (dq_w dwm_110 12 rfl) rfl
theorem dX6_readNumbers_45 : decode cX6_readNumbers 45 = .ok (.iastore, 1) := dq_79 (dq_w dwm_110 13 rfl)
theorem dX6_readNumbers_46 : decode cX6_readNumbers 46 = .ok (.aload_n 0, 1) := dq_42 (dq_w dwm_110 14 rfl)
theorem dX6_readNumbers_47 : decode cX6_readNumbers 47 = .ok (.getfield 46, 3) := dq_180 (dq_w dwm_110 15 rfl) (dq_w dwm_111 0 rfl) (dq_w dwm_111 1 rfl) rfl
theorem dX6_readNumbers_50 : decode cX6_readNumbers 50 = .ok (.iload_n 2, 1) := dq_28 (dq_w dwm_111 2 rfl)
theorem dX6_readNumbers_51 : decode cX6_readNumbers 51 = .ok (.iconst 2, 1) := dq_5 (dq_w dwm_111 3 rfl)
theorem dX6_readNumbers_52 : decode cX6_readNumbers 52 = .ok (.iadd, 1) := dq_96 (dq_w dwm_111 4 rfl)
theorem dX6_readNumbers_53 : decode cX6_readNumbers 53 = .ok (.aload_n 0, 1) := dq_42 (dq_w dwm_111 5 rfl)
theorem dX6_readNumbers_54 : decode cX6_readNumbers 54 = .ok (.iconst 2, 1) := dq_5 (dq_w dwm_111 6 rfl)
theorem dX6_readNumbers_55 : decode cX6_readNumbers 55 = .ok (.invokevirtual 162, 3) := dq_182 (dq_w dwm_111 7 rfl) (dq_w dwm_111 8 rfl) (dq_w dwm_111 9 rfl) rfl
theorem dX6_readNumbers_58 : decode cX6_readNumbers 58 = .ok (.iastore, 1) := dq_79 (dq_w dwm_111 10 rfl)
theorem dX6_readNumbers_59 : decode cX6_readNumbers 59 = .ok (.goto 79, 3) := dq_167 (dq_w dwm_111 11 rfl) (dq_w dwm_111 12 rfl) (dq_w dwm_111 13 rfl) (dq_p (n := 79) rfl rfl)
theorem dX6_readNumbers_62 : decode cX6_readNumbers 62 = .ok (.iload_n 1, 1) := dq_27 (dq_w dwm_111 14 rfl)
theorem dX6_readNumbers_63 : decode cX6_readNumbers 63 = .ok (.bipush 119, 2) := dq_16 (dq_w dwm_111 15 rfl) (dq_w dwm_112 0 rfl) rfl
theorem dX6_readNumbers_65 : decode cX6_readNumbers 65 = .ok (.if_icmp .ne 32, 3) := dq_160 (dq_w dwm_112 1 rfl) (dq_w dwm_112 2 rfl) (dq_w dwm_112 3 rfl) (dq_p (n := 32) rfl rfl)
theorem dX6_readNumbers_68 : decode cX6_readNumbers 68 = .ok (.aload_n 0, 1) := dq_42 (dq_w dwm_112 4 rfl)
theorem dX6_readNumbers_69 : decode cX6_readNumbers 69 = .ok (.getfield 46, 3) := dq_180 (dq_w dwm_112 5 rfl) (dq_w dwm_112 6 rfl) (dq_w dwm_112 7 rfl) rfl
theorem dX6_readNumbers_72 : decode cX6_readNumbers 72 = .ok (.iload_n 2, 1) := dq_28 (dq_w dwm_112 8 rfl)
theorem dX6_readNumbers_73 : decode cX6_readNumbers 73 = .ok (.iconst 1, 1) := dq_4 (dq_w dwm_112 9 rfl)
theorem dX6_readNumbers_74 : decode cX6_readNumbers 74 = .ok (.iadd, 1) := dq_96 (dq_w dwm_112 10 rfl)
theorem dX6_readNumbers_75 : decode cX6_readNumbers 75 = .ok (.aload_n 0, 1) := dq_42 (dq_w dwm_112 11 rfl)
theorem dX6_readNumbers_76 : decode cX6_readNumbers 76 = .ok (.iconst 2, 1) := dq_5 (dq_w dwm_112 12 rfl)
theorem dX6_readNumbers_77 : decode cX6_readNumbers 77 = .ok (.invokevirtual 162, 3) := dq_182 (dq_w dwm_112 13 rfl) (dq_w dwm_112 14 rfl) (dq_w dwm_112 15 rfl) rfl
theorem dX6_readNumbers_80 : decode cX6_readNumbers 80 = .ok (.iastore, 1) := dq_79 (dq_w dwm_113 0 rfl)
theorem dX6_readNumbers_81 : decode cX6_readNumbers 81 = .ok (.aload_n 0, 1) := dq_42 (dq_w dwm_113 1 rfl)
theorem dX6_readNumbers_82 : decode cX6_readNumbers 82 = .ok (.getfield 46, 3) := dq_180 (dq_w dwm_113 2 rfl) (dq_w dwm_113 3 rfl) (dq_w dwm_113 4 rfl) rfl
theorem dX6_readNumbers_85 : decode cX6_readNumbers 85 = .ok (.iload_n 2, 1) := dq_28 (dq_w dwm_113 5 rfl)
theorem dX6_readNumbers_86 : decode cX6_readNumbers 86 = .ok (.iconst 2, 1) := dq_5 (dq_w dwm_113 6 rfl)
theorem dX6_readNumbers_87 : decode cX6_readNumbers 87 = .ok (.iadd, 1) := dq_96 (dq_w dwm_113 7 rfl)
theorem dX6_readNumbers_88 : decode cX6_readNumbers 88 = .ok (.aload_n 0, 1) := dq_42 (dq_w dwm_113 8 rfl)
theorem dX6_readNumbers_89 : decode cX6_readNumbers 89 = .ok (.iconst 1, 1) := dq_4 (dq_w dwm_113 9 rfl)
theorem dX6_readNumbers_90 : decode cX6_readNumbers 90 = .ok (.invokevirtual 162, 3) := dq_182 (dq_w dwm_113 10 rfl) (dq_w dwm_113 11 rfl) (dq_w dwm_113 12 rfl) rfl
theorem dX6_readNumbers_93 : decode cX6_readNumbers 93 = .ok (.iastore, 1) := dq_79 (dq_w dwm_113 13 rfl)
theorem dX6_readNumbers_94 : decode cX6_readNumbers 94 = .ok (.goto 44, 3) := dq_167 (dq_w dwm_113 14 rfl) (dq_w dwm_113 15 rfl) (dq_w dwm_114 0 rfl) (dq_p (n := 44) rfl rfl)
theorem dX6_readNumbers_97 : decode cX6_readNumbers 97 = .ok (.iload_n 1, 1) := dq_27 (dq_w dwm_114 1 rfl)
theorem dX6_readNumbers_98 : decode cX6_readNumbers 98 = .ok (.bipush 103, 2) := dq_16 (dq_w dwm_114 2 rfl) (dq_w dwm_114 3 rfl) rfl
theorem dX6_readNumbers_100 : decode cX6_readNumbers 100 = .ok (.if_icmp .ne 19, 3) := dq_160 (dq_w dwm_114 4 rfl) (dq_w dwm_114 5 rfl) (dq_w dwm_114 6 rfl) (dq_p (n := 19) rfl rfl)
theorem dX6_readNumbers_103 : decode cX6_readNumbers 103 = .ok (.aload_n 0, 1) := dq_42 (dq_w dwm_114 7 rfl)
theorem dX6_readNumbers_104 : decode cX6_readNumbers 104 = .ok (.getfield 46, 3) := dq_180 (dq_w dwm_114 8 rfl) (dq_w dwm_114 9 rfl) (dq_w dwm_114 10 rfl) rfl
theorem dX6_readNumbers_107 : decode cX6_readNumbers 107 = .ok (.iload_n 2, 1) := dq_28 (dq_w dwm_114 11 rfl)
theorem dX6_readNumbers_108 : decode cX6_readNumbers 108 = .ok (.iconst 1, 1) := dq_4 (dq_w dwm_114 12 rfl)
theorem dX6_readNumbers_109 : decode cX6_readNumbers 109 = .ok (.iadd, 1) := dq_96 (dq_w dwm_114 13 rfl)
theorem dX6_readNumbers_110 : decode cX6_readNumbers 110 = .ok (.aload_n 0, 1) := dq_42 (dq_w dwm_114 14 rfl)
theorem dX6_readNumbers_111 : decode cX6_readNumbers 111 = .ok (.iconst 2, 1) := dq_5 (dq_w dwm_114 15 rfl)
theorem dX6_readNumbers_112 : decode cX6_readNumbers 112 = .ok (.invokevirtual 162, 3) := dq_182 (dq_w dwm_115 0 rfl) (dq_w dwm_115 1 rfl) (dq_w dwm_115 2 rfl) rfl
theorem dX6_readNumbers_115 : decode cX6_readNumbers 115 = .ok (.iastore, 1) := dq_79 (dq_w dwm_115 3 rfl)
theorem dX6_readNumbers_116 : decode cX6_readNumbers 116 = .ok (.goto 22, 3) := dq_167 (dq_w dwm_115 4 rfl) (dq_w dwm_115 5 rfl) (dq_w dwm_115 6 rfl) (dq_p (n := 22) rfl rfl)
theorem dX6_readNumbers_119 : decode cX6_readNumbers 119 = .ok (.iload_n 1, 1) := dq_27 (dq_w dwm_115 7 rfl)
theorem dX6_readNumbers_120 : decode cX6_readNumbers 120 = .ok (.bipush 111, 2) := dq_16 (dq_w dwm_115 8 rfl) (dq_w dwm_115 9 rfl) rfl
theorem dX6_readNumbers_122 : decode cX6_readNumbers 122 = .ok (.if_icmp .ne 16, 3) := dq_160 (dq_w dwm_115 10 rfl) (dq_w dwm_115 11 rfl) (dq_w dwm_115 12 rfl) (dq_p (n := 16) rfl rfl)
theorem dX6_readNumbers_125 : decode cX6_readNumbers 125 = .ok (.aload_n 0, 1) := dq_42 (dq_w dwm_115 13 rfl)
theorem dX6_readNumbers_126 : decode cX6_readNumbers 126 = .ok (.getfield 46, 3) := dq_180 (dq_w dwm_115 14 rfl) (dq_w dwm_115 15 rfl) (dq_w dwm_116 0 rfl) rfl
theorem dX6_readNumbers_129 : decode cX6_readNumbers 129 = .ok (.iload_n 2, 1) := dq_28 (dq_w dwm_116 1 rfl)
theorem dX6_readNumbers_130 : decode cX6_readNumbers 130 = .ok (.iconst 1, 1) := dq_4 (dq_w dwm_116 2 rfl)
theorem dX6_readNumbers_131 : decode cX6_readNumbers 131 = .ok (.iadd, 1) := dq_96 (dq_w dwm_116 3 rfl)
theorem dX6_readNumbers_132 : decode cX6_readNumbers 132 = .ok (.aload_n 0, 1) := dq_42 (dq_w dwm_116 4 rfl)
theorem dX6_readNumbers_133 : decode cX6_readNumbers 133 = .ok (.iconst 1, 1) := dq_4 (dq_w dwm_116 5 rfl)
theorem dX6_readNumbers_134 : decode cX6_readNumbers 134 = .ok (.invokevirtual 162, 3) := dq_182 (dq_w dwm_116 6 rfl) (dq_w dwm_116 7 rfl) (dq_w dwm_116 8 rfl) rfl
theorem dX6_readNumbers_137 : decode cX6_readNumbers 137 = .ok (.iastore, 1) := dq_79 (dq_w dwm_116 9 rfl)
theorem dX6_readNumbers_138 : decode cX6_readNumbers 138 = .ok (.return_, 1) := dq_177 (dq_w dwm_116 10 rfl)
theorem dwm_117 : (cX6_readStatement.data.toList.drop 0).take 16 = [42, 180, 0, 165, 60, 42, 182, 0, 156, 61, 42, 180, 0, 40, 27, 42] := by decide +kernel
theorem dwm_118 : (cX6_readStatement.data.toList.drop 16).take 16 = [180, 0, 149, 79, 42, 180, 0, 43, 27, 28, 79, 42, 42, 180, 0, 152] := by decide +kernel
theorem dwm_119 : (cX6_readStatement.data.toList.drop 32).take 16 = [154, 0, 10, 28, 184, 0, 168, 154, 0, 7, 4, 167, 0, 4, 3, 181] := by decide +kernel
theorem dwm_120 : (cX6_readStatement.data.toList.drop 48).take 16 = [0, 152, 42, 89, 180, 0, 149, 42, 180, 0, 152, 153, 0, 7, 3, 167] := by decide +kernel
theorem dwm_121 : (cX6_readStatement.data.toList.drop 64).take 16 = [0, 4, 4, 96, 181, 0, 149, 42, 180, 0, 152, 154, 0, 11, 42, 28] := by decide +kernel
theorem dwm_122 : (cX6_readStatement.data.toList.drop 80).take 16 = [6, 27, 104, 182, 0, 171, 42, 42, 180, 0, 152, 154, 0, 12, 42, 182] := by decide +kernel
theorem dwm_123 : (cX6_readStatement.data.toList.drop 96).take 16 = [0, 156, 16, 59, 159, 0, 7, 4, 167, 0, 4, 3, 181, 0, 152, 42] := by decide +kernel
theorem dwm_124 : (cX6_readStatement.data.toList.drop 112).take 16 = [89, 180, 0, 149, 42, 180, 0, 152, 153, 0, 7, 3, 167, 0, 4, 4] := by decide +kernel
theorem dwm_125 : (cX6_readStatement.data.toList.drop 128).take 16 = [96, 181, 0, 149, 42, 89, 180, 0, 165, 4, 96, 181, 0, 165, 177] := by decide +kernel
theorem dX6_readStatement_0 : decode cX6_readStatement 0 = .ok (.aload_n 0, 1) := dq_42 (dq_w dwm_117 0 rfl)
theorem dX6_readStatement_1 : decode cX6_readStatement 1 = .ok (.getfield 165, 3) := dq_180 (dq_w dwm_117 1 rfl) (dq_w dwm_117 2 rfl) (dq_w dwm_117 3 rfl) rfl
theorem dX6_readStatement_4 : decode cX6_readStatement 4 = .ok (.istore_n 1, 1) := dq_60 (dq_w dwm_117 4 rfl)
theorem dX6_readStatement_5 : decode cX6_readStatement 5 = .ok (.aload_n 0, 1) := dq_42 (dq_w dwm_117 5 rfl)
theorem dX6_readStatement_6 : decode cX6_readStatement 6 = .ok (.invokevirtual 156, 3) := dq_182 (dq_w dwm_117 6 rfl) (dq_w dwm_117 7 rfl) (dq_w dwm_117 8 rfl) rfl
theorem dX6_readStatement_9 : decode cX6_readStatement 9 = .ok (.istore_n 2, 1) := dq_61 (dq_w dwm_117 9 rfl)
theorem dX6_readStatement_10 : decode cX6_readStatement 10 = .ok (.aload_n 0, 1) := dq_42 (dq_w dwm_117 10 rfl)
theorem dX6_readStatement_11 : decode cX6_readStatement 11 = .ok (.getfield 40, 3) := dq_180 (dq_w dwm_117 11 rfl) (dq_w dwm_117 12 rfl) (dq_w dwm_117 13 rfl) rfl
theorem dX6_readStatement_14 : decode cX6_readStatement 14 = .ok (.iload_n 1, 1) := dq_27 (dq_w dwm_117 14 rfl)
theorem dX6_readStatement_15 : decode cX6_readStatement 15 = .ok (.aload_n 0, 1) := dq_42 (dq_w dwm_117 15 rfl)
theorem dX6_readStatement_16 : decode cX6_readStatement 16 = .ok (.getfield 149, 3) := dq_180 (dq_w dwm_118 0 rfl) (dq_w dwm_118 1 rfl) (dq_w dwm_118 2 rfl) rfl
theorem dX6_readStatement_19 : decode cX6_readStatement 19 = .ok (.iastore, 1) := dq_79 (dq_w dwm_118 3 rfl)
theorem dX6_readStatement_20 : decode cX6_readStatement 20 = .ok (.aload_n 0, 1) := dq_42 (dq_w dwm_118 4 rfl)
theorem dX6_readStatement_21 : decode cX6_readStatement 21 = .ok (.getfield 43, 3) := dq_180 (dq_w dwm_118 5 rfl) (dq_w dwm_118 6 rfl) (dq_w dwm_118 7 rfl) rfl
theorem dX6_readStatement_24 : decode cX6_readStatement 24 = .ok (.iload_n 1, 1) := dq_27 (dq_w dwm_118 8 rfl)
theorem dX6_readStatement_25 : decode cX6_readStatement 25 = .ok (.iload_n 2, 1) := dq_28 (dq_w dwm_118 9 rfl)
theorem dX6_readStatement_26 : decode cX6_readStatement 26 = .ok (.iastore, 1) := dq_79 (dq_w dwm_118 10 rfl)
theorem dX6_readStatement_27 : decode cX6_readStatement 27 = .ok (.aload_n 0, 1) := dq_42 (dq_w dwm_118 11 rfl)
theorem dX6_readStatement_28 : decode cX6_readStatement 28 = .ok (.aload_n 0, 1) := dq_42 (dq_w dwm_118 12 rfl)
theorem dX6_readStatement_29 : decode cX6_readStatement 29 = .ok (.getfield 152, 3) := dq_180 (dq_w dwm_118 13 rfl) (dq_w dwm_118 14 rfl) (dq_w dwm_118 15 rfl) rfl
theorem dX6_readStatement_32 : decode cX6_readStatement 32 = .ok (.ifCond .ne 10, 3) := dq_154 (dq_w dwm_119 0 rfl) (dq_w dwm_119 1 rfl) (dq_w dwm_119 2 rfl) (dq_p (n := 10) rfl rfl)
theorem dX6_readStatement_35 : decode cX6_readStatement 35 = .ok (.iload_n 2, 1) := dq_28 (dq_w dwm_119 3 rfl)
theorem dX6_readStatement_36 : decode cX6_readStatement 36 = .ok (.invokestatic 168, 3) := dq_184 (dq_w dwm_119 4 rfl) (dq_w dwm_119 5 rfl) (dq_w dwm_119 6 rfl) rfl
theorem dX6_readStatement_39 : decode cX6_readStatement 39 = .ok (.ifCond .ne 7, 3) := dq_154 (dq_w dwm_119 7 rfl) (dq_w dwm_119 8 rfl) (dq_w dwm_119 9 rfl) (dq_p (n := 7) rfl rfl)
theorem dX6_readStatement_42 : decode cX6_readStatement 42 = .ok (.iconst 1, 1) := dq_4 (dq_w dwm_119 10 rfl)
theorem dX6_readStatement_43 : decode cX6_readStatement 43 = .ok (.goto 4, 3) := dq_167 (dq_w dwm_119 11 rfl) (dq_w dwm_119 12 rfl) (dq_w dwm_119 13 rfl) (dq_p (n := 4) rfl rfl)
theorem dX6_readStatement_46 : decode cX6_readStatement 46 = .ok (.iconst 0, 1) := dq_3 (dq_w dwm_119 14 rfl)
theorem dX6_readStatement_47 : decode cX6_readStatement 47 = .ok (.putfield 152, 3) := dq_181 (dq_w dwm_119 15 rfl) (dq_w dwm_120 0 rfl) (dq_w dwm_120 1 rfl) rfl
theorem dX6_readStatement_50 : decode cX6_readStatement 50 = .ok (.aload_n 0, 1) := dq_42 (dq_w dwm_120 2 rfl)
theorem dX6_readStatement_51 : decode cX6_readStatement 51 = .ok (.dup, 1) := dq_89 (dq_w dwm_120 3 rfl)
theorem dX6_readStatement_52 : decode cX6_readStatement 52 = .ok (.getfield 149, 3) := dq_180 (dq_w dwm_120 4 rfl) (dq_w dwm_120 5 rfl) (dq_w dwm_120 6 rfl) rfl
theorem dX6_readStatement_55 : decode cX6_readStatement 55 = .ok (.aload_n 0, 1) := dq_42 (dq_w dwm_120 7 rfl)
theorem dX6_readStatement_56 : decode cX6_readStatement 56 = .ok (.getfield 152, 3) := dq_180 (dq_w dwm_120 8 rfl) (dq_w dwm_120 9 rfl) (dq_w dwm_120 10 rfl) rfl
theorem dX6_readStatement_59 : decode cX6_readStatement 59 = .ok (.ifCond .eq 7, 3) := dq_153 (dq_w dwm_120 11 rfl) (dq_w dwm_120 12 rfl) (dq_w dwm_120 13 rfl) (dq_p (n := 7) rfl rfl)
theorem dX6_readStatement_62 : decode cX6_readStatement 62 = .ok (.iconst 0, 1) := dq_3 (dq_w dwm_120 14 rfl)
theorem dX6_readStatement_63 : decode cX6_readStatement 63 = .ok (.goto 4, 3) := dq_167 (dq_w dwm_120 15 rfl) (dq_w dwm_121 0 rfl) (dq_w dwm_121 1 rfl) (dq_p (n := 4) rfl rfl)
theorem dX6_readStatement_66 : decode cX6_readStatement 66 = .ok (.iconst 1, 1) := dq_4 (dq_w dwm_121 2 rfl)
theorem dX6_readStatement_67 : decode cX6_readStatement 67 = .ok (.iadd, 1) := dq_96 (dq_w dwm_121 3 rfl)
theorem dX6_readStatement_68 : decode cX6_readStatement 68 = .ok (.putfield 149, 3) := dq_181 (dq_w dwm_121 4 rfl) (dq_w dwm_121 5 rfl) (dq_w dwm_121 6 rfl) rfl
theorem dX6_readStatement_71 : decode cX6_readStatement 71 = .ok (.aload_n 0, 1) := dq_42 (dq_w dwm_121 7 rfl)
theorem dX6_readStatement_72 : decode cX6_readStatement 72 = .ok (.getfield 152, 3) := dq_180 (dq_w dwm_121 8 rfl) (dq_w dwm_121 9 rfl) (dq_w dwm_121 10 rfl) rfl
theorem dX6_readStatement_75 : decode cX6_readStatement 75 = .ok (.ifCond .ne 11, 3) := dq_154 (dq_w dwm_121 11 rfl) (dq_w dwm_121 12 rfl) (dq_w dwm_121 13 rfl) (dq_p (n := 11) rfl rfl)
theorem dX6_readStatement_78 : decode cX6_readStatement 78 = .ok (.aload_n 0, 1) := dq_42 (dq_w dwm_121 14 rfl)
theorem dX6_readStatement_79 : decode cX6_readStatement 79 = .ok (.iload_n 2, 1) := dq_28 (dq_w dwm_121 15 rfl)
theorem dX6_readStatement_80 : decode cX6_readStatement 80 = .ok (.iconst 3, 1) := dq_6 (dq_w dwm_122 0 rfl)
theorem dX6_readStatement_81 : decode cX6_readStatement 81 = .ok (.iload_n 1, 1) := dq_27 (dq_w dwm_122 1 rfl)
theorem dX6_readStatement_82 : decode cX6_readStatement 82 = .ok (.imul, 1) := dq_104 (dq_w dwm_122 2 rfl)
theorem dX6_readStatement_83 : decode cX6_readStatement 83 = .ok (.invokevirtual 171, 3) := dq_182 (dq_w dwm_122 3 rfl) (dq_w dwm_122 4 rfl) (dq_w dwm_122 5 rfl) rfl
theorem dX6_readStatement_86 : decode cX6_readStatement 86 = .ok (.aload_n 0, 1) := dq_42 (dq_w dwm_122 6 rfl)
theorem dX6_readStatement_87 : decode cX6_readStatement 87 = .ok (.aload_n 0, 1) := dq_42 (dq_w dwm_122 7 rfl)
theorem dX6_readStatement_88 : decode cX6_readStatement 88 = .ok (.getfield 152, 3) := dq_180 (dq_w dwm_122 8 rfl) (dq_w dwm_122 9 rfl) (dq_w dwm_122 10 rfl) rfl
theorem dX6_readStatement_91 : decode cX6_readStatement 91 = .ok (.ifCond .ne 12, 3) := dq_154 (dq_w dwm_122 11 rfl) (dq_w dwm_122 12 rfl) (dq_w dwm_122 13 rfl) (dq_p (n := 12) rfl rfl)
theorem dX6_readStatement_94 : decode cX6_readStatement 94 = .ok (.aload_n 0, 1) := dq_42 (dq_w dwm_122 14 rfl)
theorem dX6_readStatement_95 : decode cX6_readStatement 95 = .ok (.invokevirtual 156, 3) := dq_182 (dq_w dwm_122 15 rfl) (dq_w dwm_123 0 rfl) (dq_w dwm_123 1 rfl) rfl
theorem dX6_readStatement_98 : decode cX6_readStatement 98 = .ok (.bipush 59, 2) := dq_16 (dq_w dwm_123 2 rfl) (dq_w dwm_123 3 rfl) rfl
theorem dX6_readStatement_100 : decode cX6_readStatement 100 = .ok (.if_icmp .eq 7, 3) := dq_159 (dq_w dwm_123 4 rfl) (dq_w dwm_123 5 rfl) (dq_w dwm_123 6 rfl) (dq_p (n := 7) rfl rfl)
theorem dX6_readStatement_103 : decode cX6_readStatement 103 = .ok (.iconst 1, 1) := dq_4 (dq_w dwm_123 7 rfl)
theorem dX6_readStatement_104 : decode cX6_readStatement 104 = .ok (.goto 4, 3) := dq_167 (dq_w dwm_123 8 rfl) (dq_w dwm_123 9 rfl) (dq_w dwm_123 10 rfl) (dq_p (n := 4) rfl rfl)
theorem dX6_readStatement_107 : decode cX6_readStatement 107 = .ok (.iconst 0, 1) := dq_3 (dq_w dwm_123 11 rfl)
theorem dX6_readStatement_108 : decode cX6_readStatement 108 = .ok (.putfield 152, 3) := dq_181 (dq_w dwm_123 12 rfl) (dq_w dwm_123 13 rfl) (dq_w dwm_123 14 rfl) rfl
theorem dX6_readStatement_111 : decode cX6_readStatement 111 = .ok (.aload_n 0, 1) := dq_42 (dq_w dwm_123 15 rfl)
theorem dX6_readStatement_112 : decode cX6_readStatement 112 = .ok (.dup, 1) := dq_89 (dq_w dwm_124 0 rfl)
theorem dX6_readStatement_113 : decode cX6_readStatement 113 = .ok (.getfield 149, 3) := dq_180 (dq_w dwm_124 1 rfl) (dq_w dwm_124 2 rfl) (dq_w dwm_124 3 rfl) rfl
theorem dX6_readStatement_116 : decode cX6_readStatement 116 = .ok (.aload_n 0, 1) := dq_42 (dq_w dwm_124 4 rfl)
theorem dX6_readStatement_117 : decode cX6_readStatement 117 = .ok (.getfield 152, 3) := dq_180 (dq_w dwm_124 5 rfl) (dq_w dwm_124 6 rfl) (dq_w dwm_124 7 rfl) rfl
theorem dX6_readStatement_120 : decode cX6_readStatement 120 = .ok (.ifCond .eq 7, 3) := dq_153 (dq_w dwm_124 8 rfl) (dq_w dwm_124 9 rfl) (dq_w dwm_124 10 rfl) (dq_p (n := 7) rfl rfl)
theorem dX6_readStatement_123 : decode cX6_readStatement 123 = .ok (.iconst 0, 1) := dq_3 (dq_w dwm_124 11 rfl)
theorem dX6_readStatement_124 : decode cX6_readStatement 124 = .ok (.goto 4, 3) := dq_167 (dq_w dwm_124 12 rfl) (dq_w dwm_124 13 rfl) (dq_w dwm_124 14 rfl) (dq_p (n := 4) rfl rfl)
theorem dX6_readStatement_127 : decode cX6_readStatement 127 = .ok (.iconst 1, 1) := dq_4 (dq_w dwm_124 15 rfl)
theorem dX6_readStatement_128 : decode cX6_readStatement 128 = .ok (.iadd, 1) := dq_96 (dq_w dwm_125 0 rfl)
theorem dX6_readStatement_129 : decode cX6_readStatement 129 = .ok (.putfield 149, 3) := dq_181 (dq_w dwm_125 1 rfl) (dq_w dwm_125 2 rfl) (dq_w dwm_125 3 rfl) rfl
theorem dX6_readStatement_132 : decode cX6_readStatement 132 = .ok (.aload_n 0, 1) := dq_42 (dq_w dwm_125 4 rfl)
theorem dX6_readStatement_133 : decode cX6_readStatement 133 = .ok (.dup, 1) := dq_89 (dq_w dwm_125 5 rfl)
theorem dX6_readStatement_134 : decode cX6_readStatement 134 = .ok (.getfield 165, 3) := dq_180 (dq_w dwm_125 6 rfl) (dq_w dwm_125 7 rfl) (dq_w dwm_125 8 rfl) rfl
theorem dX6_readStatement_137 : decode cX6_readStatement 137 = .ok (.iconst 1, 1) := dq_4 (dq_w dwm_125 9 rfl)
theorem dX6_readStatement_138 : decode cX6_readStatement 138 = .ok (.iadd, 1) := dq_96 (dq_w dwm_125 10 rfl)
theorem dX6_readStatement_139 : decode cX6_readStatement 139 = .ok (.putfield 165, 3) := dq_181 (dq_w dwm_125 11 rfl) (dq_w dwm_125 12 rfl) (dq_w dwm_125 13 rfl) rfl
theorem dX6_readStatement_142 : decode cX6_readStatement 142 = .ok (.return_, 1) := dq_177 (dq_w dwm_125 14 rfl)
theorem dwm_126 : (cX6_comesTold.data.toList.drop 0).take 16 = [42, 180, 0, 46, 6, 27, 104, 46, 61, 42, 180, 0, 46, 6, 27, 104] := by decide +kernel
theorem dwm_127 : (cX6_comesTold.data.toList.drop 16).take 16 = [4, 96, 46, 62, 42, 180, 0, 46, 6, 27, 104, 5, 96, 46, 54, 4] := by decide +kernel
theorem dwm_128 : (cX6_comesTold.data.toList.drop 32).take 16 = [4, 54, 5, 42, 180, 0, 43, 27, 46, 171, 0, 0, 0, 0, 0, 192] := by decide +kernel
theorem dwm_129 : (cX6_comesTold.data.toList.drop 80).take 16 = [0, 0, 0, 135, 0, 0, 0, 119, 0, 0, 0, 60, 42, 28, 29, 21] := by decide +kernel
theorem dwm_130 : (cX6_comesTold.data.toList.drop 96).take 16 = [4, 182, 0, 175, 172, 42, 28, 29, 21, 4, 182, 0, 178, 172, 42, 28] := by decide +kernel
theorem dwm_131 : (cX6_comesTold.data.toList.drop 112).take 16 = [182, 0, 181, 54, 5, 21, 5, 153, 0, 17, 42, 180, 0, 19, 28, 4] := by decide +kernel
theorem dwm_132 : (cX6_comesTold.data.toList.drop 128).take 16 = [42, 180, 0, 19, 28, 46, 100, 79, 21, 5, 172, 42, 28, 182, 0, 184] := by decide +kernel
theorem dwm_133 : (cX6_comesTold.data.toList.drop 144).take 16 = [153, 0, 14, 29, 184, 0, 139, 153, 0, 7, 4, 167, 0, 4, 3, 54] := by decide +kernel
theorem dwm_134 : (cX6_comesTold.data.toList.drop 160).take 16 = [5, 21, 5, 153, 0, 10, 42, 180, 0, 25, 28, 29, 79, 21, 5, 172] := by decide +kernel
theorem dwm_135 : (cX6_comesTold.data.toList.drop 176).take 16 = [42, 28, 182, 0, 184, 153, 0, 15, 42, 29, 182, 0, 181, 153, 0, 7] := by decide +kernel
theorem dwm_136 : (cX6_comesTold.data.toList.drop 192).take 16 = [4, 167, 0, 4, 3, 54, 5, 21, 5, 153, 0, 29, 42, 180, 0, 31] := by decide +kernel
theorem dwm_137 : (cX6_comesTold.data.toList.drop 208).take 16 = [16, 7, 28, 104, 29, 96, 46, 154, 0, 15, 42, 180, 0, 31, 16, 7] := by decide +kernel
theorem dwm_138 : (cX6_comesTold.data.toList.drop 224).take 16 = [28, 104, 29, 96, 4, 79, 21, 5, 172, 28, 133, 10, 20, 0, 187, 184] := by decide +kernel
theorem dwm_139 : (cX6_comesTold.data.toList.drop 240).take 16 = [0, 85, 153, 0, 19, 42, 180, 0, 122, 28, 96, 17, 3, 231, 163, 0] := by decide +kernel
theorem dwm_140 : (cX6_comesTold.data.toList.drop 256).take 16 = [7, 4, 167, 0, 4, 3, 54, 5, 21, 5, 153, 0, 8, 42, 28, 182] := by decide +kernel
theorem dwm_141 : (cX6_comesTold.data.toList.drop 272).take 16 = [0, 189, 21, 5, 172] := by decide +kernel
theorem dX6_comesTold_0 : decode cX6_comesTold 0 = .ok (.aload_n 0, 1) := dq_42 (dq_w dwm_126 0 rfl)
theorem dX6_comesTold_1 : decode cX6_comesTold 1 = .ok (.getfield 46, 3) := dq_180 (dq_w dwm_126 1 rfl) (dq_w dwm_126 2 rfl) (dq_w dwm_126 3 rfl) rfl
theorem dX6_comesTold_4 : decode cX6_comesTold 4 = .ok (.iconst 3, 1) := dq_6 (dq_w dwm_126 4 rfl)
theorem dX6_comesTold_5 : decode cX6_comesTold 5 = .ok (.iload_n 1, 1) := dq_27 (dq_w dwm_126 5 rfl)
theorem dX6_comesTold_6 : decode cX6_comesTold 6 = .ok (.imul, 1) := dq_104 (dq_w dwm_126 6 rfl)
theorem dX6_comesTold_7 : decode cX6_comesTold 7 = .ok (.iaload, 1) := dq_46 (dq_w dwm_126 7 rfl)
theorem dX6_comesTold_8 : decode cX6_comesTold 8 = .ok (.istore_n 2, 1) := dq_61 (dq_w dwm_126 8 rfl)
theorem dX6_comesTold_9 : decode cX6_comesTold 9 = .ok (.aload_n 0, 1) := dq_42 (dq_w dwm_126 9 rfl)
theorem dX6_comesTold_10 : decode cX6_comesTold 10 = .ok (.getfield 46, 3) := dq_180 (dq_w dwm_126 10 rfl) (dq_w dwm_126 11 rfl) (dq_w dwm_126 12 rfl) rfl
theorem dX6_comesTold_13 : decode cX6_comesTold 13 = .ok (.iconst 3, 1) := dq_6 (dq_w dwm_126 13 rfl)
theorem dX6_comesTold_14 : decode cX6_comesTold 14 = .ok (.iload_n 1, 1) := dq_27 (dq_w dwm_126 14 rfl)
theorem dX6_comesTold_15 : decode cX6_comesTold 15 = .ok (.imul, 1) := dq_104 (dq_w dwm_126 15 rfl)
theorem dX6_comesTold_16 : decode cX6_comesTold 16 = .ok (.iconst 1, 1) := dq_4 (dq_w dwm_127 0 rfl)
theorem dX6_comesTold_17 : decode cX6_comesTold 17 = .ok (.iadd, 1) := dq_96 (dq_w dwm_127 1 rfl)
theorem dX6_comesTold_18 : decode cX6_comesTold 18 = .ok (.iaload, 1) := dq_46 (dq_w dwm_127 2 rfl)
theorem dX6_comesTold_19 : decode cX6_comesTold 19 = .ok (.istore_n 3, 1) := dq_62 (dq_w dwm_127 3 rfl)
theorem dX6_comesTold_20 : decode cX6_comesTold 20 = .ok (.aload_n 0, 1) := dq_42 (dq_w dwm_127 4 rfl)
theorem dX6_comesTold_21 : decode cX6_comesTold 21 = .ok (.getfield 46, 3) := dq_180 (dq_w dwm_127 5 rfl) (dq_w dwm_127 6 rfl) (dq_w dwm_127 7 rfl) rfl
theorem dX6_comesTold_24 : decode cX6_comesTold 24 = .ok (.iconst 3, 1) := dq_6 (dq_w dwm_127 8 rfl)
theorem dX6_comesTold_25 : decode cX6_comesTold 25 = .ok (.iload_n 1, 1) := dq_27 (dq_w dwm_127 9 rfl)
theorem dX6_comesTold_26 : decode cX6_comesTold 26 = .ok (.imul, 1) := dq_104 (dq_w dwm_127 10 rfl)
theorem dX6_comesTold_27 : decode cX6_comesTold 27 = .ok (.iconst 2, 1) := dq_5 (dq_w dwm_127 11 rfl)
theorem dX6_comesTold_28 : decode cX6_comesTold 28 = .ok (.iadd, 1) := dq_96 (dq_w dwm_127 12 rfl)
theorem dX6_comesTold_29 : decode cX6_comesTold 29 = .ok (.iaload, 1) := dq_46 (dq_w dwm_127 13 rfl)
theorem dX6_comesTold_30 : decode cX6_comesTold 30 = .ok (.istore 4, 2) := dq_54 (dq_w dwm_127 14 rfl) (dq_w dwm_127 15 rfl) rfl
theorem dX6_comesTold_32 : decode cX6_comesTold 32 = .ok (.iconst 1, 1) := dq_4 (dq_w dwm_128 0 rfl)
theorem dX6_comesTold_33 : decode cX6_comesTold 33 = .ok (.istore 5, 2) := dq_54 (dq_w dwm_128 1 rfl) (dq_w dwm_128 2 rfl) rfl
theorem dX6_comesTold_35 : decode cX6_comesTold 35 = .ok (.aload_n 0, 1) := dq_42 (dq_w dwm_128 3 rfl)
theorem dX6_comesTold_36 : decode cX6_comesTold 36 = .ok (.getfield 43, 3) := dq_180 (dq_w dwm_128 4 rfl) (dq_w dwm_128 5 rfl) (dq_w dwm_128 6 rfl) rfl
theorem dX6_comesTold_39 : decode cX6_comesTold 39 = .ok (.iload_n 1, 1) := dq_27 (dq_w dwm_128 7 rfl)
theorem dX6_comesTold_40 : decode cX6_comesTold 40 = .ok (.iaload, 1) := dq_46 (dq_w dwm_128 8 rfl)
theorem dX6_comesTold_41 : decode cX6_comesTold 41 = .ok (.lookupswitch 192 #[(103, 98), (104, 51), (108, 69), (111, 135), (119, 60)], 51) := by decide +kernel
theorem dX6_comesTold_92 : decode cX6_comesTold 92 = .ok (.aload_n 0, 1) := dq_42 (dq_w dwm_129 12 rfl)
theorem dX6_comesTold_93 : decode cX6_comesTold 93 = .ok (.iload_n 2, 1) := dq_28 (dq_w dwm_129 13 rfl)
theorem dX6_comesTold_94 : decode cX6_comesTold 94 = .ok (.iload_n 3, 1) := dq_29 (dq_w dwm_129 14 rfl)
theorem dX6_comesTold_95 : decode cX6_comesTold 95 = .ok (.iload 4, 2) := dq_21 (dq_w dwm_129 15 rfl) (dq_w dwm_130 0 rfl) rfl
theorem dX6_comesTold_97 : decode cX6_comesTold 97 = .ok (.invokevirtual 175, 3) := dq_182 (dq_w dwm_130 1 rfl) (dq_w dwm_130 2 rfl) (dq_w dwm_130 3 rfl) rfl
theorem dX6_comesTold_100 : decode cX6_comesTold 100 = .ok (.ireturn, 1) := dq_172 (dq_w dwm_130 4 rfl)
theorem dX6_comesTold_101 : decode cX6_comesTold 101 = .ok (.aload_n 0, 1) := dq_42 (dq_w dwm_130 5 rfl)
theorem dX6_comesTold_102 : decode cX6_comesTold 102 = .ok (.iload_n 2, 1) := dq_28 (dq_w dwm_130 6 rfl)
theorem dX6_comesTold_103 : decode cX6_comesTold 103 = .ok (.iload_n 3, 1) := dq_29 (dq_w dwm_130 7 rfl)
theorem dX6_comesTold_104 : decode cX6_comesTold 104 = .ok (.iload 4, 2) := dq_21 (dq_w dwm_130 8 rfl) (dq_w dwm_130 9 rfl) rfl
theorem dX6_comesTold_106 : decode cX6_comesTold 106 = .ok (.invokevirtual 178, 3) := dq_182 (dq_w dwm_130 10 rfl) (dq_w dwm_130 11 rfl) (dq_w dwm_130 12 rfl) rfl
theorem dX6_comesTold_109 : decode cX6_comesTold 109 = .ok (.ireturn, 1) := dq_172 (dq_w dwm_130 13 rfl)
theorem dX6_comesTold_110 : decode cX6_comesTold 110 = .ok (.aload_n 0, 1) := dq_42 (dq_w dwm_130 14 rfl)
theorem dX6_comesTold_111 : decode cX6_comesTold 111 = .ok (.iload_n 2, 1) := dq_28 (dq_w dwm_130 15 rfl)
theorem dX6_comesTold_112 : decode cX6_comesTold 112 = .ok (.invokevirtual 181, 3) := dq_182 (dq_w dwm_131 0 rfl) (dq_w dwm_131 1 rfl) (dq_w dwm_131 2 rfl) rfl
theorem dX6_comesTold_115 : decode cX6_comesTold 115 = .ok (.istore 5, 2) := dq_54 (dq_w dwm_131 3 rfl) (dq_w dwm_131 4 rfl) rfl
theorem dX6_comesTold_117 : decode cX6_comesTold 117 = .ok (.iload 5, 2) := dq_21 (dq_w dwm_131 5 rfl) (dq_w dwm_131 6 rfl) rfl
theorem dX6_comesTold_119 : decode cX6_comesTold 119 = .ok (.ifCond .eq 17, 3) := dq_153 (dq_w dwm_131 7 rfl) (dq_w dwm_131 8 rfl) (dq_w dwm_131 9 rfl) (dq_p (n := 17) rfl rfl)
theorem dX6_comesTold_122 : decode cX6_comesTold 122 = .ok (.aload_n 0, 1) := dq_42 (dq_w dwm_131 10 rfl)
theorem dX6_comesTold_123 : decode cX6_comesTold 123 = .ok (.getfield 19, 3) := dq_180 (dq_w dwm_131 11 rfl) (dq_w dwm_131 12 rfl) (dq_w dwm_131 13 rfl) rfl
theorem dX6_comesTold_126 : decode cX6_comesTold 126 = .ok (.iload_n 2, 1) := dq_28 (dq_w dwm_131 14 rfl)
theorem dX6_comesTold_127 : decode cX6_comesTold 127 = .ok (.iconst 1, 1) := dq_4 (dq_w dwm_131 15 rfl)
theorem dX6_comesTold_128 : decode cX6_comesTold 128 = .ok (.aload_n 0, 1) := dq_42 (dq_w dwm_132 0 rfl)
theorem dX6_comesTold_129 : decode cX6_comesTold 129 = .ok (.getfield 19, 3) := dq_180 (dq_w dwm_132 1 rfl) (dq_w dwm_132 2 rfl) (dq_w dwm_132 3 rfl) rfl
theorem dX6_comesTold_132 : decode cX6_comesTold 132 = .ok (.iload_n 2, 1) := dq_28 (dq_w dwm_132 4 rfl)
theorem dX6_comesTold_133 : decode cX6_comesTold 133 = .ok (.iaload, 1) := dq_46 (dq_w dwm_132 5 rfl)
theorem dX6_comesTold_134 : decode cX6_comesTold 134 = .ok (.isub, 1) := dq_100 (dq_w dwm_132 6 rfl)
theorem dX6_comesTold_135 : decode cX6_comesTold 135 = .ok (.iastore, 1) := dq_79 (dq_w dwm_132 7 rfl)
theorem dX6_comesTold_136 : decode cX6_comesTold 136 = .ok (.iload 5, 2) := dq_21 (dq_w dwm_132 8 rfl) (dq_w dwm_132 9 rfl) rfl
theorem dX6_comesTold_138 : decode cX6_comesTold 138 = .ok (.ireturn, 1) := dq_172 (dq_w dwm_132 10 rfl)
theorem dX6_comesTold_139 : decode cX6_comesTold 139 = .ok (.aload_n 0, 1) := dq_42 (dq_w dwm_132 11 rfl)
theorem dX6_comesTold_140 : decode cX6_comesTold 140 = .ok (.iload_n 2, 1) := dq_28 (dq_w dwm_132 12 rfl)
theorem dX6_comesTold_141 : decode cX6_comesTold 141 = .ok (.invokevirtual 184, 3) := dq_182 (dq_w dwm_132 13 rfl) (dq_w dwm_132 14 rfl) (dq_w dwm_132 15 rfl) rfl
theorem dX6_comesTold_144 : decode cX6_comesTold 144 = .ok (.ifCond .eq 14, 3) := dq_153 (dq_w dwm_133 0 rfl) (dq_w dwm_133 1 rfl) (dq_w dwm_133 2 rfl) (dq_p (n := 14) rfl rfl)
theorem dX6_comesTold_147 : decode cX6_comesTold 147 = .ok (.iload_n 3, 1) := dq_29 (dq_w dwm_133 3 rfl)
theorem dX6_comesTold_148 : decode cX6_comesTold 148 = .ok (.invokestatic 139, 3) := dq_184 (dq_w dwm_133 4 rfl) (dq_w dwm_133 5 rfl) (dq_w dwm_133 6 rfl) rfl
theorem dX6_comesTold_151 : decode cX6_comesTold 151 = .ok (.ifCond .eq 7, 3) := dq_153 (dq_w dwm_133 7 rfl) (dq_w dwm_133 8 rfl) (dq_w dwm_133 9 rfl) (dq_p (n := 7) rfl rfl)
theorem dX6_comesTold_154 : decode cX6_comesTold 154 = .ok (.iconst 1, 1) := dq_4 (dq_w dwm_133 10 rfl)
theorem dX6_comesTold_155 : decode cX6_comesTold 155 = .ok (.goto 4, 3) := dq_167 (dq_w dwm_133 11 rfl) (dq_w dwm_133 12 rfl) (dq_w dwm_133 13 rfl) (dq_p (n := 4) rfl rfl)
theorem dX6_comesTold_158 : decode cX6_comesTold 158 = .ok (.iconst 0, 1) := dq_3 (dq_w dwm_133 14 rfl)
theorem dX6_comesTold_159 : decode cX6_comesTold 159 = .ok (.istore 5, 2) := dq_54 (dq_w dwm_133 15 rfl) (dq_w dwm_134 0 rfl) rfl
theorem dX6_comesTold_161 : decode cX6_comesTold 161 = .ok (.iload 5, 2) := dq_21 (dq_w dwm_134 1 rfl) (dq_w dwm_134 2 rfl) rfl
theorem dX6_comesTold_163 : decode cX6_comesTold 163 = .ok (.ifCond .eq 10, 3) := dq_153 (dq_w dwm_134 3 rfl) (dq_w dwm_134 4 rfl) (dq_w dwm_134 5 rfl) (dq_p (n := 10) rfl rfl)
theorem dX6_comesTold_166 : decode cX6_comesTold 166 = .ok (.aload_n 0, 1) := dq_42 (dq_w dwm_134 6 rfl)
theorem dX6_comesTold_167 : decode cX6_comesTold 167 = .ok (.getfield 25, 3) := dq_180 (dq_w dwm_134 7 rfl) (dq_w dwm_134 8 rfl) (dq_w dwm_134 9 rfl) rfl
theorem dX6_comesTold_170 : decode cX6_comesTold 170 = .ok (.iload_n 2, 1) := dq_28 (dq_w dwm_134 10 rfl)
theorem dX6_comesTold_171 : decode cX6_comesTold 171 = .ok (.iload_n 3, 1) := dq_29 (dq_w dwm_134 11 rfl)
theorem dX6_comesTold_172 : decode cX6_comesTold 172 = .ok (.iastore, 1) := dq_79 (dq_w dwm_134 12 rfl)
theorem dX6_comesTold_173 : decode cX6_comesTold 173 = .ok (.iload 5, 2) := dq_21 (dq_w dwm_134 13 rfl) (dq_w dwm_134 14 rfl) rfl
theorem dX6_comesTold_175 : decode cX6_comesTold 175 = .ok (.ireturn, 1) := dq_172 (dq_w dwm_134 15 rfl)
theorem dX6_comesTold_176 : decode cX6_comesTold 176 = .ok (.aload_n 0, 1) := dq_42 (dq_w dwm_135 0 rfl)
theorem dX6_comesTold_177 : decode cX6_comesTold 177 = .ok (.iload_n 2, 1) := dq_28 (dq_w dwm_135 1 rfl)
theorem dX6_comesTold_178 : decode cX6_comesTold 178 = .ok (.invokevirtual 184, 3) := dq_182 (dq_w dwm_135 2 rfl) (dq_w dwm_135 3 rfl) (dq_w dwm_135 4 rfl) rfl
theorem dX6_comesTold_181 : decode cX6_comesTold 181 = .ok (.ifCond .eq 15, 3) := dq_153 (dq_w dwm_135 5 rfl) (dq_w dwm_135 6 rfl) (dq_w dwm_135 7 rfl) (dq_p (n := 15) rfl rfl)
theorem dX6_comesTold_184 : decode cX6_comesTold 184 = .ok (.aload_n 0, 1) := dq_42 (dq_w dwm_135 8 rfl)
theorem dX6_comesTold_185 : decode cX6_comesTold 185 = .ok (.iload_n 3, 1) := dq_29 (dq_w dwm_135 9 rfl)
theorem dX6_comesTold_186 : decode cX6_comesTold 186 = .ok (.invokevirtual 181, 3) := dq_182 (dq_w dwm_135 10 rfl) (dq_w dwm_135 11 rfl) (dq_w dwm_135 12 rfl) rfl
theorem dX6_comesTold_189 : decode cX6_comesTold 189 = .ok (.ifCond .eq 7, 3) := dq_153 (dq_w dwm_135 13 rfl) (dq_w dwm_135 14 rfl) (dq_w dwm_135 15 rfl) (dq_p (n := 7) rfl rfl)
theorem dX6_comesTold_192 : decode cX6_comesTold 192 = .ok (.iconst 1, 1) := dq_4 (dq_w dwm_136 0 rfl)
theorem dX6_comesTold_193 : decode cX6_comesTold 193 = .ok (.goto 4, 3) := dq_167 (dq_w dwm_136 1 rfl) (dq_w dwm_136 2 rfl) (dq_w dwm_136 3 rfl) (dq_p (n := 4) rfl rfl)
theorem dX6_comesTold_196 : decode cX6_comesTold 196 = .ok (.iconst 0, 1) := dq_3 (dq_w dwm_136 4 rfl)
theorem dX6_comesTold_197 : decode cX6_comesTold 197 = .ok (.istore 5, 2) := dq_54 (dq_w dwm_136 5 rfl) (dq_w dwm_136 6 rfl) rfl
theorem dX6_comesTold_199 : decode cX6_comesTold 199 = .ok (.iload 5, 2) := dq_21 (dq_w dwm_136 7 rfl) (dq_w dwm_136 8 rfl) rfl
theorem dX6_comesTold_201 : decode cX6_comesTold 201 = .ok (.ifCond .eq 29, 3) := dq_153 (dq_w dwm_136 9 rfl) (dq_w dwm_136 10 rfl) (dq_w dwm_136 11 rfl) (dq_p (n := 29) rfl rfl)
theorem dX6_comesTold_204 : decode cX6_comesTold 204 = .ok (.aload_n 0, 1) := dq_42 (dq_w dwm_136 12 rfl)
theorem dX6_comesTold_205 : decode cX6_comesTold 205 = .ok (.getfield 31, 3) := dq_180 (dq_w dwm_136 13 rfl) (dq_w dwm_136 14 rfl) (dq_w dwm_136 15 rfl) rfl
theorem dX6_comesTold_208 : decode cX6_comesTold 208 = .ok (.bipush 7, 2) := dq_16 (dq_w dwm_137 0 rfl) (dq_w dwm_137 1 rfl) rfl
theorem dX6_comesTold_210 : decode cX6_comesTold 210 = .ok (.iload_n 2, 1) := dq_28 (dq_w dwm_137 2 rfl)
theorem dX6_comesTold_211 : decode cX6_comesTold 211 = .ok (.imul, 1) := dq_104 (dq_w dwm_137 3 rfl)
theorem dX6_comesTold_212 : decode cX6_comesTold 212 = .ok (.iload_n 3, 1) := dq_29 (dq_w dwm_137 4 rfl)
theorem dX6_comesTold_213 : decode cX6_comesTold 213 = .ok (.iadd, 1) := dq_96 (dq_w dwm_137 5 rfl)
theorem dX6_comesTold_214 : decode cX6_comesTold 214 = .ok (.iaload, 1) := dq_46 (dq_w dwm_137 6 rfl)
theorem dX6_comesTold_215 : decode cX6_comesTold 215 = .ok (.ifCond .ne 15, 3) := dq_154 (dq_w dwm_137 7 rfl) (dq_w dwm_137 8 rfl) (dq_w dwm_137 9 rfl) (dq_p (n := 15) rfl rfl)
theorem dX6_comesTold_218 : decode cX6_comesTold 218 = .ok (.aload_n 0, 1) := dq_42 (dq_w dwm_137 10 rfl)
theorem dX6_comesTold_219 : decode cX6_comesTold 219 = .ok (.getfield 31, 3) := dq_180 (dq_w dwm_137 11 rfl) (dq_w dwm_137 12 rfl) (dq_w dwm_137 13 rfl) rfl
theorem dX6_comesTold_222 : decode cX6_comesTold 222 = .ok (.bipush 7, 2) := dq_16 (dq_w dwm_137 14 rfl) (dq_w dwm_137 15 rfl) rfl
theorem dX6_comesTold_224 : decode cX6_comesTold 224 = .ok (.iload_n 2, 1) := dq_28 (dq_w dwm_138 0 rfl)
theorem dX6_comesTold_225 : decode cX6_comesTold 225 = .ok (.imul, 1) := dq_104 (dq_w dwm_138 1 rfl)
theorem dX6_comesTold_226 : decode cX6_comesTold 226 = .ok (.iload_n 3, 1) := dq_29 (dq_w dwm_138 2 rfl)
theorem dX6_comesTold_227 : decode cX6_comesTold 227 = .ok (.iadd, 1) := dq_96 (dq_w dwm_138 3 rfl)
theorem dX6_comesTold_228 : decode cX6_comesTold 228 = .ok (.iconst 1, 1) := dq_4 (dq_w dwm_138 4 rfl)
theorem dX6_comesTold_229 : decode cX6_comesTold 229 = .ok (.iastore, 1) := dq_79 (dq_w dwm_138 5 rfl)
theorem dX6_comesTold_230 : decode cX6_comesTold 230 = .ok (.iload 5, 2) := dq_21 (dq_w dwm_138 6 rfl) (dq_w dwm_138 7 rfl) rfl
theorem dX6_comesTold_232 : decode cX6_comesTold 232 = .ok (.ireturn, 1) := dq_172 (dq_w dwm_138 8 rfl)
theorem dX6_comesTold_233 : decode cX6_comesTold 233 = .ok (.iload_n 2, 1) := dq_28 (dq_w dwm_138 9 rfl)
theorem dX6_comesTold_234 : decode cX6_comesTold 234 = .ok (.i2l, 1) := dq_133 (dq_w dwm_138 10 rfl)
theorem dX6_comesTold_235 : decode cX6_comesTold 235 = .ok (.lconst 1, 1) := dq_10 (dq_w dwm_138 11 rfl)
theorem dX6_comesTold_236 : decode cX6_comesTold 236 = .ok (.ldc2_w 187, 3) := dq_20 (dq_w dwm_138 12 rfl) (dq_w dwm_138 13 rfl) (dq_w dwm_138 14 rfl) rfl
theorem dX6_comesTold_239 : decode cX6_comesTold 239 = .ok (.invokestatic 85, 3) := dq_184 (dq_w dwm_138 15 rfl) (dq_w dwm_139 0 rfl) (dq_w dwm_139 1 rfl) rfl
theorem dX6_comesTold_242 : decode cX6_comesTold 242 = .ok (.ifCond .eq 19, 3) := dq_153 (dq_w dwm_139 2 rfl) (dq_w dwm_139 3 rfl) (dq_w dwm_139 4 rfl) (dq_p (n := 19) rfl rfl)
theorem dX6_comesTold_245 : decode cX6_comesTold 245 = .ok (.aload_n 0, 1) := dq_42 (dq_w dwm_139 5 rfl)
theorem dX6_comesTold_246 : decode cX6_comesTold 246 = .ok (.getfield 122, 3) := dq_180 (dq_w dwm_139 6 rfl) (dq_w dwm_139 7 rfl) (dq_w dwm_139 8 rfl) rfl
theorem dX6_comesTold_249 : decode cX6_comesTold 249 = .ok (.iload_n 2, 1) := dq_28 (dq_w dwm_139 9 rfl)
theorem dX6_comesTold_250 : decode cX6_comesTold 250 = .ok (.iadd, 1) := dq_96 (dq_w dwm_139 10 rfl)
theorem dX6_comesTold_251 : decode cX6_comesTold 251 = .ok (.sipush 999, 3) := dq_17 (dq_w dwm_139 11 rfl) (dq_w dwm_139 12 rfl) (dq_w dwm_139 13 rfl) (dq_p (n := 999) rfl rfl)
theorem dX6_comesTold_254 : decode cX6_comesTold 254 = .ok (.if_icmp .gt 7, 3) := dq_163 (dq_w dwm_139 14 rfl) (dq_w dwm_139 15 rfl) (dq_w dwm_140 0 rfl) (dq_p (n := 7) rfl rfl)
theorem dX6_comesTold_257 : decode cX6_comesTold 257 = .ok (.iconst 1, 1) := dq_4 (dq_w dwm_140 1 rfl)
theorem dX6_comesTold_258 : decode cX6_comesTold 258 = .ok (.goto 4, 3) := dq_167 (dq_w dwm_140 2 rfl) (dq_w dwm_140 3 rfl) (dq_w dwm_140 4 rfl) (dq_p (n := 4) rfl rfl)
theorem dX6_comesTold_261 : decode cX6_comesTold 261 = .ok (.iconst 0, 1) := dq_3 (dq_w dwm_140 5 rfl)
theorem dX6_comesTold_262 : decode cX6_comesTold 262 = .ok (.istore 5, 2) := dq_54 (dq_w dwm_140 6 rfl) (dq_w dwm_140 7 rfl) rfl
theorem dX6_comesTold_264 : decode cX6_comesTold 264 = .ok (.iload 5, 2) := dq_21 (dq_w dwm_140 8 rfl) (dq_w dwm_140 9 rfl) rfl
theorem dX6_comesTold_266 : decode cX6_comesTold 266 = .ok (.ifCond .eq 8, 3) := dq_153 (dq_w dwm_140 10 rfl) (dq_w dwm_140 11 rfl) (dq_w dwm_140 12 rfl) (dq_p (n := 8) rfl rfl)
theorem dX6_comesTold_269 : decode cX6_comesTold 269 = .ok (.aload_n 0, 1) := dq_42 (dq_w dwm_140 13 rfl)
theorem dX6_comesTold_270 : decode cX6_comesTold 270 = .ok (.iload_n 2, 1) := dq_28 (dq_w dwm_140 14 rfl)
theorem dX6_comesTold_271 : decode cX6_comesTold 271 = .ok (.invokevirtual 189, 3) := dq_182 (dq_w dwm_140 15 rfl) (dq_w dwm_141 0 rfl) (dq_w dwm_141 1 rfl) rfl
theorem dX6_comesTold_274 : decode cX6_comesTold 274 = .ok (.iload 5, 2) := dq_21 (dq_w dwm_141 2 rfl) (dq_w dwm_141 3 rfl) rfl
theorem dX6_comesTold_276 : decode cX6_comesTold 276 = .ok (.ireturn, 1) := dq_172 (dq_w dwm_141 4 rfl)
theorem dwm_142 : (cX6_village.data.toList.drop 0).take 16 = [42, 3, 181, 0, 79, 42, 3, 181, 0, 149, 42, 3, 181, 0, 152, 42] := by decide +kernel
theorem dwm_143 : (cX6_village.data.toList.drop 16).take 16 = [3, 181, 0, 165, 42, 180, 0, 152, 154, 0, 28, 42, 180, 0, 165, 153] := by decide +kernel
theorem dwm_144 : (cX6_village.data.toList.drop 32).take 16 = [0, 14, 42, 180, 0, 149, 42, 180, 0, 146, 162, 0, 10, 42, 182, 0] := by decide +kernel
theorem dwm_145 : (cX6_village.data.toList.drop 48).take 16 = [193, 167, 255, 227, 42, 3, 181, 0, 146, 42, 180, 0, 152, 153, 0, 12] := by decide +kernel
theorem dwm_146 : (cX6_village.data.toList.drop 64).take 16 = [17, 252, 24, 42, 180, 0, 149, 100, 172, 42, 182, 0, 196, 3, 60, 27] := by decide +kernel
theorem dwm_147 : (cX6_village.data.toList.drop 80).take 16 = [42, 180, 0, 165, 162, 0, 32, 42, 27, 182, 0, 199, 154, 0, 18, 42] := by decide +kernel
theorem dwm_148 : (cX6_village.data.toList.drop 96).take 16 = [182, 0, 202, 17, 248, 48, 42, 180, 0, 40, 27, 46, 100, 172, 132, 1] := by decide +kernel
theorem dwm_149 : (cX6_village.data.toList.drop 112).take 16 = [1, 167, 255, 222, 42, 3, 181, 0, 205, 42, 180, 0, 165, 172] := by decide +kernel
theorem dX6_village_0 : decode cX6_village 0 = .ok (.aload_n 0, 1) := dq_42 (dq_w dwm_142 0 rfl)
theorem dX6_village_1 : decode cX6_village 1 = .ok (.iconst 0, 1) := dq_3 (dq_w dwm_142 1 rfl)
theorem dX6_village_2 : decode cX6_village 2 = .ok (.putfield 79, 3) := dq_181 (dq_w dwm_142 2 rfl) (dq_w dwm_142 3 rfl) (dq_w dwm_142 4 rfl) rfl
theorem dX6_village_5 : decode cX6_village 5 = .ok (.aload_n 0, 1) := dq_42 (dq_w dwm_142 5 rfl)
theorem dX6_village_6 : decode cX6_village 6 = .ok (.iconst 0, 1) := dq_3 (dq_w dwm_142 6 rfl)
theorem dX6_village_7 : decode cX6_village 7 = .ok (.putfield 149, 3) := dq_181 (dq_w dwm_142 7 rfl) (dq_w dwm_142 8 rfl) (dq_w dwm_142 9 rfl) rfl
theorem dX6_village_10 : decode cX6_village 10 = .ok (.aload_n 0, 1) := dq_42 (dq_w dwm_142 10 rfl)
theorem dX6_village_11 : decode cX6_village 11 = .ok (.iconst 0, 1) := dq_3 (dq_w dwm_142 11 rfl)
theorem dX6_village_12 : decode cX6_village 12 = .ok (.putfield 152, 3) := dq_181 (dq_w dwm_142 12 rfl) (dq_w dwm_142 13 rfl) (dq_w dwm_142 14 rfl) rfl
theorem dX6_village_15 : decode cX6_village 15 = .ok (.aload_n 0, 1) := dq_42 (dq_w dwm_142 15 rfl)
theorem dX6_village_16 : decode cX6_village 16 = .ok (.iconst 0, 1) := dq_3 (dq_w dwm_143 0 rfl)
theorem dX6_village_17 : decode cX6_village 17 = .ok (.putfield 165, 3) := dq_181 (dq_w dwm_143 1 rfl) (dq_w dwm_143 2 rfl) (dq_w dwm_143 3 rfl) rfl
theorem dX6_village_20 : decode cX6_village 20 = .ok (.aload_n 0, 1) := dq_42 (dq_w dwm_143 4 rfl)
theorem dX6_village_21 : decode cX6_village 21 = .ok (.getfield 152, 3) := dq_180 (dq_w dwm_143 5 rfl) (dq_w dwm_143 6 rfl) (dq_w dwm_143 7 rfl) rfl
theorem dX6_village_24 : decode cX6_village 24 = .ok (.ifCond .ne 28, 3) := dq_154 (dq_w dwm_143 8 rfl) (dq_w dwm_143 9 rfl) (dq_w dwm_143 10 rfl) (dq_p (n := 28) rfl rfl)
theorem dX6_village_27 : decode cX6_village 27 = .ok (.aload_n 0, 1) := dq_42 (dq_w dwm_143 11 rfl)
theorem dX6_village_28 : decode cX6_village 28 = .ok (.getfield 165, 3) := dq_180 (dq_w dwm_143 12 rfl) (dq_w dwm_143 13 rfl) (dq_w dwm_143 14 rfl) rfl
theorem dX6_village_31 : decode cX6_village 31 = .ok (.ifCond .eq 14, 3) := dq_153 (dq_w dwm_143 15 rfl) (dq_w dwm_144 0 rfl) (dq_w dwm_144 1 rfl) (dq_p (n := 14) rfl rfl)
theorem dX6_village_34 : decode cX6_village 34 = .ok (.aload_n 0, 1) := dq_42 (dq_w dwm_144 2 rfl)
theorem dX6_village_35 : decode cX6_village 35 = .ok (.getfield 149, 3) := dq_180 (dq_w dwm_144 3 rfl) (dq_w dwm_144 4 rfl) (dq_w dwm_144 5 rfl) rfl
theorem dX6_village_38 : decode cX6_village 38 = .ok (.aload_n 0, 1) := dq_42 (dq_w dwm_144 6 rfl)
theorem dX6_village_39 : decode cX6_village 39 = .ok (.getfield 146, 3) := dq_180 (dq_w dwm_144 7 rfl) (dq_w dwm_144 8 rfl) (dq_w dwm_144 9 rfl) rfl
theorem dX6_village_42 : decode cX6_village 42 = .ok (.if_icmp .ge 10, 3) := dq_162 (dq_w dwm_144 10 rfl) (dq_w dwm_144 11 rfl) (dq_w dwm_144 12 rfl) (dq_p (n := 10) rfl rfl)
theorem dX6_village_45 : decode cX6_village 45 = .ok (.aload_n 0, 1) := dq_42 (dq_w dwm_144 13 rfl)
theorem dX6_village_46 : decode cX6_village 46 = .ok (.invokevirtual 193, 3) := dq_182 (dq_w dwm_144 14 rfl) (dq_w dwm_144 15 rfl) (dq_w dwm_145 0 rfl) rfl
theorem dX6_village_49 : decode cX6_village 49 = .ok (.goto (-29), 3) := dq_167 (dq_w dwm_145 1 rfl) (dq_w dwm_145 2 rfl) (dq_w dwm_145 3 rfl) (dq_n (m := 29) rfl rfl)
theorem dX6_village_52 : decode cX6_village 52 = .ok (.aload_n 0, 1) := dq_42 (dq_w dwm_145 4 rfl)
theorem dX6_village_53 : decode cX6_village 53 = .ok (.iconst 0, 1) := dq_3 (dq_w dwm_145 5 rfl)
theorem dX6_village_54 : decode cX6_village 54 = .ok (.putfield 146, 3) := dq_181 (dq_w dwm_145 6 rfl) (dq_w dwm_145 7 rfl) (dq_w dwm_145 8 rfl) rfl
theorem dX6_village_57 : decode cX6_village 57 = .ok (.aload_n 0, 1) := dq_42 (dq_w dwm_145 9 rfl)
theorem dX6_village_58 : decode cX6_village 58 = .ok (.getfield 152, 3) := dq_180 (dq_w dwm_145 10 rfl) (dq_w dwm_145 11 rfl) (dq_w dwm_145 12 rfl) rfl
theorem dX6_village_61 : decode cX6_village 61 = .ok (.ifCond .eq 12, 3) := dq_153 (dq_w dwm_145 13 rfl) (dq_w dwm_145 14 rfl) (dq_w dwm_145 15 rfl) (dq_p (n := 12) rfl rfl)
theorem dX6_village_64 : decode cX6_village 64 = .ok (.sipush (-1000), 3) := dq_17 (dq_w dwm_146 0 rfl) (dq_w dwm_146 1 rfl) (dq_w dwm_146 2 rfl) (dq_n (m := 1000) rfl rfl)
theorem dX6_village_67 : decode cX6_village 67 = .ok (.aload_n 0, 1) := dq_42 (dq_w dwm_146 3 rfl)
theorem dX6_village_68 : decode cX6_village 68 = .ok (.getfield 149, 3) := dq_180 (dq_w dwm_146 4 rfl) (dq_w dwm_146 5 rfl) (dq_w dwm_146 6 rfl) rfl
theorem dX6_village_71 : decode cX6_village 71 = .ok (.isub, 1) := dq_100 (dq_w dwm_146 7 rfl)
theorem dX6_village_72 : decode cX6_village 72 = .ok (.ireturn, 1) := dq_172 (dq_w dwm_146 8 rfl)
theorem dX6_village_73 : decode cX6_village 73 = .ok (.aload_n 0, 1) := dq_42 (dq_w dwm_146 9 rfl)
theorem dX6_village_74 : decode cX6_village 74 = .ok (.invokevirtual 196, 3) := dq_182 (dq_w dwm_146 10 rfl) (dq_w dwm_146 11 rfl) (dq_w dwm_146 12 rfl) rfl
theorem dX6_village_77 : decode cX6_village 77 = .ok (.iconst 0, 1) := dq_3 (dq_w dwm_146 13 rfl)
theorem dX6_village_78 : decode cX6_village 78 = .ok (.istore_n 1, 1) := dq_60 (dq_w dwm_146 14 rfl)
theorem dX6_village_79 : decode cX6_village 79 = .ok (.iload_n 1, 1) := dq_27 (dq_w dwm_146 15 rfl)
theorem dX6_village_80 : decode cX6_village 80 = .ok (.aload_n 0, 1) := dq_42 (dq_w dwm_147 0 rfl)
theorem dX6_village_81 : decode cX6_village 81 = .ok (.getfield 165, 3) := dq_180 (dq_w dwm_147 1 rfl) (dq_w dwm_147 2 rfl) (dq_w dwm_147 3 rfl) rfl
theorem dX6_village_84 : decode cX6_village 84 = .ok (.if_icmp .ge 32, 3) := dq_162 (dq_w dwm_147 4 rfl) (dq_w dwm_147 5 rfl) (dq_w dwm_147 6 rfl) (dq_p (n := 32) rfl rfl)
theorem dX6_village_87 : decode cX6_village 87 = .ok (.aload_n 0, 1) := dq_42 (dq_w dwm_147 7 rfl)
theorem dX6_village_88 : decode cX6_village 88 = .ok (.iload_n 1, 1) := dq_27 (dq_w dwm_147 8 rfl)
theorem dX6_village_89 : decode cX6_village 89 = .ok (.invokevirtual 199, 3) := dq_182 (dq_w dwm_147 9 rfl) (dq_w dwm_147 10 rfl) (dq_w dwm_147 11 rfl) rfl
theorem dX6_village_92 : decode cX6_village 92 = .ok (.ifCond .ne 18, 3) := dq_154 (dq_w dwm_147 12 rfl) (dq_w dwm_147 13 rfl) (dq_w dwm_147 14 rfl) (dq_p (n := 18) rfl rfl)
theorem dX6_village_95 : decode cX6_village 95 = .ok (.aload_n 0, 1) := dq_42 (dq_w dwm_147 15 rfl)
theorem dX6_village_96 : decode cX6_village 96 = .ok (.invokevirtual 202, 3) := dq_182 (dq_w dwm_148 0 rfl) (dq_w dwm_148 1 rfl) (dq_w dwm_148 2 rfl) rfl
theorem dX6_village_99 : decode cX6_village 99 = .ok (.sipush (-2000), 3) := dq_17 (dq_w dwm_148 3 rfl) (dq_w dwm_148 4 rfl) (dq_w dwm_148 5 rfl) (dq_n (m := 2000) rfl rfl)
theorem dX6_village_102 : decode cX6_village 102 = .ok (.aload_n 0, 1) := dq_42 (dq_w dwm_148 6 rfl)
theorem dX6_village_103 : decode cX6_village 103 = .ok (.getfield 40, 3) := dq_180 (dq_w dwm_148 7 rfl) (dq_w dwm_148 8 rfl) (dq_w dwm_148 9 rfl) rfl
theorem dX6_village_106 : decode cX6_village 106 = .ok (.iload_n 1, 1) := dq_27 (dq_w dwm_148 10 rfl)
theorem dX6_village_107 : decode cX6_village 107 = .ok (.iaload, 1) := dq_46 (dq_w dwm_148 11 rfl)
theorem dX6_village_108 : decode cX6_village 108 = .ok (.isub, 1) := dq_100 (dq_w dwm_148 12 rfl)
theorem dX6_village_109 : decode cX6_village 109 = .ok (.ireturn, 1) := dq_172 (dq_w dwm_148 13 rfl)
theorem dX6_village_110 : decode cX6_village 110 = .ok (.iinc 1 1, 3) := dq_132 (dq_w dwm_148 14 rfl) (dq_w dwm_148 15 rfl) rfl (dq_w dwm_149 0 rfl) rfl
theorem dX6_village_113 : decode cX6_village 113 = .ok (.goto (-34), 3) := dq_167 (dq_w dwm_149 1 rfl) (dq_w dwm_149 2 rfl) (dq_w dwm_149 3 rfl) (dq_n (m := 34) rfl rfl)
theorem dX6_village_116 : decode cX6_village 116 = .ok (.aload_n 0, 1) := dq_42 (dq_w dwm_149 4 rfl)
theorem dX6_village_117 : decode cX6_village 117 = .ok (.iconst 0, 1) := dq_3 (dq_w dwm_149 5 rfl)
theorem dX6_village_118 : decode cX6_village 118 = .ok (.putfield 205, 3) := dq_181 (dq_w dwm_149 6 rfl) (dq_w dwm_149 7 rfl) (dq_w dwm_149 8 rfl) rfl
theorem dX6_village_121 : decode cX6_village 121 = .ok (.aload_n 0, 1) := dq_42 (dq_w dwm_149 9 rfl)
theorem dX6_village_122 : decode cX6_village 122 = .ok (.getfield 165, 3) := dq_180 (dq_w dwm_149 10 rfl) (dq_w dwm_149 11 rfl) (dq_w dwm_149 12 rfl) rfl
theorem dX6_village_125 : decode cX6_village 125 = .ok (.ireturn, 1) := dq_172 (dq_w dwm_149 13 rfl)
theorem dwm_150 : (cX6_carry.data.toList.drop 0).take 16 = [42, 180, 0, 208, 153, 0, 13, 42, 180, 0, 211, 42, 180, 0, 214, 27] := by decide +kernel
theorem dwm_151 : (cX6_carry.data.toList.drop 16).take 16 = [79, 42, 89, 180, 0, 214, 4, 96, 181, 0, 214, 42, 180, 0, 211, 42] := by decide +kernel
theorem dwm_152 : (cX6_carry.data.toList.drop 32).take 16 = [180, 0, 214, 4, 100, 46, 172] := by decide +kernel
theorem dX6_carry_0 : decode cX6_carry 0 = .ok (.aload_n 0, 1) := dq_42 (dq_w dwm_150 0 rfl)
theorem dX6_carry_1 : decode cX6_carry 1 = .ok (.getfield 208, 3) := dq_180 (dq_w dwm_150 1 rfl) (dq_w dwm_150 2 rfl) (dq_w dwm_150 3 rfl) rfl
theorem dX6_carry_4 : decode cX6_carry 4 = .ok (.ifCond .eq 13, 3) := dq_153 (dq_w dwm_150 4 rfl) (dq_w dwm_150 5 rfl) (dq_w dwm_150 6 rfl) (dq_p (n := 13) rfl rfl)
theorem dX6_carry_7 : decode cX6_carry 7 = .ok (.aload_n 0, 1) := dq_42 (dq_w dwm_150 7 rfl)
theorem dX6_carry_8 : decode cX6_carry 8 = .ok (.getfield 211, 3) := dq_180 (dq_w dwm_150 8 rfl) (dq_w dwm_150 9 rfl) (dq_w dwm_150 10 rfl) rfl
theorem dX6_carry_11 : decode cX6_carry 11 = .ok (.aload_n 0, 1) := dq_42 (dq_w dwm_150 11 rfl)
theorem dX6_carry_12 : decode cX6_carry 12 = .ok (.getfield 214, 3) := dq_180 (dq_w dwm_150 12 rfl) (dq_w dwm_150 13 rfl) (dq_w dwm_150 14 rfl) rfl
theorem dX6_carry_15 : decode cX6_carry 15 = .ok (.iload_n 1, 1) := dq_27 (dq_w dwm_150 15 rfl)
theorem dX6_carry_16 : decode cX6_carry 16 = .ok (.iastore, 1) := dq_79 (dq_w dwm_151 0 rfl)
theorem dX6_carry_17 : decode cX6_carry 17 = .ok (.aload_n 0, 1) := dq_42 (dq_w dwm_151 1 rfl)
theorem dX6_carry_18 : decode cX6_carry 18 = .ok (.dup, 1) := dq_89 (dq_w dwm_151 2 rfl)
theorem dX6_carry_19 : decode cX6_carry 19 = .ok (.getfield 214, 3) := dq_180 (dq_w dwm_151 3 rfl) (dq_w dwm_151 4 rfl) (dq_w dwm_151 5 rfl) rfl
theorem dX6_carry_22 : decode cX6_carry 22 = .ok (.iconst 1, 1) := dq_4 (dq_w dwm_151 6 rfl)
theorem dX6_carry_23 : decode cX6_carry 23 = .ok (.iadd, 1) := dq_96 (dq_w dwm_151 7 rfl)
theorem dX6_carry_24 : decode cX6_carry 24 = .ok (.putfield 214, 3) := dq_181 (dq_w dwm_151 8 rfl) (dq_w dwm_151 9 rfl) (dq_w dwm_151 10 rfl) rfl
theorem dX6_carry_27 : decode cX6_carry 27 = .ok (.aload_n 0, 1) := dq_42 (dq_w dwm_151 11 rfl)
theorem dX6_carry_28 : decode cX6_carry 28 = .ok (.getfield 211, 3) := dq_180 (dq_w dwm_151 12 rfl) (dq_w dwm_151 13 rfl) (dq_w dwm_151 14 rfl) rfl
theorem dX6_carry_31 : decode cX6_carry 31 = .ok (.aload_n 0, 1) := dq_42 (dq_w dwm_151 15 rfl)
theorem dX6_carry_32 : decode cX6_carry 32 = .ok (.getfield 214, 3) := dq_180 (dq_w dwm_152 0 rfl) (dq_w dwm_152 1 rfl) (dq_w dwm_152 2 rfl) rfl
theorem dX6_carry_35 : decode cX6_carry 35 = .ok (.iconst 1, 1) := dq_4 (dq_w dwm_152 3 rfl)
theorem dX6_carry_36 : decode cX6_carry 36 = .ok (.isub, 1) := dq_100 (dq_w dwm_152 4 rfl)
theorem dX6_carry_37 : decode cX6_carry 37 = .ok (.iaload, 1) := dq_46 (dq_w dwm_152 5 rfl)
theorem dX6_carry_38 : decode cX6_carry 38 = .ok (.ireturn, 1) := dq_172 (dq_w dwm_152 6 rfl)
theorem dwm_153 : (cX6_carryAll.data.toList.drop 0).take 16 = [42, 43, 181, 0, 211, 42, 28, 181, 0, 208, 42, 3, 181, 0, 214, 42] := by decide +kernel
theorem dwm_154 : (cX6_carryAll.data.toList.drop 16).take 16 = [42, 42, 180, 0, 89, 182, 0, 217, 181, 0, 89, 42, 42, 42, 180, 0] := by decide +kernel
theorem dwm_155 : (cX6_carryAll.data.toList.drop 32).take 16 = [92, 182, 0, 217, 181, 0, 92, 42, 42, 42, 180, 0, 122, 182, 0, 217] := by decide +kernel
theorem dwm_156 : (cX6_carryAll.data.toList.drop 48).take 16 = [181, 0, 122, 3, 62, 29, 16, 7, 162, 0, 73, 42, 180, 0, 7, 29] := by decide +kernel
theorem dwm_157 : (cX6_carryAll.data.toList.drop 64).take 16 = [42, 42, 180, 0, 7, 29, 46, 182, 0, 217, 79, 42, 180, 0, 13, 29] := by decide +kernel
theorem dwm_158 : (cX6_carryAll.data.toList.drop 80).take 16 = [42, 42, 180, 0, 13, 29, 46, 182, 0, 217, 79, 42, 180, 0, 16, 29] := by decide +kernel
theorem dwm_159 : (cX6_carryAll.data.toList.drop 96).take 16 = [42, 42, 180, 0, 16, 29, 46, 182, 0, 217, 79, 42, 180, 0, 19, 29] := by decide +kernel
theorem dwm_160 : (cX6_carryAll.data.toList.drop 112).take 16 = [42, 42, 180, 0, 19, 29, 46, 182, 0, 217, 79, 132, 3, 1, 167, 255] := by decide +kernel
theorem dwm_161 : (cX6_carryAll.data.toList.drop 128).take 16 = [183, 3, 62, 29, 16, 6, 162, 0, 57, 42, 180, 0, 22, 29, 42, 42] := by decide +kernel
theorem dwm_162 : (cX6_carryAll.data.toList.drop 144).take 16 = [180, 0, 22, 29, 46, 182, 0, 217, 79, 42, 180, 0, 25, 29, 42, 42] := by decide +kernel
theorem dwm_163 : (cX6_carryAll.data.toList.drop 160).take 16 = [180, 0, 25, 29, 46, 182, 0, 217, 79, 42, 180, 0, 28, 29, 42, 42] := by decide +kernel
theorem dwm_164 : (cX6_carryAll.data.toList.drop 176).take 16 = [180, 0, 28, 29, 46, 182, 0, 217, 79, 132, 3, 1, 167, 255, 199, 3] := by decide +kernel
theorem dwm_165 : (cX6_carryAll.data.toList.drop 192).take 16 = [62, 29, 16, 42, 162, 0, 25, 42, 180, 0, 31, 29, 42, 42, 180, 0] := by decide +kernel
theorem dwm_166 : (cX6_carryAll.data.toList.drop 208).take 16 = [31, 29, 46, 182, 0, 217, 79, 132, 3, 1, 167, 255, 231, 177] := by decide +kernel
theorem dX6_carryAll_0 : decode cX6_carryAll 0 = .ok (.aload_n 0, 1) := dq_42 (dq_w dwm_153 0 rfl)
theorem dX6_carryAll_1 : decode cX6_carryAll 1 = .ok (.aload_n 1, 1) := dq_43 (dq_w dwm_153 1 rfl)
theorem dX6_carryAll_2 : decode cX6_carryAll 2 = .ok (.putfield 211, 3) := dq_181 (dq_w dwm_153 2 rfl) (dq_w dwm_153 3 rfl) (dq_w dwm_153 4 rfl) rfl
theorem dX6_carryAll_5 : decode cX6_carryAll 5 = .ok (.aload_n 0, 1) := dq_42 (dq_w dwm_153 5 rfl)
theorem dX6_carryAll_6 : decode cX6_carryAll 6 = .ok (.iload_n 2, 1) := dq_28 (dq_w dwm_153 6 rfl)
theorem dX6_carryAll_7 : decode cX6_carryAll 7 = .ok (.putfield 208, 3) := dq_181 (dq_w dwm_153 7 rfl) (dq_w dwm_153 8 rfl) (dq_w dwm_153 9 rfl) rfl
theorem dX6_carryAll_10 : decode cX6_carryAll 10 = .ok (.aload_n 0, 1) := dq_42 (dq_w dwm_153 10 rfl)
theorem dX6_carryAll_11 : decode cX6_carryAll 11 = .ok (.iconst 0, 1) := dq_3 (dq_w dwm_153 11 rfl)
theorem dX6_carryAll_12 : decode cX6_carryAll 12 = .ok (.putfield 214, 3) := dq_181 (dq_w dwm_153 12 rfl) (dq_w dwm_153 13 rfl) (dq_w dwm_153 14 rfl) rfl
theorem dX6_carryAll_15 : decode cX6_carryAll 15 = .ok (.aload_n 0, 1) := dq_42 (dq_w dwm_153 15 rfl)
theorem dX6_carryAll_16 : decode cX6_carryAll 16 = .ok (.aload_n 0, 1) := dq_42 (dq_w dwm_154 0 rfl)
theorem dX6_carryAll_17 : decode cX6_carryAll 17 = .ok (.aload_n 0, 1) := dq_42 (dq_w dwm_154 1 rfl)
theorem dX6_carryAll_18 : decode cX6_carryAll 18 = .ok (.getfield 89, 3) := dq_180 (dq_w dwm_154 2 rfl) (dq_w dwm_154 3 rfl) (dq_w dwm_154 4 rfl) rfl
theorem dX6_carryAll_21 : decode cX6_carryAll 21 = .ok (.invokevirtual 217, 3) := dq_182 (dq_w dwm_154 5 rfl) (dq_w dwm_154 6 rfl) (dq_w dwm_154 7 rfl) rfl
theorem dX6_carryAll_24 : decode cX6_carryAll 24 = .ok (.putfield 89, 3) := dq_181 (dq_w dwm_154 8 rfl) (dq_w dwm_154 9 rfl) (dq_w dwm_154 10 rfl) rfl
theorem dX6_carryAll_27 : decode cX6_carryAll 27 = .ok (.aload_n 0, 1) := dq_42 (dq_w dwm_154 11 rfl)
theorem dX6_carryAll_28 : decode cX6_carryAll 28 = .ok (.aload_n 0, 1) := dq_42 (dq_w dwm_154 12 rfl)
theorem dX6_carryAll_29 : decode cX6_carryAll 29 = .ok (.aload_n 0, 1) := dq_42 (dq_w dwm_154 13 rfl)
theorem dX6_carryAll_30 : decode cX6_carryAll 30 = .ok (.getfield 92, 3) := dq_180 (dq_w dwm_154 14 rfl) (dq_w dwm_154 15 rfl) (dq_w dwm_155 0 rfl) rfl
theorem dX6_carryAll_33 : decode cX6_carryAll 33 = .ok (.invokevirtual 217, 3) := dq_182 (dq_w dwm_155 1 rfl) (dq_w dwm_155 2 rfl) (dq_w dwm_155 3 rfl) rfl
theorem dX6_carryAll_36 : decode cX6_carryAll 36 = .ok (.putfield 92, 3) := dq_181 (dq_w dwm_155 4 rfl) (dq_w dwm_155 5 rfl) (dq_w dwm_155 6 rfl) rfl
theorem dX6_carryAll_39 : decode cX6_carryAll 39 = .ok (.aload_n 0, 1) := dq_42 (dq_w dwm_155 7 rfl)
theorem dX6_carryAll_40 : decode cX6_carryAll 40 = .ok (.aload_n 0, 1) := dq_42 (dq_w dwm_155 8 rfl)
theorem dX6_carryAll_41 : decode cX6_carryAll 41 = .ok (.aload_n 0, 1) := dq_42 (dq_w dwm_155 9 rfl)
theorem dX6_carryAll_42 : decode cX6_carryAll 42 = .ok (.getfield 122, 3) := dq_180 (dq_w dwm_155 10 rfl) (dq_w dwm_155 11 rfl) (dq_w dwm_155 12 rfl) rfl
theorem dX6_carryAll_45 : decode cX6_carryAll 45 = .ok (.invokevirtual 217, 3) := dq_182 (dq_w dwm_155 13 rfl) (dq_w dwm_155 14 rfl) (dq_w dwm_155 15 rfl) rfl
theorem dX6_carryAll_48 : decode cX6_carryAll 48 = .ok (.putfield 122, 3) := dq_181 (dq_w dwm_156 0 rfl) (dq_w dwm_156 1 rfl) (dq_w dwm_156 2 rfl) rfl
theorem dX6_carryAll_51 : decode cX6_carryAll 51 = .ok (.iconst 0, 1) := dq_3 (dq_w dwm_156 3 rfl)
theorem dX6_carryAll_52 : decode cX6_carryAll 52 = .ok (.istore_n 3, 1) := dq_62 (dq_w dwm_156 4 rfl)
theorem dX6_carryAll_53 : decode cX6_carryAll 53 = .ok (.iload_n 3, 1) := dq_29 (dq_w dwm_156 5 rfl)
theorem dX6_carryAll_54 : decode cX6_carryAll 54 = .ok (.bipush 7, 2) := dq_16 (dq_w dwm_156 6 rfl) (dq_w dwm_156 7 rfl) rfl
theorem dX6_carryAll_56 : decode cX6_carryAll 56 = .ok (.if_icmp .ge 73, 3) := dq_162 (dq_w dwm_156 8 rfl) (dq_w dwm_156 9 rfl) (dq_w dwm_156 10 rfl) (dq_p (n := 73) rfl rfl)
theorem dX6_carryAll_59 : decode cX6_carryAll 59 = .ok (.aload_n 0, 1) := dq_42 (dq_w dwm_156 11 rfl)
theorem dX6_carryAll_60 : decode cX6_carryAll 60 = .ok (.getfield 7, 3) := dq_180 (dq_w dwm_156 12 rfl) (dq_w dwm_156 13 rfl) (dq_w dwm_156 14 rfl) rfl
theorem dX6_carryAll_63 : decode cX6_carryAll 63 = .ok (.iload_n 3, 1) := dq_29 (dq_w dwm_156 15 rfl)
theorem dX6_carryAll_64 : decode cX6_carryAll 64 = .ok (.aload_n 0, 1) := dq_42 (dq_w dwm_157 0 rfl)
theorem dX6_carryAll_65 : decode cX6_carryAll 65 = .ok (.aload_n 0, 1) := dq_42 (dq_w dwm_157 1 rfl)
theorem dX6_carryAll_66 : decode cX6_carryAll 66 = .ok (.getfield 7, 3) := dq_180 (dq_w dwm_157 2 rfl) (dq_w dwm_157 3 rfl) (dq_w dwm_157 4 rfl) rfl
theorem dX6_carryAll_69 : decode cX6_carryAll 69 = .ok (.iload_n 3, 1) := dq_29 (dq_w dwm_157 5 rfl)
theorem dX6_carryAll_70 : decode cX6_carryAll 70 = .ok (.iaload, 1) := dq_46 (dq_w dwm_157 6 rfl)
theorem dX6_carryAll_71 : decode cX6_carryAll 71 = .ok (.invokevirtual 217, 3) := dq_182 (dq_w dwm_157 7 rfl) (dq_w dwm_157 8 rfl) (dq_w dwm_157 9 rfl) rfl
theorem dX6_carryAll_74 : decode cX6_carryAll 74 = .ok (.iastore, 1) := dq_79 (dq_w dwm_157 10 rfl)
theorem dX6_carryAll_75 : decode cX6_carryAll 75 = .ok (.aload_n 0, 1) := dq_42 (dq_w dwm_157 11 rfl)
theorem dX6_carryAll_76 : decode cX6_carryAll 76 = .ok (.getfield 13, 3) := dq_180 (dq_w dwm_157 12 rfl) (dq_w dwm_157 13 rfl) (dq_w dwm_157 14 rfl) rfl
theorem dX6_carryAll_79 : decode cX6_carryAll 79 = .ok (.iload_n 3, 1) := dq_29 (dq_w dwm_157 15 rfl)
theorem dX6_carryAll_80 : decode cX6_carryAll 80 = .ok (.aload_n 0, 1) := dq_42 (dq_w dwm_158 0 rfl)
theorem dX6_carryAll_81 : decode cX6_carryAll 81 = .ok (.aload_n 0, 1) := dq_42 (dq_w dwm_158 1 rfl)
theorem dX6_carryAll_82 : decode cX6_carryAll 82 = .ok (.getfield 13, 3) := dq_180 (dq_w dwm_158 2 rfl) (dq_w dwm_158 3 rfl) (dq_w dwm_158 4 rfl) rfl
theorem dX6_carryAll_85 : decode cX6_carryAll 85 = .ok (.iload_n 3, 1) := dq_29 (dq_w dwm_158 5 rfl)
theorem dX6_carryAll_86 : decode cX6_carryAll 86 = .ok (.iaload, 1) := dq_46 (dq_w dwm_158 6 rfl)
theorem dX6_carryAll_87 : decode cX6_carryAll 87 = .ok (.invokevirtual 217, 3) := dq_182 (dq_w dwm_158 7 rfl) (dq_w dwm_158 8 rfl) (dq_w dwm_158 9 rfl) rfl
theorem dX6_carryAll_90 : decode cX6_carryAll 90 = .ok (.iastore, 1) := dq_79 (dq_w dwm_158 10 rfl)
theorem dX6_carryAll_91 : decode cX6_carryAll 91 = .ok (.aload_n 0, 1) := dq_42 (dq_w dwm_158 11 rfl)
theorem dX6_carryAll_92 : decode cX6_carryAll 92 = .ok (.getfield 16, 3) := dq_180 (dq_w dwm_158 12 rfl) (dq_w dwm_158 13 rfl) (dq_w dwm_158 14 rfl) rfl
theorem dX6_carryAll_95 : decode cX6_carryAll 95 = .ok (.iload_n 3, 1) := dq_29 (dq_w dwm_158 15 rfl)
theorem dX6_carryAll_96 : decode cX6_carryAll 96 = .ok (.aload_n 0, 1) := dq_42 (dq_w dwm_159 0 rfl)
theorem dX6_carryAll_97 : decode cX6_carryAll 97 = .ok (.aload_n 0, 1) := dq_42 (dq_w dwm_159 1 rfl)
theorem dX6_carryAll_98 : decode cX6_carryAll 98 = .ok (.getfield 16, 3) := dq_180 (dq_w dwm_159 2 rfl) (dq_w dwm_159 3 rfl) (dq_w dwm_159 4 rfl) rfl
theorem dX6_carryAll_101 : decode cX6_carryAll 101 = .ok (.iload_n 3, 1) := dq_29 (dq_w dwm_159 5 rfl)
theorem dX6_carryAll_102 : decode cX6_carryAll 102 = .ok (.iaload, 1) := dq_46 (dq_w dwm_159 6 rfl)
theorem dX6_carryAll_103 : decode cX6_carryAll 103 = .ok (.invokevirtual 217, 3) := dq_182 (dq_w dwm_159 7 rfl) (dq_w dwm_159 8 rfl) (dq_w dwm_159 9 rfl) rfl
theorem dX6_carryAll_106 : decode cX6_carryAll 106 = .ok (.iastore, 1) := dq_79 (dq_w dwm_159 10 rfl)
theorem dX6_carryAll_107 : decode cX6_carryAll 107 = .ok (.aload_n 0, 1) := dq_42 (dq_w dwm_159 11 rfl)
theorem dX6_carryAll_108 : decode cX6_carryAll 108 = .ok (.getfield 19, 3) := dq_180 (dq_w dwm_159 12 rfl) (dq_w dwm_159 13 rfl) (dq_w dwm_159 14 rfl) rfl
theorem dX6_carryAll_111 : decode cX6_carryAll 111 = .ok (.iload_n 3, 1) := dq_29 (dq_w dwm_159 15 rfl)
theorem dX6_carryAll_112 : decode cX6_carryAll 112 = .ok (.aload_n 0, 1) := dq_42 (dq_w dwm_160 0 rfl)
theorem dX6_carryAll_113 : decode cX6_carryAll 113 = .ok (.aload_n 0, 1) := dq_42 (dq_w dwm_160 1 rfl)
theorem dX6_carryAll_114 : decode cX6_carryAll 114 = .ok (.getfield 19, 3) := dq_180 (dq_w dwm_160 2 rfl) (dq_w dwm_160 3 rfl) (dq_w dwm_160 4 rfl) rfl
theorem dX6_carryAll_117 : decode cX6_carryAll 117 = .ok (.iload_n 3, 1) := dq_29 (dq_w dwm_160 5 rfl)
theorem dX6_carryAll_118 : decode cX6_carryAll 118 = .ok (.iaload, 1) := dq_46 (dq_w dwm_160 6 rfl)
theorem dX6_carryAll_119 : decode cX6_carryAll 119 = .ok (.invokevirtual 217, 3) := dq_182 (dq_w dwm_160 7 rfl) (dq_w dwm_160 8 rfl) (dq_w dwm_160 9 rfl) rfl
theorem dX6_carryAll_122 : decode cX6_carryAll 122 = .ok (.iastore, 1) := dq_79 (dq_w dwm_160 10 rfl)
theorem dX6_carryAll_123 : decode cX6_carryAll 123 = .ok (.iinc 3 1, 3) := dq_132 (dq_w dwm_160 11 rfl) (dq_w dwm_160 12 rfl) rfl (dq_w dwm_160 13 rfl) rfl
theorem dX6_carryAll_126 : decode cX6_carryAll 126 = .ok (.goto (-73), 3) := dq_167 (dq_w dwm_160 14 rfl) (dq_w dwm_160 15 rfl) (dq_w dwm_161 0 rfl) (dq_n (m := 73) rfl rfl)
theorem dX6_carryAll_129 : decode cX6_carryAll 129 = .ok (.iconst 0, 1) := dq_3 (dq_w dwm_161 1 rfl)
theorem dX6_carryAll_130 : decode cX6_carryAll 130 = .ok (.istore_n 3, 1) := dq_62 (dq_w dwm_161 2 rfl)
theorem dX6_carryAll_131 : decode cX6_carryAll 131 = .ok (.iload_n 3, 1) := dq_29 (dq_w dwm_161 3 rfl)
theorem dX6_carryAll_132 : decode cX6_carryAll 132 = .ok (.bipush 6, 2) := dq_16 (dq_w dwm_161 4 rfl) (dq_w dwm_161 5 rfl) rfl
theorem dX6_carryAll_134 : decode cX6_carryAll 134 = .ok (.if_icmp .ge 57, 3) := dq_162 (dq_w dwm_161 6 rfl) (dq_w dwm_161 7 rfl) (dq_w dwm_161 8 rfl) (dq_p (n := 57) rfl rfl)
theorem dX6_carryAll_137 : decode cX6_carryAll 137 = .ok (.aload_n 0, 1) := dq_42 (dq_w dwm_161 9 rfl)
theorem dX6_carryAll_138 : decode cX6_carryAll 138 = .ok (.getfield 22, 3) := dq_180 (dq_w dwm_161 10 rfl) (dq_w dwm_161 11 rfl) (dq_w dwm_161 12 rfl) rfl
theorem dX6_carryAll_141 : decode cX6_carryAll 141 = .ok (.iload_n 3, 1) := dq_29 (dq_w dwm_161 13 rfl)
theorem dX6_carryAll_142 : decode cX6_carryAll 142 = .ok (.aload_n 0, 1) := dq_42 (dq_w dwm_161 14 rfl)
theorem dX6_carryAll_143 : decode cX6_carryAll 143 = .ok (.aload_n 0, 1) := dq_42 (dq_w dwm_161 15 rfl)
theorem dX6_carryAll_144 : decode cX6_carryAll 144 = .ok (.getfield 22, 3) := dq_180 (dq_w dwm_162 0 rfl) (dq_w dwm_162 1 rfl) (dq_w dwm_162 2 rfl) rfl
theorem dX6_carryAll_147 : decode cX6_carryAll 147 = .ok (.iload_n 3, 1) := dq_29 (dq_w dwm_162 3 rfl)
theorem dX6_carryAll_148 : decode cX6_carryAll 148 = .ok (.iaload, 1) := dq_46 (dq_w dwm_162 4 rfl)
theorem dX6_carryAll_149 : decode cX6_carryAll 149 = .ok (.invokevirtual 217, 3) := dq_182 (dq_w dwm_162 5 rfl) (dq_w dwm_162 6 rfl) (dq_w dwm_162 7 rfl) rfl
theorem dX6_carryAll_152 : decode cX6_carryAll 152 = .ok (.iastore, 1) := dq_79 (dq_w dwm_162 8 rfl)
theorem dX6_carryAll_153 : decode cX6_carryAll 153 = .ok (.aload_n 0, 1) := dq_42 (dq_w dwm_162 9 rfl)
theorem dX6_carryAll_154 : decode cX6_carryAll 154 = .ok (.getfield 25, 3) := dq_180 (dq_w dwm_162 10 rfl) (dq_w dwm_162 11 rfl) (dq_w dwm_162 12 rfl) rfl
theorem dX6_carryAll_157 : decode cX6_carryAll 157 = .ok (.iload_n 3, 1) := dq_29 (dq_w dwm_162 13 rfl)
theorem dX6_carryAll_158 : decode cX6_carryAll 158 = .ok (.aload_n 0, 1) := dq_42 (dq_w dwm_162 14 rfl)
theorem dX6_carryAll_159 : decode cX6_carryAll 159 = .ok (.aload_n 0, 1) := dq_42 (dq_w dwm_162 15 rfl)
theorem dX6_carryAll_160 : decode cX6_carryAll 160 = .ok (.getfield 25, 3) := dq_180 (dq_w dwm_163 0 rfl) (dq_w dwm_163 1 rfl) (dq_w dwm_163 2 rfl) rfl
theorem dX6_carryAll_163 : decode cX6_carryAll 163 = .ok (.iload_n 3, 1) := dq_29 (dq_w dwm_163 3 rfl)
theorem dX6_carryAll_164 : decode cX6_carryAll 164 = .ok (.iaload, 1) := dq_46 (dq_w dwm_163 4 rfl)
theorem dX6_carryAll_165 : decode cX6_carryAll 165 = .ok (.invokevirtual 217, 3) := dq_182 (dq_w dwm_163 5 rfl) (dq_w dwm_163 6 rfl) (dq_w dwm_163 7 rfl) rfl
theorem dX6_carryAll_168 : decode cX6_carryAll 168 = .ok (.iastore, 1) := dq_79 (dq_w dwm_163 8 rfl)
theorem dX6_carryAll_169 : decode cX6_carryAll 169 = .ok (.aload_n 0, 1) := dq_42 (dq_w dwm_163 9 rfl)
theorem dX6_carryAll_170 : decode cX6_carryAll 170 = .ok (.getfield 28, 3) := dq_180 (dq_w dwm_163 10 rfl) (dq_w dwm_163 11 rfl) (dq_w dwm_163 12 rfl) rfl
theorem dX6_carryAll_173 : decode cX6_carryAll 173 = .ok (.iload_n 3, 1) := dq_29 (dq_w dwm_163 13 rfl)
theorem dX6_carryAll_174 : decode cX6_carryAll 174 = .ok (.aload_n 0, 1) := dq_42 (dq_w dwm_163 14 rfl)
theorem dX6_carryAll_175 : decode cX6_carryAll 175 = .ok (.aload_n 0, 1) := dq_42 (dq_w dwm_163 15 rfl)
theorem dX6_carryAll_176 : decode cX6_carryAll 176 = .ok (.getfield 28, 3) := dq_180 (dq_w dwm_164 0 rfl) (dq_w dwm_164 1 rfl) (dq_w dwm_164 2 rfl) rfl
theorem dX6_carryAll_179 : decode cX6_carryAll 179 = .ok (.iload_n 3, 1) := dq_29 (dq_w dwm_164 3 rfl)
theorem dX6_carryAll_180 : decode cX6_carryAll 180 = .ok (.iaload, 1) := dq_46 (dq_w dwm_164 4 rfl)
theorem dX6_carryAll_181 : decode cX6_carryAll 181 = .ok (.invokevirtual 217, 3) := dq_182 (dq_w dwm_164 5 rfl) (dq_w dwm_164 6 rfl) (dq_w dwm_164 7 rfl) rfl
theorem dX6_carryAll_184 : decode cX6_carryAll 184 = .ok (.iastore, 1) := dq_79 (dq_w dwm_164 8 rfl)
theorem dX6_carryAll_185 : decode cX6_carryAll 185 = .ok (.iinc 3 1, 3) := dq_132 (dq_w dwm_164 9 rfl) (dq_w dwm_164 10 rfl) rfl (dq_w dwm_164 11 rfl) rfl
theorem dX6_carryAll_188 : decode cX6_carryAll 188 = .ok (.goto (-57), 3) := dq_167 (dq_w dwm_164 12 rfl) (dq_w dwm_164 13 rfl) (dq_w dwm_164 14 rfl) (dq_n (m := 57) rfl rfl)
theorem dX6_carryAll_191 : decode cX6_carryAll 191 = .ok (.iconst 0, 1) := dq_3 (dq_w dwm_164 15 rfl)
theorem dX6_carryAll_192 : decode cX6_carryAll 192 = .ok (.istore_n 3, 1) := dq_62 (dq_w dwm_165 0 rfl)
theorem dX6_carryAll_193 : decode cX6_carryAll 193 = .ok (.iload_n 3, 1) := dq_29 (dq_w dwm_165 1 rfl)
theorem dX6_carryAll_194 : decode cX6_carryAll 194 = .ok (.bipush 42, 2) := dq_16 (dq_w dwm_165 2 rfl) (dq_w dwm_165 3 rfl) rfl
theorem dX6_carryAll_196 : decode cX6_carryAll 196 = .ok (.if_icmp .ge 25, 3) := dq_162 (dq_w dwm_165 4 rfl) (dq_w dwm_165 5 rfl) (dq_w dwm_165 6 rfl) (dq_p (n := 25) rfl rfl)
theorem dX6_carryAll_199 : decode cX6_carryAll 199 = .ok (.aload_n 0, 1) := dq_42 (dq_w dwm_165 7 rfl)
theorem dX6_carryAll_200 : decode cX6_carryAll 200 = .ok (.getfield 31, 3) := dq_180 (dq_w dwm_165 8 rfl) (dq_w dwm_165 9 rfl) (dq_w dwm_165 10 rfl) rfl
theorem dX6_carryAll_203 : decode cX6_carryAll 203 = .ok (.iload_n 3, 1) := dq_29 (dq_w dwm_165 11 rfl)
theorem dX6_carryAll_204 : decode cX6_carryAll 204 = .ok (.aload_n 0, 1) := dq_42 (dq_w dwm_165 12 rfl)
theorem dX6_carryAll_205 : decode cX6_carryAll 205 = .ok (.aload_n 0, 1) := dq_42 (dq_w dwm_165 13 rfl)
theorem dX6_carryAll_206 : decode cX6_carryAll 206 = .ok (.getfield 31, 3) := dq_180 (dq_w dwm_165 14 rfl) (dq_w dwm_165 15 rfl) (dq_w dwm_166 0 rfl) rfl
theorem dX6_carryAll_209 : decode cX6_carryAll 209 = .ok (.iload_n 3, 1) := dq_29 (dq_w dwm_166 1 rfl)
theorem dX6_carryAll_210 : decode cX6_carryAll 210 = .ok (.iaload, 1) := dq_46 (dq_w dwm_166 2 rfl)
theorem dX6_carryAll_211 : decode cX6_carryAll 211 = .ok (.invokevirtual 217, 3) := dq_182 (dq_w dwm_166 3 rfl) (dq_w dwm_166 4 rfl) (dq_w dwm_166 5 rfl) rfl
theorem dX6_carryAll_214 : decode cX6_carryAll 214 = .ok (.iastore, 1) := dq_79 (dq_w dwm_166 6 rfl)
theorem dX6_carryAll_215 : decode cX6_carryAll 215 = .ok (.iinc 3 1, 3) := dq_132 (dq_w dwm_166 7 rfl) (dq_w dwm_166 8 rfl) rfl (dq_w dwm_166 9 rfl) rfl
theorem dX6_carryAll_218 : decode cX6_carryAll 218 = .ok (.goto (-25), 3) := dq_167 (dq_w dwm_166 10 rfl) (dq_w dwm_166 11 rfl) (dq_w dwm_166 12 rfl) (dq_n (m := 25) rfl rfl)
theorem dX6_carryAll_221 : decode cX6_carryAll 221 = .ok (.return_, 1) := dq_177 (dq_w dwm_166 13 rfl)
theorem dwm_167 : (cX6_think.data.toList.drop 0).take 16 = [42, 42, 180, 0, 49, 4, 182, 0, 220, 177] := by decide +kernel
theorem dX6_think_0 : decode cX6_think 0 = .ok (.aload_n 0, 1) := dq_42 (dq_w dwm_167 0 rfl)
theorem dX6_think_1 : decode cX6_think 1 = .ok (.aload_n 0, 1) := dq_42 (dq_w dwm_167 1 rfl)
theorem dX6_think_2 : decode cX6_think 2 = .ok (.getfield 49, 3) := dq_180 (dq_w dwm_167 2 rfl) (dq_w dwm_167 3 rfl) (dq_w dwm_167 4 rfl) rfl
theorem dX6_think_5 : decode cX6_think 5 = .ok (.iconst 1, 1) := dq_4 (dq_w dwm_167 5 rfl)
theorem dX6_think_6 : decode cX6_think 6 = .ok (.invokevirtual 220, 3) := dq_182 (dq_w dwm_167 6 rfl) (dq_w dwm_167 7 rfl) (dq_w dwm_167 8 rfl) rfl
theorem dX6_think_9 : decode cX6_think 9 = .ok (.return_, 1) := dq_177 (dq_w dwm_167 9 rfl)
theorem dwm_168 : (cX6_again.data.toList.drop 0).take 16 = [42, 42, 180, 0, 49, 3, 182, 0, 220, 177] := by decide +kernel
theorem dX6_again_0 : decode cX6_again 0 = .ok (.aload_n 0, 1) := dq_42 (dq_w dwm_168 0 rfl)
theorem dX6_again_1 : decode cX6_again 1 = .ok (.aload_n 0, 1) := dq_42 (dq_w dwm_168 1 rfl)
theorem dX6_again_2 : decode cX6_again 2 = .ok (.getfield 49, 3) := dq_180 (dq_w dwm_168 2 rfl) (dq_w dwm_168 3 rfl) (dq_w dwm_168 4 rfl) rfl
theorem dX6_again_5 : decode cX6_again 5 = .ok (.iconst 0, 1) := dq_3 (dq_w dwm_168 5 rfl)
theorem dX6_again_6 : decode cX6_again 6 = .ok (.invokevirtual 220, 3) := dq_182 (dq_w dwm_168 6 rfl) (dq_w dwm_168 7 rfl) (dq_w dwm_168 8 rfl) rfl
theorem dX6_again_9 : decode cX6_again 9 = .ok (.return_, 1) := dq_177 (dq_w dwm_168 9 rfl)
theorem dwm_169 : (cX6_image.data.toList.drop 0).take 16 = [42, 3, 181, 0, 79, 42, 4, 181, 0, 224, 42, 42, 180, 0, 52, 4] := by decide +kernel
theorem dwm_170 : (cX6_image.data.toList.drop 16).take 16 = [182, 0, 220, 42, 180, 0, 122, 172] := by decide +kernel
theorem dX6_image_0 : decode cX6_image 0 = .ok (.aload_n 0, 1) := dq_42 (dq_w dwm_169 0 rfl)
theorem dX6_image_1 : decode cX6_image 1 = .ok (.iconst 0, 1) := dq_3 (dq_w dwm_169 1 rfl)
theorem dX6_image_2 : decode cX6_image 2 = .ok (.putfield 79, 3) := dq_181 (dq_w dwm_169 2 rfl) (dq_w dwm_169 3 rfl) (dq_w dwm_169 4 rfl) rfl
theorem dX6_image_5 : decode cX6_image 5 = .ok (.aload_n 0, 1) := dq_42 (dq_w dwm_169 5 rfl)
theorem dX6_image_6 : decode cX6_image 6 = .ok (.iconst 1, 1) := dq_4 (dq_w dwm_169 6 rfl)
theorem dX6_image_7 : decode cX6_image 7 = .ok (.putfield 224, 3) := dq_181 (dq_w dwm_169 7 rfl) (dq_w dwm_169 8 rfl) (dq_w dwm_169 9 rfl) rfl
theorem dX6_image_10 : decode cX6_image 10 = .ok (.aload_n 0, 1) := dq_42 (dq_w dwm_169 10 rfl)
theorem dX6_image_11 : decode cX6_image 11 = .ok (.aload_n 0, 1) := dq_42 (dq_w dwm_169 11 rfl)
theorem dX6_image_12 : decode cX6_image 12 = .ok (.getfield 52, 3) := dq_180 (dq_w dwm_169 12 rfl) (dq_w dwm_169 13 rfl) (dq_w dwm_169 14 rfl) rfl
theorem dX6_image_15 : decode cX6_image 15 = .ok (.iconst 1, 1) := dq_4 (dq_w dwm_169 15 rfl)
theorem dX6_image_16 : decode cX6_image 16 = .ok (.invokevirtual 220, 3) := dq_182 (dq_w dwm_170 0 rfl) (dq_w dwm_170 1 rfl) (dq_w dwm_170 2 rfl) rfl
theorem dX6_image_19 : decode cX6_image 19 = .ok (.aload_n 0, 1) := dq_42 (dq_w dwm_170 3 rfl)
theorem dX6_image_20 : decode cX6_image 20 = .ok (.getfield 122, 3) := dq_180 (dq_w dwm_170 4 rfl) (dq_w dwm_170 5 rfl) (dq_w dwm_170 6 rfl) rfl
theorem dX6_image_23 : decode cX6_image 23 = .ok (.ireturn, 1) := dq_172 (dq_w dwm_170 7 rfl)
theorem dwm_171 : (cX6_restore.data.toList.drop 0).take 16 = [42, 3, 181, 0, 79, 42, 180, 0, 224, 154, 0, 10, 42, 16, 253, 182] := by decide +kernel
theorem dwm_172 : (cX6_restore.data.toList.drop 16).take 16 = [0, 143, 172, 42, 42, 180, 0, 52, 3, 182, 0, 220, 42, 3, 181, 0] := by decide +kernel
theorem dwm_173 : (cX6_restore.data.toList.drop 32).take 16 = [205, 42, 180, 0, 122, 172] := by decide +kernel
theorem dX6_restore_0 : decode cX6_restore 0 = .ok (.aload_n 0, 1) := dq_42 (dq_w dwm_171 0 rfl)
theorem dX6_restore_1 : decode cX6_restore 1 = .ok (.iconst 0, 1) := dq_3 (dq_w dwm_171 1 rfl)
theorem dX6_restore_2 : decode cX6_restore 2 = .ok (.putfield 79, 3) := dq_181 (dq_w dwm_171 2 rfl) (dq_w dwm_171 3 rfl) (dq_w dwm_171 4 rfl) rfl
theorem dX6_restore_5 : decode cX6_restore 5 = .ok (.aload_n 0, 1) := dq_42 (dq_w dwm_171 5 rfl)
theorem dX6_restore_6 : decode cX6_restore 6 = .ok (.getfield 224, 3) := dq_180 (dq_w dwm_171 6 rfl) (dq_w dwm_171 7 rfl) (dq_w dwm_171 8 rfl) rfl
theorem dX6_restore_9 : decode cX6_restore 9 = .ok (.ifCond .ne 10, 3) := dq_154 (dq_w dwm_171 9 rfl) (dq_w dwm_171 10 rfl) (dq_w dwm_171 11 rfl) (dq_p (n := 10) rfl rfl)
theorem dX6_restore_12 : decode cX6_restore 12 = .ok (.aload_n 0, 1) := dq_42 (dq_w dwm_171 12 rfl)
theorem dX6_restore_13 : decode cX6_restore 13 = .ok (.bipush (-3), 2) := dq_16 (dq_w dwm_171 13 rfl) (dq_w dwm_171 14 rfl) rfl
theorem dX6_restore_15 : decode cX6_restore 15 = .ok (.invokevirtual 143, 3) := dq_182 (dq_w dwm_171 15 rfl) (dq_w dwm_172 0 rfl) (dq_w dwm_172 1 rfl) rfl
theorem dX6_restore_18 : decode cX6_restore 18 = .ok (.ireturn, 1) := dq_172 (dq_w dwm_172 2 rfl)
theorem dX6_restore_19 : decode cX6_restore 19 = .ok (.aload_n 0, 1) := dq_42 (dq_w dwm_172 3 rfl)
theorem dX6_restore_20 : decode cX6_restore 20 = .ok (.aload_n 0, 1) := dq_42 (dq_w dwm_172 4 rfl)
theorem dX6_restore_21 : decode cX6_restore 21 = .ok (.getfield 52, 3) := dq_180 (dq_w dwm_172 5 rfl) (dq_w dwm_172 6 rfl) (dq_w dwm_172 7 rfl) rfl
theorem dX6_restore_24 : decode cX6_restore 24 = .ok (.iconst 0, 1) := dq_3 (dq_w dwm_172 8 rfl)
theorem dX6_restore_25 : decode cX6_restore 25 = .ok (.invokevirtual 220, 3) := dq_182 (dq_w dwm_172 9 rfl) (dq_w dwm_172 10 rfl) (dq_w dwm_172 11 rfl) rfl
theorem dX6_restore_28 : decode cX6_restore 28 = .ok (.aload_n 0, 1) := dq_42 (dq_w dwm_172 12 rfl)
theorem dX6_restore_29 : decode cX6_restore 29 = .ok (.iconst 0, 1) := dq_3 (dq_w dwm_172 13 rfl)
theorem dX6_restore_30 : decode cX6_restore 30 = .ok (.putfield 205, 3) := dq_181 (dq_w dwm_172 14 rfl) (dq_w dwm_172 15 rfl) (dq_w dwm_173 0 rfl) rfl
theorem dX6_restore_33 : decode cX6_restore 33 = .ok (.aload_n 0, 1) := dq_42 (dq_w dwm_173 1 rfl)
theorem dX6_restore_34 : decode cX6_restore 34 = .ok (.getfield 122, 3) := dq_180 (dq_w dwm_173 2 rfl) (dq_w dwm_173 3 rfl) (dq_w dwm_173 4 rfl) rfl
theorem dX6_restore_37 : decode cX6_restore 37 = .ok (.ireturn, 1) := dq_172 (dq_w dwm_173 5 rfl)
theorem dwm_174 : (cX6_keepTurn.data.toList.drop 0).take 16 = [42, 180, 0, 205, 16, 8, 160, 0, 44, 16, 91, 60, 27, 17, 2, 216] := by decide +kernel
theorem dwm_175 : (cX6_keepTurn.data.toList.drop 16).take 16 = [162, 0, 24, 42, 180, 0, 55, 27, 16, 91, 100, 42, 180, 0, 55, 27] := by decide +kernel
theorem dwm_176 : (cX6_keepTurn.data.toList.drop 32).take 16 = [46, 79, 132, 1, 1, 167, 255, 231, 42, 89, 180, 0, 205, 4, 100, 181] := by decide +kernel
theorem dwm_177 : (cX6_keepTurn.data.toList.drop 48).take 16 = [0, 205, 42, 42, 180, 0, 58, 4, 182, 0, 220, 3, 60, 27, 16, 91] := by decide +kernel
theorem dwm_178 : (cX6_keepTurn.data.toList.drop 64).take 16 = [162, 0, 29, 42, 180, 0, 55, 16, 91, 42, 180, 0, 205, 104, 27, 96] := by decide +kernel
theorem dwm_179 : (cX6_keepTurn.data.toList.drop 80).take 16 = [42, 180, 0, 58, 27, 46, 79, 132, 1, 1, 167, 255, 227, 42, 89, 180] := by decide +kernel
theorem dwm_180 : (cX6_keepTurn.data.toList.drop 96).take 16 = [0, 205, 4, 96, 181, 0, 205, 177] := by decide +kernel
theorem dX6_keepTurn_0 : decode cX6_keepTurn 0 = .ok (.aload_n 0, 1) := dq_42 (dq_w dwm_174 0 rfl)
theorem dX6_keepTurn_1 : decode cX6_keepTurn 1 = .ok (.getfield 205, 3) := dq_180 (dq_w dwm_174 1 rfl) (dq_w dwm_174 2 rfl) (dq_w dwm_174 3 rfl) rfl
theorem dX6_keepTurn_4 : decode cX6_keepTurn 4 = .ok (.bipush 8, 2) := dq_16 (dq_w dwm_174 4 rfl) (dq_w dwm_174 5 rfl) rfl
theorem dX6_keepTurn_6 : decode cX6_keepTurn 6 = .ok (.if_icmp .ne 44, 3) := dq_160 (dq_w dwm_174 6 rfl) (dq_w dwm_174 7 rfl) (dq_w dwm_174 8 rfl) (dq_p (n := 44) rfl rfl)
theorem dX6_keepTurn_9 : decode cX6_keepTurn 9 = .ok (.bipush 91, 2) := dq_16 (dq_w dwm_174 9 rfl) (dq_w dwm_174 10 rfl) rfl
theorem dX6_keepTurn_11 : decode cX6_keepTurn 11 = .ok (.istore_n 1, 1) := dq_60 (dq_w dwm_174 11 rfl)
theorem dX6_keepTurn_12 : decode cX6_keepTurn 12 = .ok (.iload_n 1, 1) := dq_27 (dq_w dwm_174 12 rfl)
theorem dX6_keepTurn_13 : decode cX6_keepTurn 13 = .ok (.sipush 728, 3) := dq_17 (dq_w dwm_174 13 rfl) (dq_w dwm_174 14 rfl) (dq_w dwm_174 15 rfl) (dq_p (n := 728) rfl rfl)
theorem dX6_keepTurn_16 : decode cX6_keepTurn 16 = .ok (.if_icmp .ge 24, 3) := dq_162 (dq_w dwm_175 0 rfl) (dq_w dwm_175 1 rfl) (dq_w dwm_175 2 rfl) (dq_p (n := 24) rfl rfl)
theorem dX6_keepTurn_19 : decode cX6_keepTurn 19 = .ok (.aload_n 0, 1) := dq_42 (dq_w dwm_175 3 rfl)
theorem dX6_keepTurn_20 : decode cX6_keepTurn 20 = .ok (.getfield 55, 3) := dq_180 (dq_w dwm_175 4 rfl) (dq_w dwm_175 5 rfl) (dq_w dwm_175 6 rfl) rfl
theorem dX6_keepTurn_23 : decode cX6_keepTurn 23 = .ok (.iload_n 1, 1) := dq_27 (dq_w dwm_175 7 rfl)
theorem dX6_keepTurn_24 : decode cX6_keepTurn 24 = .ok (.bipush 91, 2) := dq_16 (dq_w dwm_175 8 rfl) (dq_w dwm_175 9 rfl) rfl
theorem dX6_keepTurn_26 : decode cX6_keepTurn 26 = .ok (.isub, 1) := dq_100 (dq_w dwm_175 10 rfl)
theorem dX6_keepTurn_27 : decode cX6_keepTurn 27 = .ok (.aload_n 0, 1) := dq_42 (dq_w dwm_175 11 rfl)
theorem dX6_keepTurn_28 : decode cX6_keepTurn 28 = .ok (.getfield 55, 3) := dq_180 (dq_w dwm_175 12 rfl) (dq_w dwm_175 13 rfl) (dq_w dwm_175 14 rfl) rfl
theorem dX6_keepTurn_31 : decode cX6_keepTurn 31 = .ok (.iload_n 1, 1) := dq_27 (dq_w dwm_175 15 rfl)
theorem dX6_keepTurn_32 : decode cX6_keepTurn 32 = .ok (.iaload, 1) := dq_46 (dq_w dwm_176 0 rfl)
theorem dX6_keepTurn_33 : decode cX6_keepTurn 33 = .ok (.iastore, 1) := dq_79 (dq_w dwm_176 1 rfl)
theorem dX6_keepTurn_34 : decode cX6_keepTurn 34 = .ok (.iinc 1 1, 3) := dq_132 (dq_w dwm_176 2 rfl) (dq_w dwm_176 3 rfl) rfl (dq_w dwm_176 4 rfl) rfl
theorem dX6_keepTurn_37 : decode cX6_keepTurn 37 = .ok (.goto (-25), 3) := dq_167 (dq_w dwm_176 5 rfl) (dq_w dwm_176 6 rfl) (dq_w dwm_176 7 rfl) (dq_n (m := 25) rfl rfl)
theorem dX6_keepTurn_40 : decode cX6_keepTurn 40 = .ok (.aload_n 0, 1) := dq_42 (dq_w dwm_176 8 rfl)
theorem dX6_keepTurn_41 : decode cX6_keepTurn 41 = .ok (.dup, 1) := dq_89 (dq_w dwm_176 9 rfl)
theorem dX6_keepTurn_42 : decode cX6_keepTurn 42 = .ok (.getfield 205, 3) := dq_180 (dq_w dwm_176 10 rfl) (dq_w dwm_176 11 rfl) (dq_w dwm_176 12 rfl) rfl
theorem dX6_keepTurn_45 : decode cX6_keepTurn 45 = .ok (.iconst 1, 1) := dq_4 (dq_w dwm_176 13 rfl)
theorem dX6_keepTurn_46 : decode cX6_keepTurn 46 = .ok (.isub, 1) := dq_100 (dq_w dwm_176 14 rfl)
theorem dX6_keepTurn_47 : decode cX6_keepTurn 47 = .ok (.putfield 205, 3) := dq_181 (dq_w dwm_176 15 rfl) (dq_w dwm_177 0 rfl) (dq_w dwm_177 1 rfl) rfl
theorem dX6_keepTurn_50 : decode cX6_keepTurn 50 = .ok (.aload_n 0, 1) := dq_42 (dq_w dwm_177 2 rfl)
theorem dX6_keepTurn_51 : decode cX6_keepTurn 51 = .ok (.aload_n 0, 1) := dq_42 (dq_w dwm_177 3 rfl)
theorem dX6_keepTurn_52 : decode cX6_keepTurn 52 = .ok (.getfield 58, 3) := dq_180 (dq_w dwm_177 4 rfl) (dq_w dwm_177 5 rfl) (dq_w dwm_177 6 rfl) rfl
theorem dX6_keepTurn_55 : decode cX6_keepTurn 55 = .ok (.iconst 1, 1) := dq_4 (dq_w dwm_177 7 rfl)
theorem dX6_keepTurn_56 : decode cX6_keepTurn 56 = .ok (.invokevirtual 220, 3) := dq_182 (dq_w dwm_177 8 rfl) (dq_w dwm_177 9 rfl) (dq_w dwm_177 10 rfl) rfl
theorem dX6_keepTurn_59 : decode cX6_keepTurn 59 = .ok (.iconst 0, 1) := dq_3 (dq_w dwm_177 11 rfl)
theorem dX6_keepTurn_60 : decode cX6_keepTurn 60 = .ok (.istore_n 1, 1) := dq_60 (dq_w dwm_177 12 rfl)
theorem dX6_keepTurn_61 : decode cX6_keepTurn 61 = .ok (.iload_n 1, 1) := dq_27 (dq_w dwm_177 13 rfl)
theorem dX6_keepTurn_62 : decode cX6_keepTurn 62 = .ok (.bipush 91, 2) := dq_16 (dq_w dwm_177 14 rfl) (dq_w dwm_177 15 rfl) rfl
theorem dX6_keepTurn_64 : decode cX6_keepTurn 64 = .ok (.if_icmp .ge 29, 3) := dq_162 (dq_w dwm_178 0 rfl) (dq_w dwm_178 1 rfl) (dq_w dwm_178 2 rfl) (dq_p (n := 29) rfl rfl)
theorem dX6_keepTurn_67 : decode cX6_keepTurn 67 = .ok (.aload_n 0, 1) := dq_42 (dq_w dwm_178 3 rfl)
theorem dX6_keepTurn_68 : decode cX6_keepTurn 68 = .ok (.getfield 55, 3) := dq_180 (dq_w dwm_178 4 rfl) (dq_w dwm_178 5 rfl) (dq_w dwm_178 6 rfl) rfl
theorem dX6_keepTurn_71 : decode cX6_keepTurn 71 = .ok (.bipush 91, 2) := dq_16 (dq_w dwm_178 7 rfl) (dq_w dwm_178 8 rfl) rfl
theorem dX6_keepTurn_73 : decode cX6_keepTurn 73 = .ok (.aload_n 0, 1) := dq_42 (dq_w dwm_178 9 rfl)
theorem dX6_keepTurn_74 : decode cX6_keepTurn 74 = .ok (.getfield 205, 3) := dq_180 (dq_w dwm_178 10 rfl) (dq_w dwm_178 11 rfl) (dq_w dwm_178 12 rfl) rfl
theorem dX6_keepTurn_77 : decode cX6_keepTurn 77 = .ok (.imul, 1) := dq_104 (dq_w dwm_178 13 rfl)
theorem dX6_keepTurn_78 : decode cX6_keepTurn 78 = .ok (.iload_n 1, 1) := dq_27 (dq_w dwm_178 14 rfl)
theorem dX6_keepTurn_79 : decode cX6_keepTurn 79 = .ok (.iadd, 1) := dq_96 (dq_w dwm_178 15 rfl)
theorem dX6_keepTurn_80 : decode cX6_keepTurn 80 = .ok (.aload_n 0, 1) := dq_42 (dq_w dwm_179 0 rfl)
theorem dX6_keepTurn_81 : decode cX6_keepTurn 81 = .ok (.getfield 58, 3) := dq_180 (dq_w dwm_179 1 rfl) (dq_w dwm_179 2 rfl) (dq_w dwm_179 3 rfl) rfl
theorem dX6_keepTurn_84 : decode cX6_keepTurn 84 = .ok (.iload_n 1, 1) := dq_27 (dq_w dwm_179 4 rfl)
theorem dX6_keepTurn_85 : decode cX6_keepTurn 85 = .ok (.iaload, 1) := dq_46 (dq_w dwm_179 5 rfl)
theorem dX6_keepTurn_86 : decode cX6_keepTurn 86 = .ok (.iastore, 1) := dq_79 (dq_w dwm_179 6 rfl)
theorem dX6_keepTurn_87 : decode cX6_keepTurn 87 = .ok (.iinc 1 1, 3) := dq_132 (dq_w dwm_179 7 rfl) (dq_w dwm_179 8 rfl) rfl (dq_w dwm_179 9 rfl) rfl
theorem dX6_keepTurn_90 : decode cX6_keepTurn 90 = .ok (.goto (-29), 3) := dq_167 (dq_w dwm_179 10 rfl) (dq_w dwm_179 11 rfl) (dq_w dwm_179 12 rfl) (dq_n (m := 29) rfl rfl)
theorem dX6_keepTurn_93 : decode cX6_keepTurn 93 = .ok (.aload_n 0, 1) := dq_42 (dq_w dwm_179 13 rfl)
theorem dX6_keepTurn_94 : decode cX6_keepTurn 94 = .ok (.dup, 1) := dq_89 (dq_w dwm_179 14 rfl)
theorem dX6_keepTurn_95 : decode cX6_keepTurn 95 = .ok (.getfield 205, 3) := dq_180 (dq_w dwm_179 15 rfl) (dq_w dwm_180 0 rfl) (dq_w dwm_180 1 rfl) rfl
theorem dX6_keepTurn_98 : decode cX6_keepTurn 98 = .ok (.iconst 1, 1) := dq_4 (dq_w dwm_180 2 rfl)
theorem dX6_keepTurn_99 : decode cX6_keepTurn 99 = .ok (.iadd, 1) := dq_96 (dq_w dwm_180 3 rfl)
theorem dX6_keepTurn_100 : decode cX6_keepTurn 100 = .ok (.putfield 205, 3) := dq_181 (dq_w dwm_180 4 rfl) (dq_w dwm_180 5 rfl) (dq_w dwm_180 6 rfl) rfl
theorem dX6_keepTurn_103 : decode cX6_keepTurn 103 = .ok (.return_, 1) := dq_177 (dq_w dwm_180 7 rfl)
theorem dwm_181 : (cX6_back.data.toList.drop 0).take 16 = [42, 3, 181, 0, 79, 42, 180, 0, 205, 154, 0, 10, 42, 16, 253, 182] := by decide +kernel
theorem dwm_182 : (cX6_back.data.toList.drop 16).take 16 = [0, 143, 172, 42, 89, 180, 0, 205, 4, 100, 181, 0, 205, 3, 60, 27] := by decide +kernel
theorem dwm_183 : (cX6_back.data.toList.drop 32).take 16 = [16, 91, 162, 0, 29, 42, 180, 0, 58, 27, 42, 180, 0, 55, 16, 91] := by decide +kernel
theorem dwm_184 : (cX6_back.data.toList.drop 48).take 16 = [42, 180, 0, 205, 104, 27, 96, 46, 79, 132, 1, 1, 167, 255, 227, 42] := by decide +kernel
theorem dwm_185 : (cX6_back.data.toList.drop 64).take 16 = [42, 180, 0, 58, 3, 182, 0, 220, 42, 180, 0, 205, 172] := by decide +kernel
theorem dX6_back_0 : decode cX6_back 0 = .ok (.aload_n 0, 1) := dq_42 (dq_w dwm_181 0 rfl)
theorem dX6_back_1 : decode cX6_back 1 = .ok (.iconst 0, 1) := dq_3 (dq_w dwm_181 1 rfl)
theorem dX6_back_2 : decode cX6_back 2 = .ok (.putfield 79, 3) := dq_181 (dq_w dwm_181 2 rfl) (dq_w dwm_181 3 rfl) (dq_w dwm_181 4 rfl) rfl
theorem dX6_back_5 : decode cX6_back 5 = .ok (.aload_n 0, 1) := dq_42 (dq_w dwm_181 5 rfl)
theorem dX6_back_6 : decode cX6_back 6 = .ok (.getfield 205, 3) := dq_180 (dq_w dwm_181 6 rfl) (dq_w dwm_181 7 rfl) (dq_w dwm_181 8 rfl) rfl
theorem dX6_back_9 : decode cX6_back 9 = .ok (.ifCond .ne 10, 3) := dq_154 (dq_w dwm_181 9 rfl) (dq_w dwm_181 10 rfl) (dq_w dwm_181 11 rfl) (dq_p (n := 10) rfl rfl)
theorem dX6_back_12 : decode cX6_back 12 = .ok (.aload_n 0, 1) := dq_42 (dq_w dwm_181 12 rfl)
theorem dX6_back_13 : decode cX6_back 13 = .ok (.bipush (-3), 2) := dq_16 (dq_w dwm_181 13 rfl) (dq_w dwm_181 14 rfl) rfl
theorem dX6_back_15 : decode cX6_back 15 = .ok (.invokevirtual 143, 3) := dq_182 (dq_w dwm_181 15 rfl) (dq_w dwm_182 0 rfl) (dq_w dwm_182 1 rfl) rfl
theorem dX6_back_18 : decode cX6_back 18 = .ok (.ireturn, 1) := dq_172 (dq_w dwm_182 2 rfl)
theorem dX6_back_19 : decode cX6_back 19 = .ok (.aload_n 0, 1) := dq_42 (dq_w dwm_182 3 rfl)
theorem dX6_back_20 : decode cX6_back 20 = .ok (.dup, 1) := dq_89 (dq_w dwm_182 4 rfl)
theorem dX6_back_21 : decode cX6_back 21 = .ok (.getfield 205, 3) := dq_180 (dq_w dwm_182 5 rfl) (dq_w dwm_182 6 rfl) (dq_w dwm_182 7 rfl) rfl
theorem dX6_back_24 : decode cX6_back 24 = .ok (.iconst 1, 1) := dq_4 (dq_w dwm_182 8 rfl)
theorem dX6_back_25 : decode cX6_back 25 = .ok (.isub, 1) := dq_100 (dq_w dwm_182 9 rfl)
theorem dX6_back_26 : decode cX6_back 26 = .ok (.putfield 205, 3) := dq_181 (dq_w dwm_182 10 rfl) (dq_w dwm_182 11 rfl) (dq_w dwm_182 12 rfl) rfl
theorem dX6_back_29 : decode cX6_back 29 = .ok (.iconst 0, 1) := dq_3 (dq_w dwm_182 13 rfl)
theorem dX6_back_30 : decode cX6_back 30 = .ok (.istore_n 1, 1) := dq_60 (dq_w dwm_182 14 rfl)
theorem dX6_back_31 : decode cX6_back 31 = .ok (.iload_n 1, 1) := dq_27 (dq_w dwm_182 15 rfl)
theorem dX6_back_32 : decode cX6_back 32 = .ok (.bipush 91, 2) := dq_16 (dq_w dwm_183 0 rfl) (dq_w dwm_183 1 rfl) rfl
theorem dX6_back_34 : decode cX6_back 34 = .ok (.if_icmp .ge 29, 3) := dq_162 (dq_w dwm_183 2 rfl) (dq_w dwm_183 3 rfl) (dq_w dwm_183 4 rfl) (dq_p (n := 29) rfl rfl)
theorem dX6_back_37 : decode cX6_back 37 = .ok (.aload_n 0, 1) := dq_42 (dq_w dwm_183 5 rfl)
theorem dX6_back_38 : decode cX6_back 38 = .ok (.getfield 58, 3) := dq_180 (dq_w dwm_183 6 rfl) (dq_w dwm_183 7 rfl) (dq_w dwm_183 8 rfl) rfl
theorem dX6_back_41 : decode cX6_back 41 = .ok (.iload_n 1, 1) := dq_27 (dq_w dwm_183 9 rfl)
theorem dX6_back_42 : decode cX6_back 42 = .ok (.aload_n 0, 1) := dq_42 (dq_w dwm_183 10 rfl)
theorem dX6_back_43 : decode cX6_back 43 = .ok (.getfield 55, 3) := dq_180 (dq_w dwm_183 11 rfl) (dq_w dwm_183 12 rfl) (dq_w dwm_183 13 rfl) rfl
theorem dX6_back_46 : decode cX6_back 46 = .ok (.bipush 91, 2) := dq_16 (dq_w dwm_183 14 rfl) (dq_w dwm_183 15 rfl) rfl
theorem dX6_back_48 : decode cX6_back 48 = .ok (.aload_n 0, 1) := dq_42 (dq_w dwm_184 0 rfl)
theorem dX6_back_49 : decode cX6_back 49 = .ok (.getfield 205, 3) := dq_180 (dq_w dwm_184 1 rfl) (dq_w dwm_184 2 rfl) (dq_w dwm_184 3 rfl) rfl
theorem dX6_back_52 : decode cX6_back 52 = .ok (.imul, 1) := dq_104 (dq_w dwm_184 4 rfl)
theorem dX6_back_53 : decode cX6_back 53 = .ok (.iload_n 1, 1) := dq_27 (dq_w dwm_184 5 rfl)
theorem dX6_back_54 : decode cX6_back 54 = .ok (.iadd, 1) := dq_96 (dq_w dwm_184 6 rfl)
theorem dX6_back_55 : decode cX6_back 55 = .ok (.iaload, 1) := dq_46 (dq_w dwm_184 7 rfl)
theorem dX6_back_56 : decode cX6_back 56 = .ok (.iastore, 1) := dq_79 (dq_w dwm_184 8 rfl)
theorem dX6_back_57 : decode cX6_back 57 = .ok (.iinc 1 1, 3) := dq_132 (dq_w dwm_184 9 rfl) (dq_w dwm_184 10 rfl) rfl (dq_w dwm_184 11 rfl) rfl
theorem dX6_back_60 : decode cX6_back 60 = .ok (.goto (-29), 3) := dq_167 (dq_w dwm_184 12 rfl) (dq_w dwm_184 13 rfl) (dq_w dwm_184 14 rfl) (dq_n (m := 29) rfl rfl)
theorem dX6_back_63 : decode cX6_back 63 = .ok (.aload_n 0, 1) := dq_42 (dq_w dwm_184 15 rfl)
theorem dX6_back_64 : decode cX6_back 64 = .ok (.aload_n 0, 1) := dq_42 (dq_w dwm_185 0 rfl)
theorem dX6_back_65 : decode cX6_back 65 = .ok (.getfield 58, 3) := dq_180 (dq_w dwm_185 1 rfl) (dq_w dwm_185 2 rfl) (dq_w dwm_185 3 rfl) rfl
theorem dX6_back_68 : decode cX6_back 68 = .ok (.iconst 0, 1) := dq_3 (dq_w dwm_185 4 rfl)
theorem dX6_back_69 : decode cX6_back 69 = .ok (.invokevirtual 220, 3) := dq_182 (dq_w dwm_185 5 rfl) (dq_w dwm_185 6 rfl) (dq_w dwm_185 7 rfl) rfl
theorem dX6_back_72 : decode cX6_back 72 = .ok (.aload_n 0, 1) := dq_42 (dq_w dwm_185 8 rfl)
theorem dX6_back_73 : decode cX6_back 73 = .ok (.getfield 205, 3) := dq_180 (dq_w dwm_185 9 rfl) (dq_w dwm_185 10 rfl) (dq_w dwm_185 11 rfl) rfl
theorem dX6_back_76 : decode cX6_back 76 = .ok (.ireturn, 1) := dq_172 (dq_w dwm_185 12 rfl)
theorem dwm_186 : (cX6_seersOf.data.toList.drop 0).take 16 = [3, 61, 3, 62, 29, 42, 180, 0, 92, 162, 0, 34, 28, 42, 29, 42] := by decide +kernel
theorem dwm_187 : (cX6_seersOf.data.toList.drop 16).take 16 = [180, 0, 22, 29, 46, 27, 182, 0, 106, 153, 0, 9, 4, 29, 120, 167] := by decide +kernel
theorem dwm_188 : (cX6_seersOf.data.toList.drop 32).take 16 = [0, 4, 3, 128, 61, 132, 3, 1, 167, 255, 220, 28, 172] := by decide +kernel
theorem dX6_seersOf_0 : decode cX6_seersOf 0 = .ok (.iconst 0, 1) := dq_3 (dq_w dwm_186 0 rfl)
theorem dX6_seersOf_1 : decode cX6_seersOf 1 = .ok (.istore_n 2, 1) := dq_61 (dq_w dwm_186 1 rfl)
theorem dX6_seersOf_2 : decode cX6_seersOf 2 = .ok (.iconst 0, 1) := dq_3 (dq_w dwm_186 2 rfl)
theorem dX6_seersOf_3 : decode cX6_seersOf 3 = .ok (.istore_n 3, 1) := dq_62 (dq_w dwm_186 3 rfl)
theorem dX6_seersOf_4 : decode cX6_seersOf 4 = .ok (.iload_n 3, 1) := dq_29 (dq_w dwm_186 4 rfl)
theorem dX6_seersOf_5 : decode cX6_seersOf 5 = .ok (.aload_n 0, 1) := dq_42 (dq_w dwm_186 5 rfl)
theorem dX6_seersOf_6 : decode cX6_seersOf 6 = .ok (.getfield 92, 3) := dq_180 (dq_w dwm_186 6 rfl) (dq_w dwm_186 7 rfl) (dq_w dwm_186 8 rfl) rfl
theorem dX6_seersOf_9 : decode cX6_seersOf 9 = .ok (.if_icmp .ge 34, 3) := dq_162 (dq_w dwm_186 9 rfl) (dq_w dwm_186 10 rfl) (dq_w dwm_186 11 rfl) (dq_p (n := 34) rfl rfl)
theorem dX6_seersOf_12 : decode cX6_seersOf 12 = .ok (.iload_n 2, 1) := dq_28 (dq_w dwm_186 12 rfl)
theorem dX6_seersOf_13 : decode cX6_seersOf 13 = .ok (.aload_n 0, 1) := dq_42 (dq_w dwm_186 13 rfl)
theorem dX6_seersOf_14 : decode cX6_seersOf 14 = .ok (.iload_n 3, 1) := dq_29 (dq_w dwm_186 14 rfl)
theorem dX6_seersOf_15 : decode cX6_seersOf 15 = .ok (.aload_n 0, 1) := dq_42 (dq_w dwm_186 15 rfl)
theorem dX6_seersOf_16 : decode cX6_seersOf 16 = .ok (.getfield 22, 3) := dq_180 (dq_w dwm_187 0 rfl) (dq_w dwm_187 1 rfl) (dq_w dwm_187 2 rfl) rfl
theorem dX6_seersOf_19 : decode cX6_seersOf 19 = .ok (.iload_n 3, 1) := dq_29 (dq_w dwm_187 3 rfl)
theorem dX6_seersOf_20 : decode cX6_seersOf 20 = .ok (.iaload, 1) := dq_46 (dq_w dwm_187 4 rfl)
theorem dX6_seersOf_21 : decode cX6_seersOf 21 = .ok (.iload_n 1, 1) := dq_27 (dq_w dwm_187 5 rfl)
theorem dX6_seersOf_22 : decode cX6_seersOf 22 = .ok (.invokevirtual 106, 3) := dq_182 (dq_w dwm_187 6 rfl) (dq_w dwm_187 7 rfl) (dq_w dwm_187 8 rfl) rfl
theorem dX6_seersOf_25 : decode cX6_seersOf 25 = .ok (.ifCond .eq 9, 3) := dq_153 (dq_w dwm_187 9 rfl) (dq_w dwm_187 10 rfl) (dq_w dwm_187 11 rfl) (dq_p (n := 9) rfl rfl)
theorem dX6_seersOf_28 : decode cX6_seersOf 28 = .ok (.iconst 1, 1) := dq_4 (dq_w dwm_187 12 rfl)
theorem dX6_seersOf_29 : decode cX6_seersOf 29 = .ok (.iload_n 3, 1) := dq_29 (dq_w dwm_187 13 rfl)
theorem dX6_seersOf_30 : decode cX6_seersOf 30 = .ok (.ishl, 1) := dq_120 (dq_w dwm_187 14 rfl)
theorem dX6_seersOf_31 : decode cX6_seersOf 31 = .ok (.goto 4, 3) := dq_167 (dq_w dwm_187 15 rfl) (dq_w dwm_188 0 rfl) (dq_w dwm_188 1 rfl) (dq_p (n := 4) rfl rfl)
theorem dX6_seersOf_34 : decode cX6_seersOf 34 = .ok (.iconst 0, 1) := dq_3 (dq_w dwm_188 2 rfl)
theorem dX6_seersOf_35 : decode cX6_seersOf 35 = .ok (.ior, 1) := dq_128 (dq_w dwm_188 3 rfl)
theorem dX6_seersOf_36 : decode cX6_seersOf 36 = .ok (.istore_n 2, 1) := dq_61 (dq_w dwm_188 4 rfl)
theorem dX6_seersOf_37 : decode cX6_seersOf 37 = .ok (.iinc 3 1, 3) := dq_132 (dq_w dwm_188 5 rfl) (dq_w dwm_188 6 rfl) rfl (dq_w dwm_188 7 rfl) rfl
theorem dX6_seersOf_40 : decode cX6_seersOf 40 = .ok (.goto (-36), 3) := dq_167 (dq_w dwm_188 8 rfl) (dq_w dwm_188 9 rfl) (dq_w dwm_188 10 rfl) (dq_n (m := 36) rfl rfl)
theorem dX6_seersOf_43 : decode cX6_seersOf 43 = .ok (.iload_n 2, 1) := dq_28 (dq_w dwm_188 11 rfl)
theorem dX6_seersOf_44 : decode cX6_seersOf 44 = .ok (.ireturn, 1) := dq_172 (dq_w dwm_188 12 rfl)
theorem dwm_189 : (cX6_houseOf.data.toList.drop 0).take 16 = [42, 3, 181, 0, 79, 42, 27, 182, 0, 181, 153, 0, 15, 28, 133, 9] := by decide +kernel
theorem dwm_190 : (cX6_houseOf.data.toList.drop 16).take 16 = [20, 0, 227, 184, 0, 85, 154, 0, 22, 42, 42, 27, 182, 0, 181, 153] := by decide +kernel
theorem dwm_191 : (cX6_houseOf.data.toList.drop 32).take 16 = [0, 8, 16, 254, 167, 0, 4, 2, 182, 0, 143, 172, 28, 170, 0, 0] := by decide +kernel
theorem dwm_192 : (cX6_houseOf.data.toList.drop 80).take 16 = [0, 0, 0, 77, 0, 0, 0, 84, 42, 180, 0, 7, 27, 46, 172, 42] := by decide +kernel
theorem dwm_193 : (cX6_houseOf.data.toList.drop 96).take 16 = [180, 0, 13, 27, 46, 172, 42, 180, 0, 16, 27, 46, 172, 42, 180, 0] := by decide +kernel
theorem dwm_194 : (cX6_houseOf.data.toList.drop 112).take 16 = [19, 27, 46, 172, 42, 27, 182, 0, 99, 172, 42, 27, 3, 182, 0, 110] := by decide +kernel
theorem dwm_195 : (cX6_houseOf.data.toList.drop 128).take 16 = [172, 42, 27, 182, 0, 229, 172, 42, 27, 182, 0, 232, 172] := by decide +kernel
theorem dX6_houseOf_0 : decode cX6_houseOf 0 = .ok (.aload_n 0, 1) := dq_42 (dq_w dwm_189 0 rfl)
theorem dX6_houseOf_1 : decode cX6_houseOf 1 = .ok (.iconst 0, 1) := dq_3 (dq_w dwm_189 1 rfl)
theorem dX6_houseOf_2 : decode cX6_houseOf 2 = .ok (.putfield 79, 3) := dq_181 (dq_w dwm_189 2 rfl) (dq_w dwm_189 3 rfl) (dq_w dwm_189 4 rfl) rfl
theorem dX6_houseOf_5 : decode cX6_houseOf 5 = .ok (.aload_n 0, 1) := dq_42 (dq_w dwm_189 5 rfl)
theorem dX6_houseOf_6 : decode cX6_houseOf 6 = .ok (.iload_n 1, 1) := dq_27 (dq_w dwm_189 6 rfl)
theorem dX6_houseOf_7 : decode cX6_houseOf 7 = .ok (.invokevirtual 181, 3) := dq_182 (dq_w dwm_189 7 rfl) (dq_w dwm_189 8 rfl) (dq_w dwm_189 9 rfl) rfl
theorem dX6_houseOf_10 : decode cX6_houseOf 10 = .ok (.ifCond .eq 15, 3) := dq_153 (dq_w dwm_189 10 rfl) (dq_w dwm_189 11 rfl) (dq_w dwm_189 12 rfl) (dq_p (n := 15) rfl rfl)
theorem dX6_houseOf_13 : decode cX6_houseOf 13 = .ok (.iload_n 2, 1) := dq_28 (dq_w dwm_189 13 rfl)
theorem dX6_houseOf_14 : decode cX6_houseOf 14 = .ok (.i2l, 1) := dq_133 (dq_w dwm_189 14 rfl)
theorem dX6_houseOf_15 : decode cX6_houseOf 15 = .ok (.lconst 0, 1) := dq_9 (dq_w dwm_189 15 rfl)
theorem dX6_houseOf_16 : decode cX6_houseOf 16 = .ok (.ldc2_w 227, 3) := dq_20 (dq_w dwm_190 0 rfl) (dq_w dwm_190 1 rfl) (dq_w dwm_190 2 rfl) rfl
theorem dX6_houseOf_19 : decode cX6_houseOf 19 = .ok (.invokestatic 85, 3) := dq_184 (dq_w dwm_190 3 rfl) (dq_w dwm_190 4 rfl) (dq_w dwm_190 5 rfl) rfl
theorem dX6_houseOf_22 : decode cX6_houseOf 22 = .ok (.ifCond .ne 22, 3) := dq_154 (dq_w dwm_190 6 rfl) (dq_w dwm_190 7 rfl) (dq_w dwm_190 8 rfl) (dq_p (n := 22) rfl rfl)
theorem dX6_houseOf_25 : decode cX6_houseOf 25 = .ok (.aload_n 0, 1) := dq_42 (dq_w dwm_190 9 rfl)
theorem dX6_houseOf_26 : decode cX6_houseOf 26 = .ok (.aload_n 0, 1) := dq_42 (dq_w dwm_190 10 rfl)
theorem dX6_houseOf_27 : decode cX6_houseOf 27 = .ok (.iload_n 1, 1) := dq_27 (dq_w dwm_190 11 rfl)
theorem dX6_houseOf_28 : decode cX6_houseOf 28 = .ok (.invokevirtual 181, 3) := dq_182 (dq_w dwm_190 12 rfl) (dq_w dwm_190 13 rfl) (dq_w dwm_190 14 rfl) rfl
theorem dX6_houseOf_31 : decode cX6_houseOf 31 = .ok (.ifCond .eq 8, 3) := dq_153 (dq_w dwm_190 15 rfl) (dq_w dwm_191 0 rfl) (dq_w dwm_191 1 rfl) (dq_p (n := 8) rfl rfl)
theorem dX6_houseOf_34 : decode cX6_houseOf 34 = .ok (.bipush (-2), 2) := dq_16 (dq_w dwm_191 2 rfl) (dq_w dwm_191 3 rfl) rfl
theorem dX6_houseOf_36 : decode cX6_houseOf 36 = .ok (.goto 4, 3) := dq_167 (dq_w dwm_191 4 rfl) (dq_w dwm_191 5 rfl) (dq_w dwm_191 6 rfl) (dq_p (n := 4) rfl rfl)
theorem dX6_houseOf_39 : decode cX6_houseOf 39 = .ok (.iconst (-1), 1) := dq_2 (dq_w dwm_191 7 rfl)
theorem dX6_houseOf_40 : decode cX6_houseOf 40 = .ok (.invokevirtual 143, 3) := dq_182 (dq_w dwm_191 8 rfl) (dq_w dwm_191 9 rfl) (dq_w dwm_191 10 rfl) rfl
theorem dX6_houseOf_43 : decode cX6_houseOf 43 = .ok (.ireturn, 1) := dq_172 (dq_w dwm_191 11 rfl)
theorem dX6_houseOf_44 : decode cX6_houseOf 44 = .ok (.iload_n 2, 1) := dq_28 (dq_w dwm_191 12 rfl)
theorem dX6_houseOf_45 : decode cX6_houseOf 45 = .ok (.tableswitch 90 0 6 #[43, 50, 57, 64, 71, 77, 84], 43) := by decide +kernel
theorem dX6_houseOf_88 : decode cX6_houseOf 88 = .ok (.aload_n 0, 1) := dq_42 (dq_w dwm_192 8 rfl)
theorem dX6_houseOf_89 : decode cX6_houseOf 89 = .ok (.getfield 7, 3) := dq_180 (dq_w dwm_192 9 rfl) (dq_w dwm_192 10 rfl) (dq_w dwm_192 11 rfl) rfl
theorem dX6_houseOf_92 : decode cX6_houseOf 92 = .ok (.iload_n 1, 1) := dq_27 (dq_w dwm_192 12 rfl)
theorem dX6_houseOf_93 : decode cX6_houseOf 93 = .ok (.iaload, 1) := dq_46 (dq_w dwm_192 13 rfl)
theorem dX6_houseOf_94 : decode cX6_houseOf 94 = .ok (.ireturn, 1) := dq_172 (dq_w dwm_192 14 rfl)
theorem dX6_houseOf_95 : decode cX6_houseOf 95 = .ok (.aload_n 0, 1) := dq_42 (dq_w dwm_192 15 rfl)
theorem dX6_houseOf_96 : decode cX6_houseOf 96 = .ok (.getfield 13, 3) := dq_180 (dq_w dwm_193 0 rfl) (dq_w dwm_193 1 rfl) (dq_w dwm_193 2 rfl) rfl
theorem dX6_houseOf_99 : decode cX6_houseOf 99 = .ok (.iload_n 1, 1) := dq_27 (dq_w dwm_193 3 rfl)
theorem dX6_houseOf_100 : decode cX6_houseOf 100 = .ok (.iaload, 1) := dq_46 (dq_w dwm_193 4 rfl)
theorem dX6_houseOf_101 : decode cX6_houseOf 101 = .ok (.ireturn, 1) := dq_172 (dq_w dwm_193 5 rfl)
theorem dX6_houseOf_102 : decode cX6_houseOf 102 = .ok (.aload_n 0, 1) := dq_42 (dq_w dwm_193 6 rfl)
theorem dX6_houseOf_103 : decode cX6_houseOf 103 = .ok (.getfield 16, 3) := dq_180 (dq_w dwm_193 7 rfl) (dq_w dwm_193 8 rfl) (dq_w dwm_193 9 rfl) rfl
theorem dX6_houseOf_106 : decode cX6_houseOf 106 = .ok (.iload_n 1, 1) := dq_27 (dq_w dwm_193 10 rfl)
theorem dX6_houseOf_107 : decode cX6_houseOf 107 = .ok (.iaload, 1) := dq_46 (dq_w dwm_193 11 rfl)
theorem dX6_houseOf_108 : decode cX6_houseOf 108 = .ok (.ireturn, 1) := dq_172 (dq_w dwm_193 12 rfl)
theorem dX6_houseOf_109 : decode cX6_houseOf 109 = .ok (.aload_n 0, 1) := dq_42 (dq_w dwm_193 13 rfl)
theorem dX6_houseOf_110 : decode cX6_houseOf 110 = .ok (.getfield 19, 3) := dq_180 (dq_w dwm_193 14 rfl) (dq_w dwm_193 15 rfl) (dq_w dwm_194 0 rfl) rfl
theorem dX6_houseOf_113 : decode cX6_houseOf 113 = .ok (.iload_n 1, 1) := dq_27 (dq_w dwm_194 1 rfl)
theorem dX6_houseOf_114 : decode cX6_houseOf 114 = .ok (.iaload, 1) := dq_46 (dq_w dwm_194 2 rfl)
theorem dX6_houseOf_115 : decode cX6_houseOf 115 = .ok (.ireturn, 1) := dq_172 (dq_w dwm_194 3 rfl)
theorem dX6_houseOf_116 : decode cX6_houseOf 116 = .ok (.aload_n 0, 1) := dq_42 (dq_w dwm_194 4 rfl)
theorem dX6_houseOf_117 : decode cX6_houseOf 117 = .ok (.iload_n 1, 1) := dq_27 (dq_w dwm_194 5 rfl)
theorem dX6_houseOf_118 : decode cX6_houseOf 118 = .ok (.invokevirtual 99, 3) := dq_182 (dq_w dwm_194 6 rfl) (dq_w dwm_194 7 rfl) (dq_w dwm_194 8 rfl) rfl
theorem dX6_houseOf_121 : decode cX6_houseOf 121 = .ok (.ireturn, 1) := dq_172 (dq_w dwm_194 9 rfl)
theorem dX6_houseOf_122 : decode cX6_houseOf 122 = .ok (.aload_n 0, 1) := dq_42 (dq_w dwm_194 10 rfl)
theorem dX6_houseOf_123 : decode cX6_houseOf 123 = .ok (.iload_n 1, 1) := dq_27 (dq_w dwm_194 11 rfl)
theorem dX6_houseOf_124 : decode cX6_houseOf 124 = .ok (.iconst 0, 1) := dq_3 (dq_w dwm_194 12 rfl)
theorem dX6_houseOf_125 : decode cX6_houseOf 125 = .ok (.invokevirtual 110, 3) := dq_182 (dq_w dwm_194 13 rfl) (dq_w dwm_194 14 rfl) (dq_w dwm_194 15 rfl) rfl
theorem dX6_houseOf_128 : decode cX6_houseOf 128 = .ok (.ireturn, 1) := dq_172 (dq_w dwm_195 0 rfl)
theorem dX6_houseOf_129 : decode cX6_houseOf 129 = .ok (.aload_n 0, 1) := dq_42 (dq_w dwm_195 1 rfl)
theorem dX6_houseOf_130 : decode cX6_houseOf 130 = .ok (.iload_n 1, 1) := dq_27 (dq_w dwm_195 2 rfl)
theorem dX6_houseOf_131 : decode cX6_houseOf 131 = .ok (.invokevirtual 229, 3) := dq_182 (dq_w dwm_195 3 rfl) (dq_w dwm_195 4 rfl) (dq_w dwm_195 5 rfl) rfl
theorem dX6_houseOf_134 : decode cX6_houseOf 134 = .ok (.ireturn, 1) := dq_172 (dq_w dwm_195 6 rfl)
theorem dX6_houseOf_135 : decode cX6_houseOf 135 = .ok (.aload_n 0, 1) := dq_42 (dq_w dwm_195 7 rfl)
theorem dX6_houseOf_136 : decode cX6_houseOf 136 = .ok (.iload_n 1, 1) := dq_27 (dq_w dwm_195 8 rfl)
theorem dX6_houseOf_137 : decode cX6_houseOf 137 = .ok (.invokevirtual 232, 3) := dq_182 (dq_w dwm_195 9 rfl) (dq_w dwm_195 10 rfl) (dq_w dwm_195 11 rfl) rfl
theorem dX6_houseOf_140 : decode cX6_houseOf 140 = .ok (.ireturn, 1) := dq_172 (dq_w dwm_195 12 rfl)
theorem dwm_196 : (cX6_walkerOf.data.toList.drop 0).take 16 = [42, 3, 181, 0, 79, 42, 27, 182, 0, 184, 153, 0, 15, 28, 133, 9] := by decide +kernel
theorem dwm_197 : (cX6_walkerOf.data.toList.drop 16).take 16 = [20, 0, 235, 184, 0, 85, 154, 0, 22, 42, 42, 27, 182, 0, 184, 153] := by decide +kernel
theorem dwm_198 : (cX6_walkerOf.data.toList.drop 32).take 16 = [0, 8, 16, 254, 167, 0, 4, 2, 182, 0, 143, 172, 28, 170, 0, 0] := by decide +kernel
theorem dwm_199 : (cX6_walkerOf.data.toList.drop 80).take 16 = [42, 180, 0, 22, 27, 46, 172, 42, 180, 0, 25, 27, 46, 172, 42, 180] := by decide +kernel
theorem dwm_200 : (cX6_walkerOf.data.toList.drop 96).take 16 = [0, 28, 27, 46, 172, 42, 27, 182, 0, 116, 172, 42, 27, 42, 180, 0] := by decide +kernel
theorem dwm_201 : (cX6_walkerOf.data.toList.drop 112).take 16 = [22, 27, 46, 182, 0, 128, 172, 42, 27, 182, 0, 113, 172] := by decide +kernel
theorem dX6_walkerOf_0 : decode cX6_walkerOf 0 = .ok (.aload_n 0, 1) := dq_42 (dq_w dwm_196 0 rfl)
theorem dX6_walkerOf_1 : decode cX6_walkerOf 1 = .ok (.iconst 0, 1) := dq_3 (dq_w dwm_196 1 rfl)
theorem dX6_walkerOf_2 : decode cX6_walkerOf 2 = .ok (.putfield 79, 3) := dq_181 (dq_w dwm_196 2 rfl) (dq_w dwm_196 3 rfl) (dq_w dwm_196 4 rfl) rfl
theorem dX6_walkerOf_5 : decode cX6_walkerOf 5 = .ok (.aload_n 0, 1) := dq_42 (dq_w dwm_196 5 rfl)
theorem dX6_walkerOf_6 : decode cX6_walkerOf 6 = .ok (.iload_n 1, 1) := dq_27 (dq_w dwm_196 6 rfl)
theorem dX6_walkerOf_7 : decode cX6_walkerOf 7 = .ok (.invokevirtual 184, 3) := dq_182 (dq_w dwm_196 7 rfl) (dq_w dwm_196 8 rfl) (dq_w dwm_196 9 rfl) rfl
theorem dX6_walkerOf_10 : decode cX6_walkerOf 10 = .ok (.ifCond .eq 15, 3) := dq_153 (dq_w dwm_196 10 rfl) (dq_w dwm_196 11 rfl) (dq_w dwm_196 12 rfl) (dq_p (n := 15) rfl rfl)
theorem dX6_walkerOf_13 : decode cX6_walkerOf 13 = .ok (.iload_n 2, 1) := dq_28 (dq_w dwm_196 13 rfl)
theorem dX6_walkerOf_14 : decode cX6_walkerOf 14 = .ok (.i2l, 1) := dq_133 (dq_w dwm_196 14 rfl)
theorem dX6_walkerOf_15 : decode cX6_walkerOf 15 = .ok (.lconst 0, 1) := dq_9 (dq_w dwm_196 15 rfl)
theorem dX6_walkerOf_16 : decode cX6_walkerOf 16 = .ok (.ldc2_w 235, 3) := dq_20 (dq_w dwm_197 0 rfl) (dq_w dwm_197 1 rfl) (dq_w dwm_197 2 rfl) rfl
theorem dX6_walkerOf_19 : decode cX6_walkerOf 19 = .ok (.invokestatic 85, 3) := dq_184 (dq_w dwm_197 3 rfl) (dq_w dwm_197 4 rfl) (dq_w dwm_197 5 rfl) rfl
theorem dX6_walkerOf_22 : decode cX6_walkerOf 22 = .ok (.ifCond .ne 22, 3) := dq_154 (dq_w dwm_197 6 rfl) (dq_w dwm_197 7 rfl) (dq_w dwm_197 8 rfl) (dq_p (n := 22) rfl rfl)
theorem dX6_walkerOf_25 : decode cX6_walkerOf 25 = .ok (.aload_n 0, 1) := dq_42 (dq_w dwm_197 9 rfl)
theorem dX6_walkerOf_26 : decode cX6_walkerOf 26 = .ok (.aload_n 0, 1) := dq_42 (dq_w dwm_197 10 rfl)
theorem dX6_walkerOf_27 : decode cX6_walkerOf 27 = .ok (.iload_n 1, 1) := dq_27 (dq_w dwm_197 11 rfl)
theorem dX6_walkerOf_28 : decode cX6_walkerOf 28 = .ok (.invokevirtual 184, 3) := dq_182 (dq_w dwm_197 12 rfl) (dq_w dwm_197 13 rfl) (dq_w dwm_197 14 rfl) rfl
theorem dX6_walkerOf_31 : decode cX6_walkerOf 31 = .ok (.ifCond .eq 8, 3) := dq_153 (dq_w dwm_197 15 rfl) (dq_w dwm_198 0 rfl) (dq_w dwm_198 1 rfl) (dq_p (n := 8) rfl rfl)
theorem dX6_walkerOf_34 : decode cX6_walkerOf 34 = .ok (.bipush (-2), 2) := dq_16 (dq_w dwm_198 2 rfl) (dq_w dwm_198 3 rfl) rfl
theorem dX6_walkerOf_36 : decode cX6_walkerOf 36 = .ok (.goto 4, 3) := dq_167 (dq_w dwm_198 4 rfl) (dq_w dwm_198 5 rfl) (dq_w dwm_198 6 rfl) (dq_p (n := 4) rfl rfl)
theorem dX6_walkerOf_39 : decode cX6_walkerOf 39 = .ok (.iconst (-1), 1) := dq_2 (dq_w dwm_198 7 rfl)
theorem dX6_walkerOf_40 : decode cX6_walkerOf 40 = .ok (.invokevirtual 143, 3) := dq_182 (dq_w dwm_198 8 rfl) (dq_w dwm_198 9 rfl) (dq_w dwm_198 10 rfl) rfl
theorem dX6_walkerOf_43 : decode cX6_walkerOf 43 = .ok (.ireturn, 1) := dq_172 (dq_w dwm_198 11 rfl)
theorem dX6_walkerOf_44 : decode cX6_walkerOf 44 = .ok (.iload_n 2, 1) := dq_28 (dq_w dwm_198 12 rfl)
theorem dX6_walkerOf_45 : decode cX6_walkerOf 45 = .ok (.tableswitch 74 0 4 #[35, 42, 49, 56, 62], 35) := by decide +kernel
theorem dX6_walkerOf_80 : decode cX6_walkerOf 80 = .ok (.aload_n 0, 1) := dq_42 (dq_w dwm_199 0 rfl)
theorem dX6_walkerOf_81 : decode cX6_walkerOf 81 = .ok (.getfield 22, 3) := dq_180 (dq_w dwm_199 1 rfl) (dq_w dwm_199 2 rfl) (dq_w dwm_199 3 rfl) rfl
theorem dX6_walkerOf_84 : decode cX6_walkerOf 84 = .ok (.iload_n 1, 1) := dq_27 (dq_w dwm_199 4 rfl)
theorem dX6_walkerOf_85 : decode cX6_walkerOf 85 = .ok (.iaload, 1) := dq_46 (dq_w dwm_199 5 rfl)
theorem dX6_walkerOf_86 : decode cX6_walkerOf 86 = .ok (.ireturn, 1) := dq_172 (dq_w dwm_199 6 rfl)
theorem dX6_walkerOf_87 : decode cX6_walkerOf 87 = .ok (.aload_n 0, 1) := dq_42 (dq_w dwm_199 7 rfl)
theorem dX6_walkerOf_88 : decode cX6_walkerOf 88 = .ok (.getfield 25, 3) := dq_180 (dq_w dwm_199 8 rfl) (dq_w dwm_199 9 rfl) (dq_w dwm_199 10 rfl) rfl
theorem dX6_walkerOf_91 : decode cX6_walkerOf 91 = .ok (.iload_n 1, 1) := dq_27 (dq_w dwm_199 11 rfl)
theorem dX6_walkerOf_92 : decode cX6_walkerOf 92 = .ok (.iaload, 1) := dq_46 (dq_w dwm_199 12 rfl)
theorem dX6_walkerOf_93 : decode cX6_walkerOf 93 = .ok (.ireturn, 1) := dq_172 (dq_w dwm_199 13 rfl)
theorem dX6_walkerOf_94 : decode cX6_walkerOf 94 = .ok (.aload_n 0, 1) := dq_42 (dq_w dwm_199 14 rfl)
theorem dX6_walkerOf_95 : decode cX6_walkerOf 95 = .ok (.getfield 28, 3) := dq_180 (dq_w dwm_199 15 rfl) (dq_w dwm_200 0 rfl) (dq_w dwm_200 1 rfl) rfl
theorem dX6_walkerOf_98 : decode cX6_walkerOf 98 = .ok (.iload_n 1, 1) := dq_27 (dq_w dwm_200 2 rfl)
theorem dX6_walkerOf_99 : decode cX6_walkerOf 99 = .ok (.iaload, 1) := dq_46 (dq_w dwm_200 3 rfl)
theorem dX6_walkerOf_100 : decode cX6_walkerOf 100 = .ok (.ireturn, 1) := dq_172 (dq_w dwm_200 4 rfl)
theorem dX6_walkerOf_101 : decode cX6_walkerOf 101 = .ok (.aload_n 0, 1) := dq_42 (dq_w dwm_200 5 rfl)
theorem dX6_walkerOf_102 : decode cX6_walkerOf 102 = .ok (.iload_n 1, 1) := dq_27 (dq_w dwm_200 6 rfl)
theorem dX6_walkerOf_103 : decode cX6_walkerOf 103 = .ok (.invokevirtual 116, 3) := dq_182 (dq_w dwm_200 7 rfl) (dq_w dwm_200 8 rfl) (dq_w dwm_200 9 rfl) rfl
theorem dX6_walkerOf_106 : decode cX6_walkerOf 106 = .ok (.ireturn, 1) := dq_172 (dq_w dwm_200 10 rfl)
theorem dX6_walkerOf_107 : decode cX6_walkerOf 107 = .ok (.aload_n 0, 1) := dq_42 (dq_w dwm_200 11 rfl)
theorem dX6_walkerOf_108 : decode cX6_walkerOf 108 = .ok (.iload_n 1, 1) := dq_27 (dq_w dwm_200 12 rfl)
theorem dX6_walkerOf_109 : decode cX6_walkerOf 109 = .ok (.aload_n 0, 1) := dq_42 (dq_w dwm_200 13 rfl)
theorem dX6_walkerOf_110 : decode cX6_walkerOf 110 = .ok (.getfield 22, 3) := dq_180 (dq_w dwm_200 14 rfl) (dq_w dwm_200 15 rfl) (dq_w dwm_201 0 rfl) rfl
theorem dX6_walkerOf_113 : decode cX6_walkerOf 113 = .ok (.iload_n 1, 1) := dq_27 (dq_w dwm_201 1 rfl)
theorem dX6_walkerOf_114 : decode cX6_walkerOf 114 = .ok (.iaload, 1) := dq_46 (dq_w dwm_201 2 rfl)
theorem dX6_walkerOf_115 : decode cX6_walkerOf 115 = .ok (.invokevirtual 128, 3) := dq_182 (dq_w dwm_201 3 rfl) (dq_w dwm_201 4 rfl) (dq_w dwm_201 5 rfl) rfl
theorem dX6_walkerOf_118 : decode cX6_walkerOf 118 = .ok (.ireturn, 1) := dq_172 (dq_w dwm_201 6 rfl)
theorem dX6_walkerOf_119 : decode cX6_walkerOf 119 = .ok (.aload_n 0, 1) := dq_42 (dq_w dwm_201 7 rfl)
theorem dX6_walkerOf_120 : decode cX6_walkerOf 120 = .ok (.iload_n 1, 1) := dq_27 (dq_w dwm_201 8 rfl)
theorem dX6_walkerOf_121 : decode cX6_walkerOf 121 = .ok (.invokevirtual 113, 3) := dq_182 (dq_w dwm_201 9 rfl) (dq_w dwm_201 10 rfl) (dq_w dwm_201 11 rfl) rfl
theorem dX6_walkerOf_124 : decode cX6_walkerOf 124 = .ok (.ireturn, 1) := dq_172 (dq_w dwm_201 12 rfl)
theorem dwm_202 : (cX6_wrongBoth.data.toList.drop 0).take 16 = [42, 27, 182, 0, 184, 153, 0, 15, 42, 28, 182, 0, 181, 153, 0, 7] := by decide +kernel
theorem dwm_203 : (cX6_wrongBoth.data.toList.drop 16).take 16 = [3, 167, 0, 4, 2, 172] := by decide +kernel
theorem dX6_wrongBoth_0 : decode cX6_wrongBoth 0 = .ok (.aload_n 0, 1) := dq_42 (dq_w dwm_202 0 rfl)
theorem dX6_wrongBoth_1 : decode cX6_wrongBoth 1 = .ok (.iload_n 1, 1) := dq_27 (dq_w dwm_202 1 rfl)
theorem dX6_wrongBoth_2 : decode cX6_wrongBoth 2 = .ok (.invokevirtual 184, 3) := dq_182 (dq_w dwm_202 2 rfl) (dq_w dwm_202 3 rfl) (dq_w dwm_202 4 rfl) rfl
theorem dX6_wrongBoth_5 : decode cX6_wrongBoth 5 = .ok (.ifCond .eq 15, 3) := dq_153 (dq_w dwm_202 5 rfl) (dq_w dwm_202 6 rfl) (dq_w dwm_202 7 rfl) (dq_p (n := 15) rfl rfl)
theorem dX6_wrongBoth_8 : decode cX6_wrongBoth 8 = .ok (.aload_n 0, 1) := dq_42 (dq_w dwm_202 8 rfl)
theorem dX6_wrongBoth_9 : decode cX6_wrongBoth 9 = .ok (.iload_n 2, 1) := dq_28 (dq_w dwm_202 9 rfl)
theorem dX6_wrongBoth_10 : decode cX6_wrongBoth 10 = .ok (.invokevirtual 181, 3) := dq_182 (dq_w dwm_202 10 rfl) (dq_w dwm_202 11 rfl) (dq_w dwm_202 12 rfl) rfl
theorem dX6_wrongBoth_13 : decode cX6_wrongBoth 13 = .ok (.ifCond .eq 7, 3) := dq_153 (dq_w dwm_202 13 rfl) (dq_w dwm_202 14 rfl) (dq_w dwm_202 15 rfl) (dq_p (n := 7) rfl rfl)
theorem dX6_wrongBoth_16 : decode cX6_wrongBoth 16 = .ok (.iconst 0, 1) := dq_3 (dq_w dwm_203 0 rfl)
theorem dX6_wrongBoth_17 : decode cX6_wrongBoth 17 = .ok (.goto 4, 3) := dq_167 (dq_w dwm_203 1 rfl) (dq_w dwm_203 2 rfl) (dq_w dwm_203 3 rfl) (dq_p (n := 4) rfl rfl)
theorem dX6_wrongBoth_20 : decode cX6_wrongBoth 20 = .ok (.iconst (-1), 1) := dq_2 (dq_w dwm_203 4 rfl)
theorem dX6_wrongBoth_21 : decode cX6_wrongBoth 21 = .ok (.ireturn, 1) := dq_172 (dq_w dwm_203 5 rfl)
theorem dwm_204 : (cX6_age.data.toList.drop 0).take 16 = [42, 3, 181, 0, 79, 42, 27, 28, 182, 0, 237, 156, 0, 9, 42, 2] := by decide +kernel
theorem dwm_205 : (cX6_age.data.toList.drop 16).take 16 = [182, 0, 143, 172, 42, 180, 0, 31, 16, 7, 27, 104, 28, 96, 46, 62] := by decide +kernel
theorem dwm_206 : (cX6_age.data.toList.drop 32).take 16 = [29, 154, 0, 8, 16, 247, 167, 0, 6, 29, 4, 100, 172] := by decide +kernel
theorem dX6_age_0 : decode cX6_age 0 = .ok (.aload_n 0, 1) := dq_42 (dq_w dwm_204 0 rfl)
theorem dX6_age_1 : decode cX6_age 1 = .ok (.iconst 0, 1) := dq_3 (dq_w dwm_204 1 rfl)
theorem dX6_age_2 : decode cX6_age 2 = .ok (.putfield 79, 3) := dq_181 (dq_w dwm_204 2 rfl) (dq_w dwm_204 3 rfl) (dq_w dwm_204 4 rfl) rfl
theorem dX6_age_5 : decode cX6_age 5 = .ok (.aload_n 0, 1) := dq_42 (dq_w dwm_204 5 rfl)
theorem dX6_age_6 : decode cX6_age 6 = .ok (.iload_n 1, 1) := dq_27 (dq_w dwm_204 6 rfl)
theorem dX6_age_7 : decode cX6_age 7 = .ok (.iload_n 2, 1) := dq_28 (dq_w dwm_204 7 rfl)
theorem dX6_age_8 : decode cX6_age 8 = .ok (.invokevirtual 237, 3) := dq_182 (dq_w dwm_204 8 rfl) (dq_w dwm_204 9 rfl) (dq_w dwm_204 10 rfl) rfl
theorem dX6_age_11 : decode cX6_age 11 = .ok (.ifCond .ge 9, 3) := dq_156 (dq_w dwm_204 11 rfl) (dq_w dwm_204 12 rfl) (dq_w dwm_204 13 rfl) (dq_p (n := 9) rfl rfl)
theorem dX6_age_14 : decode cX6_age 14 = .ok (.aload_n 0, 1) := dq_42 (dq_w dwm_204 14 rfl)
theorem dX6_age_15 : decode cX6_age 15 = .ok (.iconst (-1), 1) := dq_2 (dq_w dwm_204 15 rfl)
theorem dX6_age_16 : decode cX6_age 16 = .ok (.invokevirtual 143, 3) := dq_182 (dq_w dwm_205 0 rfl) (dq_w dwm_205 1 rfl) (dq_w dwm_205 2 rfl) rfl
theorem dX6_age_19 : decode cX6_age 19 = .ok (.ireturn, 1) := dq_172 (dq_w dwm_205 3 rfl)
theorem dX6_age_20 : decode cX6_age 20 = .ok (.aload_n 0, 1) := dq_42 (dq_w dwm_205 4 rfl)
theorem dX6_age_21 : decode cX6_age 21 = .ok (.getfield 31, 3) := dq_180 (dq_w dwm_205 5 rfl) (dq_w dwm_205 6 rfl) (dq_w dwm_205 7 rfl) rfl
theorem dX6_age_24 : decode cX6_age 24 = .ok (.bipush 7, 2) := dq_16 (dq_w dwm_205 8 rfl) (dq_w dwm_205 9 rfl) rfl
theorem dX6_age_26 : decode cX6_age 26 = .ok (.iload_n 1, 1) := dq_27 (dq_w dwm_205 10 rfl)
theorem dX6_age_27 : decode cX6_age 27 = .ok (.imul, 1) := dq_104 (dq_w dwm_205 11 rfl)
theorem dX6_age_28 : decode cX6_age 28 = .ok (.iload_n 2, 1) := dq_28 (dq_w dwm_205 12 rfl)
theorem dX6_age_29 : decode cX6_age 29 = .ok (.iadd, 1) := dq_96 (dq_w dwm_205 13 rfl)
theorem dX6_age_30 : decode cX6_age 30 = .ok (.iaload, 1) := dq_46 (dq_w dwm_205 14 rfl)
theorem dX6_age_31 : decode cX6_age 31 = .ok (.istore_n 3, 1) := dq_62 (dq_w dwm_205 15 rfl)
theorem dX6_age_32 : decode cX6_age 32 = .ok (.iload_n 3, 1) := dq_29 (dq_w dwm_206 0 rfl)
theorem dX6_age_33 : decode cX6_age 33 = .ok (.ifCond .ne 8, 3) := dq_154 (dq_w dwm_206 1 rfl) (dq_w dwm_206 2 rfl) (dq_w dwm_206 3 rfl) (dq_p (n := 8) rfl rfl)
theorem dX6_age_36 : decode cX6_age 36 = .ok (.bipush (-9), 2) := dq_16 (dq_w dwm_206 4 rfl) (dq_w dwm_206 5 rfl) rfl
theorem dX6_age_38 : decode cX6_age 38 = .ok (.goto 6, 3) := dq_167 (dq_w dwm_206 6 rfl) (dq_w dwm_206 7 rfl) (dq_w dwm_206 8 rfl) (dq_p (n := 6) rfl rfl)
theorem dX6_age_41 : decode cX6_age 41 = .ok (.iload_n 3, 1) := dq_29 (dq_w dwm_206 9 rfl)
theorem dX6_age_42 : decode cX6_age 42 = .ok (.iconst 1, 1) := dq_4 (dq_w dwm_206 10 rfl)
theorem dX6_age_43 : decode cX6_age 43 = .ok (.isub, 1) := dq_100 (dq_w dwm_206 11 rfl)
theorem dX6_age_44 : decode cX6_age 44 = .ok (.ireturn, 1) := dq_172 (dq_w dwm_206 12 rfl)
theorem dwm_207 : (cX6_house.data.toList.drop 0).take 16 = [42, 3, 181, 0, 79, 27, 133, 9, 20, 0, 235, 184, 0, 85, 153, 0] := by decide +kernel
theorem dwm_208 : (cX6_house.data.toList.drop 16).take 16 = [13, 28, 3, 16, 9, 184, 0, 240, 167, 0, 5, 16, 254, 54, 4, 21] := by decide +kernel
theorem dwm_209 : (cX6_house.data.toList.drop 32).take 16 = [4, 154, 0, 17, 42, 180, 0, 89, 16, 7, 160, 0, 8, 16, 250, 167] := by decide +kernel
theorem dwm_210 : (cX6_house.data.toList.drop 48).take 16 = [0, 5, 21, 4, 54, 4, 21, 4, 154, 0, 14, 29, 184, 0, 139, 154] := by decide +kernel
theorem dwm_211 : (cX6_house.data.toList.drop 64).take 16 = [0, 7, 2, 167, 0, 5, 21, 4, 54, 4, 21, 4, 156, 0, 10, 42] := by decide +kernel
theorem dwm_212 : (cX6_house.data.toList.drop 80).take 16 = [21, 4, 182, 0, 143, 172, 42, 27, 28, 29, 182, 0, 175, 87, 42, 3] := by decide +kernel
theorem dwm_213 : (cX6_house.data.toList.drop 96).take 16 = [181, 0, 205, 42, 180, 0, 89, 4, 100, 172] := by decide +kernel
theorem dX6_house_0 : decode cX6_house 0 = .ok (.aload_n 0, 1) := dq_42 (dq_w dwm_207 0 rfl)
theorem dX6_house_1 : decode cX6_house 1 = .ok (.iconst 0, 1) := dq_3 (dq_w dwm_207 1 rfl)
theorem dX6_house_2 : decode cX6_house 2 = .ok (.putfield 79, 3) := dq_181 (dq_w dwm_207 2 rfl) (dq_w dwm_207 3 rfl) (dq_w dwm_207 4 rfl) rfl
theorem dX6_house_5 : decode cX6_house 5 = .ok (.iload_n 1, 1) := dq_27 (dq_w dwm_207 5 rfl)
theorem dX6_house_6 : decode cX6_house 6 = .ok (.i2l, 1) := dq_133 (dq_w dwm_207 6 rfl)
theorem dX6_house_7 : decode cX6_house 7 = .ok (.lconst 0, 1) := dq_9 (dq_w dwm_207 7 rfl)
theorem dX6_house_8 : decode cX6_house 8 = .ok (.ldc2_w 235, 3) := dq_20 (dq_w dwm_207 8 rfl) (dq_w dwm_207 9 rfl) (dq_w dwm_207 10 rfl) rfl
theorem dX6_house_11 : decode cX6_house 11 = .ok (.invokestatic 85, 3) := dq_184 (dq_w dwm_207 11 rfl) (dq_w dwm_207 12 rfl) (dq_w dwm_207 13 rfl) rfl
theorem dX6_house_14 : decode cX6_house 14 = .ok (.ifCond .eq 13, 3) := dq_153 (dq_w dwm_207 14 rfl) (dq_w dwm_207 15 rfl) (dq_w dwm_208 0 rfl) (dq_p (n := 13) rfl rfl)
theorem dX6_house_17 : decode cX6_house 17 = .ok (.iload_n 2, 1) := dq_28 (dq_w dwm_208 1 rfl)
theorem dX6_house_18 : decode cX6_house 18 = .ok (.iconst 0, 1) := dq_3 (dq_w dwm_208 2 rfl)
theorem dX6_house_19 : decode cX6_house 19 = .ok (.bipush 9, 2) := dq_16 (dq_w dwm_208 3 rfl) (dq_w dwm_208 4 rfl) rfl
theorem dX6_house_21 : decode cX6_house 21 = .ok (.invokestatic 240, 3) := dq_184 (dq_w dwm_208 5 rfl) (dq_w dwm_208 6 rfl) (dq_w dwm_208 7 rfl) rfl
theorem dX6_house_24 : decode cX6_house 24 = .ok (.goto 5, 3) := dq_167 (dq_w dwm_208 8 rfl) (dq_w dwm_208 9 rfl) (dq_w dwm_208 10 rfl) (dq_p (n := 5) rfl rfl)
theorem dX6_house_27 : decode cX6_house 27 = .ok (.bipush (-2), 2) := dq_16 (dq_w dwm_208 11 rfl) (dq_w dwm_208 12 rfl) rfl
theorem dX6_house_29 : decode cX6_house 29 = .ok (.istore 4, 2) := dq_54 (dq_w dwm_208 13 rfl) (dq_w dwm_208 14 rfl) rfl
theorem dX6_house_31 : decode cX6_house 31 = .ok (.iload 4, 2) := dq_21 (dq_w dwm_208 15 rfl) (dq_w dwm_209 0 rfl) rfl
theorem dX6_house_33 : decode cX6_house 33 = .ok (.ifCond .ne 17, 3) := dq_154 (dq_w dwm_209 1 rfl) (dq_w dwm_209 2 rfl) (dq_w dwm_209 3 rfl) (dq_p (n := 17) rfl rfl)
theorem dX6_house_36 : decode cX6_house 36 = .ok (.aload_n 0, 1) := dq_42 (dq_w dwm_209 4 rfl)
theorem dX6_house_37 : decode cX6_house 37 = .ok (.getfield 89, 3) := dq_180 (dq_w dwm_209 5 rfl) (dq_w dwm_209 6 rfl) (dq_w dwm_209 7 rfl) rfl
theorem dX6_house_40 : decode cX6_house 40 = .ok (.bipush 7, 2) := dq_16 (dq_w dwm_209 8 rfl) (dq_w dwm_209 9 rfl) rfl
theorem dX6_house_42 : decode cX6_house 42 = .ok (.if_icmp .ne 8, 3) := dq_160 (dq_w dwm_209 10 rfl) (dq_w dwm_209 11 rfl) (dq_w dwm_209 12 rfl) (dq_p (n := 8) rfl rfl)
theorem dX6_house_45 : decode cX6_house 45 = .ok (.bipush (-6), 2) := dq_16 (dq_w dwm_209 13 rfl) (dq_w dwm_209 14 rfl) rfl
theorem dX6_house_47 : decode cX6_house 47 = .ok (.goto 5, 3) := dq_167 (dq_w dwm_209 15 rfl) (dq_w dwm_210 0 rfl) (dq_w dwm_210 1 rfl) (dq_p (n := 5) rfl rfl)
theorem dX6_house_50 : decode cX6_house 50 = .ok (.iload 4, 2) := dq_21 (dq_w dwm_210 2 rfl) (dq_w dwm_210 3 rfl) rfl
theorem dX6_house_52 : decode cX6_house 52 = .ok (.istore 4, 2) := dq_54 (dq_w dwm_210 4 rfl) (dq_w dwm_210 5 rfl) rfl
theorem dX6_house_54 : decode cX6_house 54 = .ok (.iload 4, 2) := dq_21 (dq_w dwm_210 6 rfl) (dq_w dwm_210 7 rfl) rfl
theorem dX6_house_56 : decode cX6_house 56 = .ok (.ifCond .ne 14, 3) := dq_154 (dq_w dwm_210 8 rfl) (dq_w dwm_210 9 rfl) (dq_w dwm_210 10 rfl) (dq_p (n := 14) rfl rfl)
theorem dX6_house_59 : decode cX6_house 59 = .ok (.iload_n 3, 1) := dq_29 (dq_w dwm_210 11 rfl)
theorem dX6_house_60 : decode cX6_house 60 = .ok (.invokestatic 139, 3) := dq_184 (dq_w dwm_210 12 rfl) (dq_w dwm_210 13 rfl) (dq_w dwm_210 14 rfl) rfl
theorem dX6_house_63 : decode cX6_house 63 = .ok (.ifCond .ne 7, 3) := dq_154 (dq_w dwm_210 15 rfl) (dq_w dwm_211 0 rfl) (dq_w dwm_211 1 rfl) (dq_p (n := 7) rfl rfl)
theorem dX6_house_66 : decode cX6_house 66 = .ok (.iconst (-1), 1) := dq_2 (dq_w dwm_211 2 rfl)
theorem dX6_house_67 : decode cX6_house 67 = .ok (.goto 5, 3) := dq_167 (dq_w dwm_211 3 rfl) (dq_w dwm_211 4 rfl) (dq_w dwm_211 5 rfl) (dq_p (n := 5) rfl rfl)
theorem dX6_house_70 : decode cX6_house 70 = .ok (.iload 4, 2) := dq_21 (dq_w dwm_211 6 rfl) (dq_w dwm_211 7 rfl) rfl
theorem dX6_house_72 : decode cX6_house 72 = .ok (.istore 4, 2) := dq_54 (dq_w dwm_211 8 rfl) (dq_w dwm_211 9 rfl) rfl
theorem dX6_house_74 : decode cX6_house 74 = .ok (.iload 4, 2) := dq_21 (dq_w dwm_211 10 rfl) (dq_w dwm_211 11 rfl) rfl
theorem dX6_house_76 : decode cX6_house 76 = .ok (.ifCond .ge 10, 3) := dq_156 (dq_w dwm_211 12 rfl) (dq_w dwm_211 13 rfl) (dq_w dwm_211 14 rfl) (dq_p (n := 10) rfl rfl)
theorem dX6_house_79 : decode cX6_house 79 = .ok (.aload_n 0, 1) := dq_42 (dq_w dwm_211 15 rfl)
theorem dX6_house_80 : decode cX6_house 80 = .ok (.iload 4, 2) := dq_21 (dq_w dwm_212 0 rfl) (dq_w dwm_212 1 rfl) rfl
theorem dX6_house_82 : decode cX6_house 82 = .ok (.invokevirtual 143, 3) := dq_182 (dq_w dwm_212 2 rfl) (dq_w dwm_212 3 rfl) (dq_w dwm_212 4 rfl) rfl
theorem dX6_house_85 : decode cX6_house 85 = .ok (.ireturn, 1) := dq_172 (dq_w dwm_212 5 rfl)
theorem dX6_house_86 : decode cX6_house 86 = .ok (.aload_n 0, 1) := dq_42 (dq_w dwm_212 6 rfl)
theorem dX6_house_87 : decode cX6_house 87 = .ok (.iload_n 1, 1) := dq_27 (dq_w dwm_212 7 rfl)
theorem dX6_house_88 : decode cX6_house 88 = .ok (.iload_n 2, 1) := dq_28 (dq_w dwm_212 8 rfl)
theorem dX6_house_89 : decode cX6_house 89 = .ok (.iload_n 3, 1) := dq_29 (dq_w dwm_212 9 rfl)
theorem dX6_house_90 : decode cX6_house 90 = .ok (.invokevirtual 175, 3) := dq_182 (dq_w dwm_212 10 rfl) (dq_w dwm_212 11 rfl) (dq_w dwm_212 12 rfl) rfl
theorem dX6_house_93 : decode cX6_house 93 = .ok (.pop, 1) := dq_87 (dq_w dwm_212 13 rfl)
theorem dX6_house_94 : decode cX6_house 94 = .ok (.aload_n 0, 1) := dq_42 (dq_w dwm_212 14 rfl)
theorem dX6_house_95 : decode cX6_house 95 = .ok (.iconst 0, 1) := dq_3 (dq_w dwm_212 15 rfl)
theorem dX6_house_96 : decode cX6_house 96 = .ok (.putfield 205, 3) := dq_181 (dq_w dwm_213 0 rfl) (dq_w dwm_213 1 rfl) (dq_w dwm_213 2 rfl) rfl
theorem dX6_house_99 : decode cX6_house 99 = .ok (.aload_n 0, 1) := dq_42 (dq_w dwm_213 3 rfl)
theorem dX6_house_100 : decode cX6_house 100 = .ok (.getfield 89, 3) := dq_180 (dq_w dwm_213 4 rfl) (dq_w dwm_213 5 rfl) (dq_w dwm_213 6 rfl) rfl
theorem dX6_house_103 : decode cX6_house 103 = .ok (.iconst 1, 1) := dq_4 (dq_w dwm_213 7 rfl)
theorem dX6_house_104 : decode cX6_house 104 = .ok (.isub, 1) := dq_100 (dq_w dwm_213 8 rfl)
theorem dX6_house_105 : decode cX6_house 105 = .ok (.ireturn, 1) := dq_172 (dq_w dwm_213 9 rfl)
theorem dwm_214 : (cX6_walker.data.toList.drop 0).take 16 = [42, 3, 181, 0, 79, 27, 184, 0, 139, 153, 0, 19, 28, 184, 0, 139] := by decide +kernel
theorem dwm_215 : (cX6_walker.data.toList.drop 16).take 16 = [153, 0, 12, 29, 3, 5, 184, 0, 240, 167, 0, 4, 2, 54, 4, 21] := by decide +kernel
theorem dwm_216 : (cX6_walker.data.toList.drop 32).take 16 = [4, 154, 0, 17, 42, 180, 0, 92, 16, 6, 160, 0, 8, 16, 250, 167] := by decide +kernel
theorem dwm_217 : (cX6_walker.data.toList.drop 48).take 16 = [0, 5, 21, 4, 54, 4, 21, 4, 156, 0, 10, 42, 21, 4, 182, 0] := by decide +kernel
theorem dwm_218 : (cX6_walker.data.toList.drop 64).take 16 = [143, 172, 42, 27, 28, 29, 182, 0, 178, 87, 42, 3, 181, 0, 205, 42] := by decide +kernel
theorem dwm_219 : (cX6_walker.data.toList.drop 80).take 16 = [180, 0, 92, 4, 100, 172] := by decide +kernel
theorem dX6_walker_0 : decode cX6_walker 0 = .ok (.aload_n 0, 1) := dq_42 (dq_w dwm_214 0 rfl)
theorem dX6_walker_1 : decode cX6_walker 1 = .ok (.iconst 0, 1) := dq_3 (dq_w dwm_214 1 rfl)
theorem dX6_walker_2 : decode cX6_walker 2 = .ok (.putfield 79, 3) := dq_181 (dq_w dwm_214 2 rfl) (dq_w dwm_214 3 rfl) (dq_w dwm_214 4 rfl) rfl
theorem dX6_walker_5 : decode cX6_walker 5 = .ok (.iload_n 1, 1) := dq_27 (dq_w dwm_214 5 rfl)
theorem dX6_walker_6 : decode cX6_walker 6 = .ok (.invokestatic 139, 3) := dq_184 (dq_w dwm_214 6 rfl) (dq_w dwm_214 7 rfl) (dq_w dwm_214 8 rfl) rfl
theorem dX6_walker_9 : decode cX6_walker 9 = .ok (.ifCond .eq 19, 3) := dq_153 (dq_w dwm_214 9 rfl) (dq_w dwm_214 10 rfl) (dq_w dwm_214 11 rfl) (dq_p (n := 19) rfl rfl)
theorem dX6_walker_12 : decode cX6_walker 12 = .ok (.iload_n 2, 1) := dq_28 (dq_w dwm_214 12 rfl)
theorem dX6_walker_13 : decode cX6_walker 13 = .ok (.invokestatic 139, 3) := dq_184 (dq_w dwm_214 13 rfl) (dq_w dwm_214 14 rfl) (dq_w dwm_214 15 rfl) rfl
theorem dX6_walker_16 : decode cX6_walker 16 = .ok (.ifCond .eq 12, 3) := dq_153 (dq_w dwm_215 0 rfl) (dq_w dwm_215 1 rfl) (dq_w dwm_215 2 rfl) (dq_p (n := 12) rfl rfl)
theorem dX6_walker_19 : decode cX6_walker 19 = .ok (.iload_n 3, 1) := dq_29 (dq_w dwm_215 3 rfl)
theorem dX6_walker_20 : decode cX6_walker 20 = .ok (.iconst 0, 1) := dq_3 (dq_w dwm_215 4 rfl)
theorem dX6_walker_21 : decode cX6_walker 21 = .ok (.iconst 2, 1) := dq_5 (dq_w dwm_215 5 rfl)
theorem dX6_walker_22 : decode cX6_walker 22 = .ok (.invokestatic 240, 3) := dq_184 (dq_w dwm_215 6 rfl) (dq_w dwm_215 7 rfl) (dq_w dwm_215 8 rfl) rfl
theorem dX6_walker_25 : decode cX6_walker 25 = .ok (.goto 4, 3) := dq_167 (dq_w dwm_215 9 rfl) (dq_w dwm_215 10 rfl) (dq_w dwm_215 11 rfl) (dq_p (n := 4) rfl rfl)
theorem dX6_walker_28 : decode cX6_walker 28 = .ok (.iconst (-1), 1) := dq_2 (dq_w dwm_215 12 rfl)
theorem dX6_walker_29 : decode cX6_walker 29 = .ok (.istore 4, 2) := dq_54 (dq_w dwm_215 13 rfl) (dq_w dwm_215 14 rfl) rfl
theorem dX6_walker_31 : decode cX6_walker 31 = .ok (.iload 4, 2) := dq_21 (dq_w dwm_215 15 rfl) (dq_w dwm_216 0 rfl) rfl
theorem dX6_walker_33 : decode cX6_walker 33 = .ok (.ifCond .ne 17, 3) := dq_154 (dq_w dwm_216 1 rfl) (dq_w dwm_216 2 rfl) (dq_w dwm_216 3 rfl) (dq_p (n := 17) rfl rfl)
theorem dX6_walker_36 : decode cX6_walker 36 = .ok (.aload_n 0, 1) := dq_42 (dq_w dwm_216 4 rfl)
theorem dX6_walker_37 : decode cX6_walker 37 = .ok (.getfield 92, 3) := dq_180 (dq_w dwm_216 5 rfl) (dq_w dwm_216 6 rfl) (dq_w dwm_216 7 rfl) rfl
theorem dX6_walker_40 : decode cX6_walker 40 = .ok (.bipush 6, 2) := dq_16 (dq_w dwm_216 8 rfl) (dq_w dwm_216 9 rfl) rfl
theorem dX6_walker_42 : decode cX6_walker 42 = .ok (.if_icmp .ne 8, 3) := dq_160 (dq_w dwm_216 10 rfl) (dq_w dwm_216 11 rfl) (dq_w dwm_216 12 rfl) (dq_p (n := 8) rfl rfl)
theorem dX6_walker_45 : decode cX6_walker 45 = .ok (.bipush (-6), 2) := dq_16 (dq_w dwm_216 13 rfl) (dq_w dwm_216 14 rfl) rfl
theorem dX6_walker_47 : decode cX6_walker 47 = .ok (.goto 5, 3) := dq_167 (dq_w dwm_216 15 rfl) (dq_w dwm_217 0 rfl) (dq_w dwm_217 1 rfl) (dq_p (n := 5) rfl rfl)
theorem dX6_walker_50 : decode cX6_walker 50 = .ok (.iload 4, 2) := dq_21 (dq_w dwm_217 2 rfl) (dq_w dwm_217 3 rfl) rfl
theorem dX6_walker_52 : decode cX6_walker 52 = .ok (.istore 4, 2) := dq_54 (dq_w dwm_217 4 rfl) (dq_w dwm_217 5 rfl) rfl
theorem dX6_walker_54 : decode cX6_walker 54 = .ok (.iload 4, 2) := dq_21 (dq_w dwm_217 6 rfl) (dq_w dwm_217 7 rfl) rfl
theorem dX6_walker_56 : decode cX6_walker 56 = .ok (.ifCond .ge 10, 3) := dq_156 (dq_w dwm_217 8 rfl) (dq_w dwm_217 9 rfl) (dq_w dwm_217 10 rfl) (dq_p (n := 10) rfl rfl)
theorem dX6_walker_59 : decode cX6_walker 59 = .ok (.aload_n 0, 1) := dq_42 (dq_w dwm_217 11 rfl)
theorem dX6_walker_60 : decode cX6_walker 60 = .ok (.iload 4, 2) := dq_21 (dq_w dwm_217 12 rfl) (dq_w dwm_217 13 rfl) rfl
theorem dX6_walker_62 : decode cX6_walker 62 = .ok (.invokevirtual 143, 3) := dq_182 (dq_w dwm_217 14 rfl) (dq_w dwm_217 15 rfl) (dq_w dwm_218 0 rfl) rfl
theorem dX6_walker_65 : decode cX6_walker 65 = .ok (.ireturn, 1) := dq_172 (dq_w dwm_218 1 rfl)
theorem dX6_walker_66 : decode cX6_walker 66 = .ok (.aload_n 0, 1) := dq_42 (dq_w dwm_218 2 rfl)
theorem dX6_walker_67 : decode cX6_walker 67 = .ok (.iload_n 1, 1) := dq_27 (dq_w dwm_218 3 rfl)
theorem dX6_walker_68 : decode cX6_walker 68 = .ok (.iload_n 2, 1) := dq_28 (dq_w dwm_218 4 rfl)
theorem dX6_walker_69 : decode cX6_walker 69 = .ok (.iload_n 3, 1) := dq_29 (dq_w dwm_218 5 rfl)
theorem dX6_walker_70 : decode cX6_walker 70 = .ok (.invokevirtual 178, 3) := dq_182 (dq_w dwm_218 6 rfl) (dq_w dwm_218 7 rfl) (dq_w dwm_218 8 rfl) rfl
theorem dX6_walker_73 : decode cX6_walker 73 = .ok (.pop, 1) := dq_87 (dq_w dwm_218 9 rfl)
theorem dX6_walker_74 : decode cX6_walker 74 = .ok (.aload_n 0, 1) := dq_42 (dq_w dwm_218 10 rfl)
theorem dX6_walker_75 : decode cX6_walker 75 = .ok (.iconst 0, 1) := dq_3 (dq_w dwm_218 11 rfl)
theorem dX6_walker_76 : decode cX6_walker 76 = .ok (.putfield 205, 3) := dq_181 (dq_w dwm_218 12 rfl) (dq_w dwm_218 13 rfl) (dq_w dwm_218 14 rfl) rfl
theorem dX6_walker_79 : decode cX6_walker 79 = .ok (.aload_n 0, 1) := dq_42 (dq_w dwm_218 15 rfl)
theorem dX6_walker_80 : decode cX6_walker 80 = .ok (.getfield 92, 3) := dq_180 (dq_w dwm_219 0 rfl) (dq_w dwm_219 1 rfl) (dq_w dwm_219 2 rfl) rfl
theorem dX6_walker_83 : decode cX6_walker 83 = .ok (.iconst 1, 1) := dq_4 (dq_w dwm_219 3 rfl)
theorem dX6_walker_84 : decode cX6_walker 84 = .ok (.isub, 1) := dq_100 (dq_w dwm_219 4 rfl)
theorem dX6_walker_85 : decode cX6_walker 85 = .ok (.ireturn, 1) := dq_172 (dq_w dwm_219 5 rfl)
theorem dwm_220 : (cX6_lights.data.toList.drop 0).take 16 = [42, 3, 181, 0, 79, 42, 27, 182, 0, 181, 154, 0, 9, 42, 2, 182] := by decide +kernel
theorem dwm_221 : (cX6_lights.data.toList.drop 16).take 16 = [0, 143, 172, 42, 182, 0, 244, 42, 180, 0, 19, 27, 4, 42, 180, 0] := by decide +kernel
theorem dwm_222 : (cX6_lights.data.toList.drop 32).take 16 = [19, 27, 46, 100, 79, 42, 180, 0, 19, 27, 46, 172] := by decide +kernel
theorem dX6_lights_0 : decode cX6_lights 0 = .ok (.aload_n 0, 1) := dq_42 (dq_w dwm_220 0 rfl)
theorem dX6_lights_1 : decode cX6_lights 1 = .ok (.iconst 0, 1) := dq_3 (dq_w dwm_220 1 rfl)
theorem dX6_lights_2 : decode cX6_lights 2 = .ok (.putfield 79, 3) := dq_181 (dq_w dwm_220 2 rfl) (dq_w dwm_220 3 rfl) (dq_w dwm_220 4 rfl) rfl
theorem dX6_lights_5 : decode cX6_lights 5 = .ok (.aload_n 0, 1) := dq_42 (dq_w dwm_220 5 rfl)
theorem dX6_lights_6 : decode cX6_lights 6 = .ok (.iload_n 1, 1) := dq_27 (dq_w dwm_220 6 rfl)
theorem dX6_lights_7 : decode cX6_lights 7 = .ok (.invokevirtual 181, 3) := dq_182 (dq_w dwm_220 7 rfl) (dq_w dwm_220 8 rfl) (dq_w dwm_220 9 rfl) rfl
theorem dX6_lights_10 : decode cX6_lights 10 = .ok (.ifCond .ne 9, 3) := dq_154 (dq_w dwm_220 10 rfl) (dq_w dwm_220 11 rfl) (dq_w dwm_220 12 rfl) (dq_p (n := 9) rfl rfl)
theorem dX6_lights_13 : decode cX6_lights 13 = .ok (.aload_n 0, 1) := dq_42 (dq_w dwm_220 13 rfl)
theorem dX6_lights_14 : decode cX6_lights 14 = .ok (.iconst (-1), 1) := dq_2 (dq_w dwm_220 14 rfl)
theorem dX6_lights_15 : decode cX6_lights 15 = .ok (.invokevirtual 143, 3) := dq_182 (dq_w dwm_220 15 rfl) (dq_w dwm_221 0 rfl) (dq_w dwm_221 1 rfl) rfl
theorem dX6_lights_18 : decode cX6_lights 18 = .ok (.ireturn, 1) := dq_172 (dq_w dwm_221 2 rfl)
theorem dX6_lights_19 : decode cX6_lights 19 = .ok (.aload_n 0, 1) := dq_42 (dq_w dwm_221 3 rfl)
theorem dX6_lights_20 : decode cX6_lights 20 = .ok (.invokevirtual 244, 3) := dq_182 (dq_w dwm_221 4 rfl) (dq_w dwm_221 5 rfl) (dq_w dwm_221 6 rfl) rfl
theorem dX6_lights_23 : decode cX6_lights 23 = .ok (.aload_n 0, 1) := dq_42 (dq_w dwm_221 7 rfl)
theorem dX6_lights_24 : decode cX6_lights 24 = .ok (.getfield 19, 3) := dq_180 (dq_w dwm_221 8 rfl) (dq_w dwm_221 9 rfl) (dq_w dwm_221 10 rfl) rfl
theorem dX6_lights_27 : decode cX6_lights 27 = .ok (.iload_n 1, 1) := dq_27 (dq_w dwm_221 11 rfl)
theorem dX6_lights_28 : decode cX6_lights 28 = .ok (.iconst 1, 1) := dq_4 (dq_w dwm_221 12 rfl)
theorem dX6_lights_29 : decode cX6_lights 29 = .ok (.aload_n 0, 1) := dq_42 (dq_w dwm_221 13 rfl)
theorem dX6_lights_30 : decode cX6_lights 30 = .ok (.getfield 19, 3) := dq_180 (dq_w dwm_221 14 rfl) (dq_w dwm_221 15 rfl) (dq_w dwm_222 0 rfl) rfl
theorem dX6_lights_33 : decode cX6_lights 33 = .ok (.iload_n 1, 1) := dq_27 (dq_w dwm_222 1 rfl)
theorem dX6_lights_34 : decode cX6_lights 34 = .ok (.iaload, 1) := dq_46 (dq_w dwm_222 2 rfl)
theorem dX6_lights_35 : decode cX6_lights 35 = .ok (.isub, 1) := dq_100 (dq_w dwm_222 3 rfl)
theorem dX6_lights_36 : decode cX6_lights 36 = .ok (.iastore, 1) := dq_79 (dq_w dwm_222 4 rfl)
theorem dX6_lights_37 : decode cX6_lights 37 = .ok (.aload_n 0, 1) := dq_42 (dq_w dwm_222 5 rfl)
theorem dX6_lights_38 : decode cX6_lights 38 = .ok (.getfield 19, 3) := dq_180 (dq_w dwm_222 6 rfl) (dq_w dwm_222 7 rfl) (dq_w dwm_222 8 rfl) rfl
theorem dX6_lights_41 : decode cX6_lights 41 = .ok (.iload_n 1, 1) := dq_27 (dq_w dwm_222 9 rfl)
theorem dX6_lights_42 : decode cX6_lights 42 = .ok (.iaload, 1) := dq_46 (dq_w dwm_222 10 rfl)
theorem dX6_lights_43 : decode cX6_lights 43 = .ok (.ireturn, 1) := dq_172 (dq_w dwm_222 11 rfl)
theorem dwm_223 : (cX6_goals.data.toList.drop 0).take 16 = [42, 3, 181, 0, 79, 42, 27, 182, 0, 184, 153, 0, 10, 28, 184, 0] := by decide +kernel
theorem dwm_224 : (cX6_goals.data.toList.drop 16).take 16 = [139, 154, 0, 9, 42, 2, 182, 0, 143, 172, 42, 182, 0, 244, 42, 180] := by decide +kernel
theorem dwm_225 : (cX6_goals.data.toList.drop 32).take 16 = [0, 25, 27, 46, 62, 42, 180, 0, 25, 27, 28, 79, 29, 172] := by decide +kernel
theorem dX6_goals_0 : decode cX6_goals 0 = .ok (.aload_n 0, 1) := dq_42 (dq_w dwm_223 0 rfl)
theorem dX6_goals_1 : decode cX6_goals 1 = .ok (.iconst 0, 1) := dq_3 (dq_w dwm_223 1 rfl)
theorem dX6_goals_2 : decode cX6_goals 2 = .ok (.putfield 79, 3) := dq_181 (dq_w dwm_223 2 rfl) (dq_w dwm_223 3 rfl) (dq_w dwm_223 4 rfl) rfl
theorem dX6_goals_5 : decode cX6_goals 5 = .ok (.aload_n 0, 1) := dq_42 (dq_w dwm_223 5 rfl)
theorem dX6_goals_6 : decode cX6_goals 6 = .ok (.iload_n 1, 1) := dq_27 (dq_w dwm_223 6 rfl)
theorem dX6_goals_7 : decode cX6_goals 7 = .ok (.invokevirtual 184, 3) := dq_182 (dq_w dwm_223 7 rfl) (dq_w dwm_223 8 rfl) (dq_w dwm_223 9 rfl) rfl
theorem dX6_goals_10 : decode cX6_goals 10 = .ok (.ifCond .eq 10, 3) := dq_153 (dq_w dwm_223 10 rfl) (dq_w dwm_223 11 rfl) (dq_w dwm_223 12 rfl) (dq_p (n := 10) rfl rfl)
theorem dX6_goals_13 : decode cX6_goals 13 = .ok (.iload_n 2, 1) := dq_28 (dq_w dwm_223 13 rfl)
theorem dX6_goals_14 : decode cX6_goals 14 = .ok (.invokestatic 139, 3) := dq_184 (dq_w dwm_223 14 rfl) (dq_w dwm_223 15 rfl) (dq_w dwm_224 0 rfl) rfl
theorem dX6_goals_17 : decode cX6_goals 17 = .ok (.ifCond .ne 9, 3) := dq_154 (dq_w dwm_224 1 rfl) (dq_w dwm_224 2 rfl) (dq_w dwm_224 3 rfl) (dq_p (n := 9) rfl rfl)
theorem dX6_goals_20 : decode cX6_goals 20 = .ok (.aload_n 0, 1) := dq_42 (dq_w dwm_224 4 rfl)
theorem dX6_goals_21 : decode cX6_goals 21 = .ok (.iconst (-1), 1) := dq_2 (dq_w dwm_224 5 rfl)
theorem dX6_goals_22 : decode cX6_goals 22 = .ok (.invokevirtual 143, 3) := dq_182 (dq_w dwm_224 6 rfl) (dq_w dwm_224 7 rfl) (dq_w dwm_224 8 rfl) rfl
theorem dX6_goals_25 : decode cX6_goals 25 = .ok (.ireturn, 1) := dq_172 (dq_w dwm_224 9 rfl)
theorem dX6_goals_26 : decode cX6_goals 26 = .ok (.aload_n 0, 1) := dq_42 (dq_w dwm_224 10 rfl)
theorem dX6_goals_27 : decode cX6_goals 27 = .ok (.invokevirtual 244, 3) := dq_182 (dq_w dwm_224 11 rfl) (dq_w dwm_224 12 rfl) (dq_w dwm_224 13 rfl) rfl
theorem dX6_goals_30 : decode cX6_goals 30 = .ok (.aload_n 0, 1) := dq_42 (dq_w dwm_224 14 rfl)
theorem dX6_goals_31 : decode cX6_goals 31 = .ok (.getfield 25, 3) := dq_180 (dq_w dwm_224 15 rfl) (dq_w dwm_225 0 rfl) (dq_w dwm_225 1 rfl) rfl
theorem dX6_goals_34 : decode cX6_goals 34 = .ok (.iload_n 1, 1) := dq_27 (dq_w dwm_225 2 rfl)
theorem dX6_goals_35 : decode cX6_goals 35 = .ok (.iaload, 1) := dq_46 (dq_w dwm_225 3 rfl)
theorem dX6_goals_36 : decode cX6_goals 36 = .ok (.istore_n 3, 1) := dq_62 (dq_w dwm_225 4 rfl)
theorem dX6_goals_37 : decode cX6_goals 37 = .ok (.aload_n 0, 1) := dq_42 (dq_w dwm_225 5 rfl)
theorem dX6_goals_38 : decode cX6_goals 38 = .ok (.getfield 25, 3) := dq_180 (dq_w dwm_225 6 rfl) (dq_w dwm_225 7 rfl) (dq_w dwm_225 8 rfl) rfl
theorem dX6_goals_41 : decode cX6_goals 41 = .ok (.iload_n 1, 1) := dq_27 (dq_w dwm_225 9 rfl)
theorem dX6_goals_42 : decode cX6_goals 42 = .ok (.iload_n 2, 1) := dq_28 (dq_w dwm_225 10 rfl)
theorem dX6_goals_43 : decode cX6_goals 43 = .ok (.iastore, 1) := dq_79 (dq_w dwm_225 11 rfl)
theorem dX6_goals_44 : decode cX6_goals 44 = .ok (.iload_n 3, 1) := dq_29 (dq_w dwm_225 12 rfl)
theorem dX6_goals_45 : decode cX6_goals 45 = .ok (.ireturn, 1) := dq_172 (dq_w dwm_225 13 rfl)
theorem dwm_226 : (cX6_visits.data.toList.drop 0).take 16 = [42, 3, 181, 0, 79, 42, 27, 28, 182, 0, 237, 62, 29, 154, 0, 37] := by decide +kernel
theorem dwm_227 : (cX6_visits.data.toList.drop 16).take 16 = [42, 180, 0, 31, 16, 7, 27, 104, 28, 96, 46, 153, 0, 18, 42, 180] := by decide +kernel
theorem dwm_228 : (cX6_visits.data.toList.drop 32).take 16 = [0, 22, 27, 46, 42, 180, 0, 16, 28, 46, 159, 0, 8, 16, 253, 167] := by decide +kernel
theorem dwm_229 : (cX6_visits.data.toList.drop 48).take 16 = [0, 4, 29, 62, 29, 156, 0, 9, 42, 29, 182, 0, 143, 172, 42, 182] := by decide +kernel
theorem dwm_230 : (cX6_visits.data.toList.drop 64).take 16 = [0, 244, 42, 28, 42, 180, 0, 31, 16, 7, 27, 104, 28, 96, 46, 4] := by decide +kernel
theorem dwm_231 : (cX6_visits.data.toList.drop 80).take 16 = [100, 182, 0, 110, 54, 4, 42, 180, 0, 31, 16, 7, 27, 104, 28, 96] := by decide +kernel
theorem dwm_232 : (cX6_visits.data.toList.drop 96).take 16 = [3, 79, 21, 4, 172] := by decide +kernel
theorem dX6_visits_0 : decode cX6_visits 0 = .ok (.aload_n 0, 1) := dq_42 (dq_w dwm_226 0 rfl)
theorem dX6_visits_1 : decode cX6_visits 1 = .ok (.iconst 0, 1) := dq_3 (dq_w dwm_226 1 rfl)
theorem dX6_visits_2 : decode cX6_visits 2 = .ok (.putfield 79, 3) := dq_181 (dq_w dwm_226 2 rfl) (dq_w dwm_226 3 rfl) (dq_w dwm_226 4 rfl) rfl
theorem dX6_visits_5 : decode cX6_visits 5 = .ok (.aload_n 0, 1) := dq_42 (dq_w dwm_226 5 rfl)
theorem dX6_visits_6 : decode cX6_visits 6 = .ok (.iload_n 1, 1) := dq_27 (dq_w dwm_226 6 rfl)
theorem dX6_visits_7 : decode cX6_visits 7 = .ok (.iload_n 2, 1) := dq_28 (dq_w dwm_226 7 rfl)
theorem dX6_visits_8 : decode cX6_visits 8 = .ok (.invokevirtual 237, 3) := dq_182 (dq_w dwm_226 8 rfl) (dq_w dwm_226 9 rfl) (dq_w dwm_226 10 rfl) rfl
theorem dX6_visits_11 : decode cX6_visits 11 = .ok (.istore_n 3, 1) := dq_62 (dq_w dwm_226 11 rfl)
theorem dX6_visits_12 : decode cX6_visits 12 = .ok (.iload_n 3, 1) := dq_29 (dq_w dwm_226 12 rfl)
theorem dX6_visits_13 : decode cX6_visits 13 = .ok (.ifCond .ne 37, 3) := dq_154 (dq_w dwm_226 13 rfl) (dq_w dwm_226 14 rfl) (dq_w dwm_226 15 rfl) (dq_p (n := 37) rfl rfl)
theorem dX6_visits_16 : decode cX6_visits 16 = .ok (.aload_n 0, 1) := dq_42 (dq_w dwm_227 0 rfl)
theorem dX6_visits_17 : decode cX6_visits 17 = .ok (.getfield 31, 3) := dq_180 (dq_w dwm_227 1 rfl) (dq_w dwm_227 2 rfl) (dq_w dwm_227 3 rfl) rfl
theorem dX6_visits_20 : decode cX6_visits 20 = .ok (.bipush 7, 2) := dq_16 (dq_w dwm_227 4 rfl) (dq_w dwm_227 5 rfl) rfl
theorem dX6_visits_22 : decode cX6_visits 22 = .ok (.iload_n 1, 1) := dq_27 (dq_w dwm_227 6 rfl)
theorem dX6_visits_23 : decode cX6_visits 23 = .ok (.imul, 1) := dq_104 (dq_w dwm_227 7 rfl)
theorem dX6_visits_24 : decode cX6_visits 24 = .ok (.iload_n 2, 1) := dq_28 (dq_w dwm_227 8 rfl)
theorem dX6_visits_25 : decode cX6_visits 25 = .ok (.iadd, 1) := dq_96 (dq_w dwm_227 9 rfl)
theorem dX6_visits_26 : decode cX6_visits 26 = .ok (.iaload, 1) := dq_46 (dq_w dwm_227 10 rfl)
theorem dX6_visits_27 : decode cX6_visits 27 = .ok (.ifCond .eq 18, 3) := dq_153 (dq_w dwm_227 11 rfl) (dq_w dwm_227 12 rfl) (dq_w dwm_227 13 rfl) (dq_p (n := 18) rfl rfl)
theorem dX6_visits_30 : decode cX6_visits 30 = .ok (.aload_n 0, 1) := dq_42 (dq_w dwm_227 14 rfl)
theorem dX6_visits_31 : decode cX6_visits 31 = .ok (.getfield 22, 3) := dq_180 (dq_w dwm_227 15 rfl) (dq_w dwm_228 0 rfl) (dq_w dwm_228 1 rfl) rfl
theorem dX6_visits_34 : decode cX6_visits 34 = .ok (.iload_n 1, 1) := dq_27 (dq_w dwm_228 2 rfl)
theorem dX6_visits_35 : decode cX6_visits 35 = .ok (.iaload, 1) := dq_46 (dq_w dwm_228 3 rfl)
theorem dX6_visits_36 : decode cX6_visits 36 = .ok (.aload_n 0, 1) := dq_42 (dq_w dwm_228 4 rfl)
theorem dX6_visits_37 : decode cX6_visits 37 = .ok (.getfield 16, 3) := dq_180 (dq_w dwm_228 5 rfl) (dq_w dwm_228 6 rfl) (dq_w dwm_228 7 rfl) rfl
theorem dX6_visits_40 : decode cX6_visits 40 = .ok (.iload_n 2, 1) := dq_28 (dq_w dwm_228 8 rfl)
theorem dX6_visits_41 : decode cX6_visits 41 = .ok (.iaload, 1) := dq_46 (dq_w dwm_228 9 rfl)
theorem dX6_visits_42 : decode cX6_visits 42 = .ok (.if_icmp .eq 8, 3) := dq_159 (dq_w dwm_228 10 rfl) (dq_w dwm_228 11 rfl) (dq_w dwm_228 12 rfl) (dq_p (n := 8) rfl rfl)
theorem dX6_visits_45 : decode cX6_visits 45 = .ok (.bipush (-3), 2) := dq_16 (dq_w dwm_228 13 rfl) (dq_w dwm_228 14 rfl) rfl
theorem dX6_visits_47 : decode cX6_visits 47 = .ok (.goto 4, 3) := dq_167 (dq_w dwm_228 15 rfl) (dq_w dwm_229 0 rfl) (dq_w dwm_229 1 rfl) (dq_p (n := 4) rfl rfl)
theorem dX6_visits_50 : decode cX6_visits 50 = .ok (.iload_n 3, 1) := dq_29 (dq_w dwm_229 2 rfl)
theorem dX6_visits_51 : decode cX6_visits 51 = .ok (.istore_n 3, 1) := dq_62 (dq_w dwm_229 3 rfl)
theorem dX6_visits_52 : decode cX6_visits 52 = .ok (.iload_n 3, 1) := dq_29 (dq_w dwm_229 4 rfl)
theorem dX6_visits_53 : decode cX6_visits 53 = .ok (.ifCond .ge 9, 3) := dq_156 (dq_w dwm_229 5 rfl) (dq_w dwm_229 6 rfl) (dq_w dwm_229 7 rfl) (dq_p (n := 9) rfl rfl)
theorem dX6_visits_56 : decode cX6_visits 56 = .ok (.aload_n 0, 1) := dq_42 (dq_w dwm_229 8 rfl)
theorem dX6_visits_57 : decode cX6_visits 57 = .ok (.iload_n 3, 1) := dq_29 (dq_w dwm_229 9 rfl)
theorem dX6_visits_58 : decode cX6_visits 58 = .ok (.invokevirtual 143, 3) := dq_182 (dq_w dwm_229 10 rfl) (dq_w dwm_229 11 rfl) (dq_w dwm_229 12 rfl) rfl
theorem dX6_visits_61 : decode cX6_visits 61 = .ok (.ireturn, 1) := dq_172 (dq_w dwm_229 13 rfl)
theorem dX6_visits_62 : decode cX6_visits 62 = .ok (.aload_n 0, 1) := dq_42 (dq_w dwm_229 14 rfl)
theorem dX6_visits_63 : decode cX6_visits 63 = .ok (.invokevirtual 244, 3) := dq_182 (dq_w dwm_229 15 rfl) (dq_w dwm_230 0 rfl) (dq_w dwm_230 1 rfl) rfl
theorem dX6_visits_66 : decode cX6_visits 66 = .ok (.aload_n 0, 1) := dq_42 (dq_w dwm_230 2 rfl)
theorem dX6_visits_67 : decode cX6_visits 67 = .ok (.iload_n 2, 1) := dq_28 (dq_w dwm_230 3 rfl)
theorem dX6_visits_68 : decode cX6_visits 68 = .ok (.aload_n 0, 1) := dq_42 (dq_w dwm_230 4 rfl)
theorem dX6_visits_69 : decode cX6_visits 69 = .ok (.getfield 31, 3) := dq_180 (dq_w dwm_230 5 rfl) (dq_w dwm_230 6 rfl) (dq_w dwm_230 7 rfl) rfl
theorem dX6_visits_72 : decode cX6_visits 72 = .ok (.bipush 7, 2) := dq_16 (dq_w dwm_230 8 rfl) (dq_w dwm_230 9 rfl) rfl
theorem dX6_visits_74 : decode cX6_visits 74 = .ok (.iload_n 1, 1) := dq_27 (dq_w dwm_230 10 rfl)
theorem dX6_visits_75 : decode cX6_visits 75 = .ok (.imul, 1) := dq_104 (dq_w dwm_230 11 rfl)
theorem dX6_visits_76 : decode cX6_visits 76 = .ok (.iload_n 2, 1) := dq_28 (dq_w dwm_230 12 rfl)
theorem dX6_visits_77 : decode cX6_visits 77 = .ok (.iadd, 1) := dq_96 (dq_w dwm_230 13 rfl)
theorem dX6_visits_78 : decode cX6_visits 78 = .ok (.iaload, 1) := dq_46 (dq_w dwm_230 14 rfl)
theorem dX6_visits_79 : decode cX6_visits 79 = .ok (.iconst 1, 1) := dq_4 (dq_w dwm_230 15 rfl)
theorem dX6_visits_80 : decode cX6_visits 80 = .ok (.isub, 1) := dq_100 (dq_w dwm_231 0 rfl)
theorem dX6_visits_81 : decode cX6_visits 81 = .ok (.invokevirtual 110, 3) := dq_182 (dq_w dwm_231 1 rfl) (dq_w dwm_231 2 rfl) (dq_w dwm_231 3 rfl) rfl
theorem dX6_visits_84 : decode cX6_visits 84 = .ok (.istore 4, 2) := dq_54 (dq_w dwm_231 4 rfl) (dq_w dwm_231 5 rfl) rfl
theorem dX6_visits_86 : decode cX6_visits 86 = .ok (.aload_n 0, 1) := dq_42 (dq_w dwm_231 6 rfl)
theorem dX6_visits_87 : decode cX6_visits 87 = .ok (.getfield 31, 3) := dq_180 (dq_w dwm_231 7 rfl) (dq_w dwm_231 8 rfl) (dq_w dwm_231 9 rfl) rfl
theorem dX6_visits_90 : decode cX6_visits 90 = .ok (.bipush 7, 2) := dq_16 (dq_w dwm_231 10 rfl) (dq_w dwm_231 11 rfl) rfl
theorem dX6_visits_92 : decode cX6_visits 92 = .ok (.iload_n 1, 1) := dq_27 (dq_w dwm_231 12 rfl)
theorem dX6_visits_93 : decode cX6_visits 93 = .ok (.imul, 1) := dq_104 (dq_w dwm_231 13 rfl)
theorem dX6_visits_94 : decode cX6_visits 94 = .ok (.iload_n 2, 1) := dq_28 (dq_w dwm_231 14 rfl)
theorem dX6_visits_95 : decode cX6_visits 95 = .ok (.iadd, 1) := dq_96 (dq_w dwm_231 15 rfl)
theorem dX6_visits_96 : decode cX6_visits 96 = .ok (.iconst 0, 1) := dq_3 (dq_w dwm_232 0 rfl)
theorem dX6_visits_97 : decode cX6_visits 97 = .ok (.iastore, 1) := dq_79 (dq_w dwm_232 1 rfl)
theorem dX6_visits_98 : decode cX6_visits 98 = .ok (.iload 4, 2) := dq_21 (dq_w dwm_232 2 rfl) (dq_w dwm_232 3 rfl) rfl
theorem dX6_visits_100 : decode cX6_visits 100 = .ok (.ireturn, 1) := dq_172 (dq_w dwm_232 4 rfl)
theorem dwm_233 : (cX6_trades.data.toList.drop 0).take 16 = [42, 3, 181, 0, 79, 42, 27, 182, 0, 181, 153, 0, 28, 42, 28, 182] := by decide +kernel
theorem dwm_234 : (cX6_trades.data.toList.drop 16).take 16 = [0, 184, 153, 0, 20, 42, 29, 182, 0, 184, 153, 0, 12, 28, 29, 159] := by decide +kernel
theorem dwm_235 : (cX6_trades.data.toList.drop 32).take 16 = [0, 7, 3, 167, 0, 4, 2, 54, 4, 21, 4, 154, 0, 36, 42, 180] := by decide +kernel
theorem dwm_236 : (cX6_trades.data.toList.drop 48).take 16 = [0, 31, 16, 7, 28, 104, 27, 96, 46, 153, 0, 17, 42, 180, 0, 31] := by decide +kernel
theorem dwm_237 : (cX6_trades.data.toList.drop 64).take 16 = [16, 7, 29, 104, 27, 96, 46, 158, 0, 8, 16, 253, 167, 0, 5, 21] := by decide +kernel
theorem dwm_238 : (cX6_trades.data.toList.drop 80).take 16 = [4, 54, 4, 21, 4, 156, 0, 10, 42, 21, 4, 182, 0, 143, 172, 42] := by decide +kernel
theorem dwm_239 : (cX6_trades.data.toList.drop 96).take 16 = [182, 0, 244, 42, 180, 0, 31, 16, 7, 29, 104, 27, 96, 42, 180, 0] := by decide +kernel
theorem dwm_240 : (cX6_trades.data.toList.drop 112).take 16 = [31, 16, 7, 28, 104, 27, 96, 46, 79, 42, 180, 0, 31, 16, 7, 28] := by decide +kernel
theorem dwm_241 : (cX6_trades.data.toList.drop 128).take 16 = [104, 27, 96, 3, 79, 42, 180, 0, 31, 16, 7, 29, 104, 27, 96, 46] := by decide +kernel
theorem dwm_242 : (cX6_trades.data.toList.drop 144).take 16 = [4, 100, 172] := by decide +kernel
theorem dX6_trades_0 : decode cX6_trades 0 = .ok (.aload_n 0, 1) := dq_42 (dq_w dwm_233 0 rfl)
theorem dX6_trades_1 : decode cX6_trades 1 = .ok (.iconst 0, 1) := dq_3 (dq_w dwm_233 1 rfl)
theorem dX6_trades_2 : decode cX6_trades 2 = .ok (.putfield 79, 3) := dq_181 (dq_w dwm_233 2 rfl) (dq_w dwm_233 3 rfl) (dq_w dwm_233 4 rfl) rfl
theorem dX6_trades_5 : decode cX6_trades 5 = .ok (.aload_n 0, 1) := dq_42 (dq_w dwm_233 5 rfl)
theorem dX6_trades_6 : decode cX6_trades 6 = .ok (.iload_n 1, 1) := dq_27 (dq_w dwm_233 6 rfl)
theorem dX6_trades_7 : decode cX6_trades 7 = .ok (.invokevirtual 181, 3) := dq_182 (dq_w dwm_233 7 rfl) (dq_w dwm_233 8 rfl) (dq_w dwm_233 9 rfl) rfl
theorem dX6_trades_10 : decode cX6_trades 10 = .ok (.ifCond .eq 28, 3) := dq_153 (dq_w dwm_233 10 rfl) (dq_w dwm_233 11 rfl) (dq_w dwm_233 12 rfl) (dq_p (n := 28) rfl rfl)
theorem dX6_trades_13 : decode cX6_trades 13 = .ok (.aload_n 0, 1) := dq_42 (dq_w dwm_233 13 rfl)
theorem dX6_trades_14 : decode cX6_trades 14 = .ok (.iload_n 2, 1) := dq_28 (dq_w dwm_233 14 rfl)
theorem dX6_trades_15 : decode cX6_trades 15 = .ok (.invokevirtual 184, 3) := dq_182 (dq_w dwm_233 15 rfl) (dq_w dwm_234 0 rfl) (dq_w dwm_234 1 rfl) rfl
theorem dX6_trades_18 : decode cX6_trades 18 = .ok (.ifCond .eq 20, 3) := dq_153 (dq_w dwm_234 2 rfl) (dq_w dwm_234 3 rfl) (dq_w dwm_234 4 rfl) (dq_p (n := 20) rfl rfl)
theorem dX6_trades_21 : decode cX6_trades 21 = .ok (.aload_n 0, 1) := dq_42 (dq_w dwm_234 5 rfl)
theorem dX6_trades_22 : decode cX6_trades 22 = .ok (.iload_n 3, 1) := dq_29 (dq_w dwm_234 6 rfl)
theorem dX6_trades_23 : decode cX6_trades 23 = .ok (.invokevirtual 184, 3) := dq_182 (dq_w dwm_234 7 rfl) (dq_w dwm_234 8 rfl) (dq_w dwm_234 9 rfl) rfl
theorem dX6_trades_26 : decode cX6_trades 26 = .ok (.ifCond .eq 12, 3) := dq_153 (dq_w dwm_234 10 rfl) (dq_w dwm_234 11 rfl) (dq_w dwm_234 12 rfl) (dq_p (n := 12) rfl rfl)
theorem dX6_trades_29 : decode cX6_trades 29 = .ok (.iload_n 2, 1) := dq_28 (dq_w dwm_234 13 rfl)
theorem dX6_trades_30 : decode cX6_trades 30 = .ok (.iload_n 3, 1) := dq_29 (dq_w dwm_234 14 rfl)
theorem dX6_trades_31 : decode cX6_trades 31 = .ok (.if_icmp .eq 7, 3) := dq_159 (dq_w dwm_234 15 rfl) (dq_w dwm_235 0 rfl) (dq_w dwm_235 1 rfl) (dq_p (n := 7) rfl rfl)
theorem dX6_trades_34 : decode cX6_trades 34 = .ok (.iconst 0, 1) := dq_3 (dq_w dwm_235 2 rfl)
theorem dX6_trades_35 : decode cX6_trades 35 = .ok (.goto 4, 3) := dq_167 (dq_w dwm_235 3 rfl) (dq_w dwm_235 4 rfl) (dq_w dwm_235 5 rfl) (dq_p (n := 4) rfl rfl)
theorem dX6_trades_38 : decode cX6_trades 38 = .ok (.iconst (-1), 1) := dq_2 (dq_w dwm_235 6 rfl)
theorem dX6_trades_39 : decode cX6_trades 39 = .ok (.istore 4, 2) := dq_54 (dq_w dwm_235 7 rfl) (dq_w dwm_235 8 rfl) rfl
theorem dX6_trades_41 : decode cX6_trades 41 = .ok (.iload 4, 2) := dq_21 (dq_w dwm_235 9 rfl) (dq_w dwm_235 10 rfl) rfl
theorem dX6_trades_43 : decode cX6_trades 43 = .ok (.ifCond .ne 36, 3) := dq_154 (dq_w dwm_235 11 rfl) (dq_w dwm_235 12 rfl) (dq_w dwm_235 13 rfl) (dq_p (n := 36) rfl rfl)
theorem dX6_trades_46 : decode cX6_trades 46 = .ok (.aload_n 0, 1) := dq_42 (dq_w dwm_235 14 rfl)
theorem dX6_trades_47 : decode cX6_trades 47 = .ok (.getfield 31, 3) := dq_180 (dq_w dwm_235 15 rfl) (dq_w dwm_236 0 rfl) (dq_w dwm_236 1 rfl) rfl
theorem dX6_trades_50 : decode cX6_trades 50 = .ok (.bipush 7, 2) := dq_16 (dq_w dwm_236 2 rfl) (dq_w dwm_236 3 rfl) rfl
theorem dX6_trades_52 : decode cX6_trades 52 = .ok (.iload_n 2, 1) := dq_28 (dq_w dwm_236 4 rfl)
theorem dX6_trades_53 : decode cX6_trades 53 = .ok (.imul, 1) := dq_104 (dq_w dwm_236 5 rfl)
theorem dX6_trades_54 : decode cX6_trades 54 = .ok (.iload_n 1, 1) := dq_27 (dq_w dwm_236 6 rfl)
theorem dX6_trades_55 : decode cX6_trades 55 = .ok (.iadd, 1) := dq_96 (dq_w dwm_236 7 rfl)
theorem dX6_trades_56 : decode cX6_trades 56 = .ok (.iaload, 1) := dq_46 (dq_w dwm_236 8 rfl)
theorem dX6_trades_57 : decode cX6_trades 57 = .ok (.ifCond .eq 17, 3) := dq_153 (dq_w dwm_236 9 rfl) (dq_w dwm_236 10 rfl) (dq_w dwm_236 11 rfl) (dq_p (n := 17) rfl rfl)
theorem dX6_trades_60 : decode cX6_trades 60 = .ok (.aload_n 0, 1) := dq_42 (dq_w dwm_236 12 rfl)
theorem dX6_trades_61 : decode cX6_trades 61 = .ok (.getfield 31, 3) := dq_180 (dq_w dwm_236 13 rfl) (dq_w dwm_236 14 rfl) (dq_w dwm_236 15 rfl) rfl
theorem dX6_trades_64 : decode cX6_trades 64 = .ok (.bipush 7, 2) := dq_16 (dq_w dwm_237 0 rfl) (dq_w dwm_237 1 rfl) rfl
theorem dX6_trades_66 : decode cX6_trades 66 = .ok (.iload_n 3, 1) := dq_29 (dq_w dwm_237 2 rfl)
theorem dX6_trades_67 : decode cX6_trades 67 = .ok (.imul, 1) := dq_104 (dq_w dwm_237 3 rfl)
theorem dX6_trades_68 : decode cX6_trades 68 = .ok (.iload_n 1, 1) := dq_27 (dq_w dwm_237 4 rfl)
theorem dX6_trades_69 : decode cX6_trades 69 = .ok (.iadd, 1) := dq_96 (dq_w dwm_237 5 rfl)
theorem dX6_trades_70 : decode cX6_trades 70 = .ok (.iaload, 1) := dq_46 (dq_w dwm_237 6 rfl)
theorem dX6_trades_71 : decode cX6_trades 71 = .ok (.ifCond .le 8, 3) := dq_158 (dq_w dwm_237 7 rfl) (dq_w dwm_237 8 rfl) (dq_w dwm_237 9 rfl) (dq_p (n := 8) rfl rfl)
theorem dX6_trades_74 : decode cX6_trades 74 = .ok (.bipush (-3), 2) := dq_16 (dq_w dwm_237 10 rfl) (dq_w dwm_237 11 rfl) rfl
theorem dX6_trades_76 : decode cX6_trades 76 = .ok (.goto 5, 3) := dq_167 (dq_w dwm_237 12 rfl) (dq_w dwm_237 13 rfl) (dq_w dwm_237 14 rfl) (dq_p (n := 5) rfl rfl)
theorem dX6_trades_79 : decode cX6_trades 79 = .ok (.iload 4, 2) := dq_21 (dq_w dwm_237 15 rfl) (dq_w dwm_238 0 rfl) rfl
theorem dX6_trades_81 : decode cX6_trades 81 = .ok (.istore 4, 2) := dq_54 (dq_w dwm_238 1 rfl) (dq_w dwm_238 2 rfl) rfl
theorem dX6_trades_83 : decode cX6_trades 83 = .ok (.iload 4, 2) := dq_21 (dq_w dwm_238 3 rfl) (dq_w dwm_238 4 rfl) rfl
theorem dX6_trades_85 : decode cX6_trades 85 = .ok (.ifCond .ge 10, 3) := dq_156 (dq_w dwm_238 5 rfl) (dq_w dwm_238 6 rfl) (dq_w dwm_238 7 rfl) (dq_p (n := 10) rfl rfl)
theorem dX6_trades_88 : decode cX6_trades 88 = .ok (.aload_n 0, 1) := dq_42 (dq_w dwm_238 8 rfl)
theorem dX6_trades_89 : decode cX6_trades 89 = .ok (.iload 4, 2) := dq_21 (dq_w dwm_238 9 rfl) (dq_w dwm_238 10 rfl) rfl
theorem dX6_trades_91 : decode cX6_trades 91 = .ok (.invokevirtual 143, 3) := dq_182 (dq_w dwm_238 11 rfl) (dq_w dwm_238 12 rfl) (dq_w dwm_238 13 rfl) rfl
theorem dX6_trades_94 : decode cX6_trades 94 = .ok (.ireturn, 1) := dq_172 (dq_w dwm_238 14 rfl)
theorem dX6_trades_95 : decode cX6_trades 95 = .ok (.aload_n 0, 1) := dq_42 (dq_w dwm_238 15 rfl)
theorem dX6_trades_96 : decode cX6_trades 96 = .ok (.invokevirtual 244, 3) := dq_182 (dq_w dwm_239 0 rfl) (dq_w dwm_239 1 rfl) (dq_w dwm_239 2 rfl) rfl
theorem dX6_trades_99 : decode cX6_trades 99 = .ok (.aload_n 0, 1) := dq_42 (dq_w dwm_239 3 rfl)
theorem dX6_trades_100 : decode cX6_trades 100 = .ok (.getfield 31, 3) := dq_180 (dq_w dwm_239 4 rfl) (dq_w dwm_239 5 rfl) (dq_w dwm_239 6 rfl) rfl
theorem dX6_trades_103 : decode cX6_trades 103 = .ok (.bipush 7, 2) := dq_16 (dq_w dwm_239 7 rfl) (dq_w dwm_239 8 rfl) rfl
theorem dX6_trades_105 : decode cX6_trades 105 = .ok (.iload_n 3, 1) := dq_29 (dq_w dwm_239 9 rfl)
theorem dX6_trades_106 : decode cX6_trades 106 = .ok (.imul, 1) := dq_104 (dq_w dwm_239 10 rfl)
theorem dX6_trades_107 : decode cX6_trades 107 = .ok (.iload_n 1, 1) := dq_27 (dq_w dwm_239 11 rfl)
theorem dX6_trades_108 : decode cX6_trades 108 = .ok (.iadd, 1) := dq_96 (dq_w dwm_239 12 rfl)
theorem dX6_trades_109 : decode cX6_trades 109 = .ok (.aload_n 0, 1) := dq_42 (dq_w dwm_239 13 rfl)
theorem dX6_trades_110 : decode cX6_trades 110 = .ok (.getfield 31, 3) := dq_180 (dq_w dwm_239 14 rfl) (dq_w dwm_239 15 rfl) (dq_w dwm_240 0 rfl) rfl
theorem dX6_trades_113 : decode cX6_trades 113 = .ok (.bipush 7, 2) := dq_16 (dq_w dwm_240 1 rfl) (dq_w dwm_240 2 rfl) rfl
theorem dX6_trades_115 : decode cX6_trades 115 = .ok (.iload_n 2, 1) := dq_28 (dq_w dwm_240 3 rfl)
theorem dX6_trades_116 : decode cX6_trades 116 = .ok (.imul, 1) := dq_104 (dq_w dwm_240 4 rfl)
theorem dX6_trades_117 : decode cX6_trades 117 = .ok (.iload_n 1, 1) := dq_27 (dq_w dwm_240 5 rfl)
theorem dX6_trades_118 : decode cX6_trades 118 = .ok (.iadd, 1) := dq_96 (dq_w dwm_240 6 rfl)
theorem dX6_trades_119 : decode cX6_trades 119 = .ok (.iaload, 1) := dq_46 (dq_w dwm_240 7 rfl)
theorem dX6_trades_120 : decode cX6_trades 120 = .ok (.iastore, 1) := dq_79 (dq_w dwm_240 8 rfl)
theorem dX6_trades_121 : decode cX6_trades 121 = .ok (.aload_n 0, 1) := dq_42 (dq_w dwm_240 9 rfl)
theorem dX6_trades_122 : decode cX6_trades 122 = .ok (.getfield 31, 3) := dq_180 (dq_w dwm_240 10 rfl) (dq_w dwm_240 11 rfl) (dq_w dwm_240 12 rfl) rfl
theorem dX6_trades_125 : decode cX6_trades 125 = .ok (.bipush 7, 2) := dq_16 (dq_w dwm_240 13 rfl) (dq_w dwm_240 14 rfl) rfl
theorem dX6_trades_127 : decode cX6_trades 127 = .ok (.iload_n 2, 1) := dq_28 (dq_w dwm_240 15 rfl)
theorem dX6_trades_128 : decode cX6_trades 128 = .ok (.imul, 1) := dq_104 (dq_w dwm_241 0 rfl)
theorem dX6_trades_129 : decode cX6_trades 129 = .ok (.iload_n 1, 1) := dq_27 (dq_w dwm_241 1 rfl)
theorem dX6_trades_130 : decode cX6_trades 130 = .ok (.iadd, 1) := dq_96 (dq_w dwm_241 2 rfl)
theorem dX6_trades_131 : decode cX6_trades 131 = .ok (.iconst 0, 1) := dq_3 (dq_w dwm_241 3 rfl)
theorem dX6_trades_132 : decode cX6_trades 132 = .ok (.iastore, 1) := dq_79 (dq_w dwm_241 4 rfl)
theorem dX6_trades_133 : decode cX6_trades 133 = .ok (.aload_n 0, 1) := dq_42 (dq_w dwm_241 5 rfl)
theorem dX6_trades_134 : decode cX6_trades 134 = .ok (.getfield 31, 3) := dq_180 (dq_w dwm_241 6 rfl) (dq_w dwm_241 7 rfl) (dq_w dwm_241 8 rfl) rfl
theorem dX6_trades_137 : decode cX6_trades 137 = .ok (.bipush 7, 2) := dq_16 (dq_w dwm_241 9 rfl) (dq_w dwm_241 10 rfl) rfl
theorem dX6_trades_139 : decode cX6_trades 139 = .ok (.iload_n 3, 1) := dq_29 (dq_w dwm_241 11 rfl)
theorem dX6_trades_140 : decode cX6_trades 140 = .ok (.imul, 1) := dq_104 (dq_w dwm_241 12 rfl)
theorem dX6_trades_141 : decode cX6_trades 141 = .ok (.iload_n 1, 1) := dq_27 (dq_w dwm_241 13 rfl)
theorem dX6_trades_142 : decode cX6_trades 142 = .ok (.iadd, 1) := dq_96 (dq_w dwm_241 14 rfl)
theorem dX6_trades_143 : decode cX6_trades 143 = .ok (.iaload, 1) := dq_46 (dq_w dwm_241 15 rfl)
theorem dX6_trades_144 : decode cX6_trades 144 = .ok (.iconst 1, 1) := dq_4 (dq_w dwm_242 0 rfl)
theorem dX6_trades_145 : decode cX6_trades 145 = .ok (.isub, 1) := dq_100 (dq_w dwm_242 1 rfl)
theorem dX6_trades_146 : decode cX6_trades 146 = .ok (.ireturn, 1) := dq_172 (dq_w dwm_242 2 rfl)
theorem dwm_243 : (cX6_evenings.data.toList.drop 0).take 16 = [42, 3, 181, 0, 79, 27, 4, 16, 60, 184, 0, 240, 61, 28, 154, 0] := by decide +kernel
theorem dwm_244 : (cX6_evenings.data.toList.drop 16).take 16 = [20, 42, 180, 0, 122, 27, 96, 17, 3, 231, 164, 0, 8, 16, 250, 167] := by decide +kernel
theorem dwm_245 : (cX6_evenings.data.toList.drop 32).take 16 = [0, 4, 28, 61, 28, 156, 0, 9, 42, 28, 182, 0, 143, 172, 42, 182] := by decide +kernel
theorem dwm_246 : (cX6_evenings.data.toList.drop 48).take 16 = [0, 244, 42, 27, 182, 0, 189, 42, 182, 0, 247, 172] := by decide +kernel
theorem dX6_evenings_0 : decode cX6_evenings 0 = .ok (.aload_n 0, 1) := dq_42 (dq_w dwm_243 0 rfl)
theorem dX6_evenings_1 : decode cX6_evenings 1 = .ok (.iconst 0, 1) := dq_3 (dq_w dwm_243 1 rfl)
theorem dX6_evenings_2 : decode cX6_evenings 2 = .ok (.putfield 79, 3) := dq_181 (dq_w dwm_243 2 rfl) (dq_w dwm_243 3 rfl) (dq_w dwm_243 4 rfl) rfl
theorem dX6_evenings_5 : decode cX6_evenings 5 = .ok (.iload_n 1, 1) := dq_27 (dq_w dwm_243 5 rfl)
theorem dX6_evenings_6 : decode cX6_evenings 6 = .ok (.iconst 1, 1) := dq_4 (dq_w dwm_243 6 rfl)
theorem dX6_evenings_7 : decode cX6_evenings 7 = .ok (.bipush 60, 2) := dq_16 (dq_w dwm_243 7 rfl) (dq_w dwm_243 8 rfl) rfl
theorem dX6_evenings_9 : decode cX6_evenings 9 = .ok (.invokestatic 240, 3) := dq_184 (dq_w dwm_243 9 rfl) (dq_w dwm_243 10 rfl) (dq_w dwm_243 11 rfl) rfl
theorem dX6_evenings_12 : decode cX6_evenings 12 = .ok (.istore_n 2, 1) := dq_61 (dq_w dwm_243 12 rfl)
theorem dX6_evenings_13 : decode cX6_evenings 13 = .ok (.iload_n 2, 1) := dq_28 (dq_w dwm_243 13 rfl)
theorem dX6_evenings_14 : decode cX6_evenings 14 = .ok (.ifCond .ne 20, 3) := dq_154 (dq_w dwm_243 14 rfl) (dq_w dwm_243 15 rfl) (dq_w dwm_244 0 rfl) (dq_p (n := 20) rfl rfl)
theorem dX6_evenings_17 : decode cX6_evenings 17 = .ok (.aload_n 0, 1) := dq_42 (dq_w dwm_244 1 rfl)
theorem dX6_evenings_18 : decode cX6_evenings 18 = .ok (.getfield 122, 3) := dq_180 (dq_w dwm_244 2 rfl) (dq_w dwm_244 3 rfl) (dq_w dwm_244 4 rfl) rfl
theorem dX6_evenings_21 : decode cX6_evenings 21 = .ok (.iload_n 1, 1) := dq_27 (dq_w dwm_244 5 rfl)
theorem dX6_evenings_22 : decode cX6_evenings 22 = .ok (.iadd, 1) := dq_96 (dq_w dwm_244 6 rfl)
theorem dX6_evenings_23 : decode cX6_evenings 23 = .ok (.sipush 999, 3) := dq_17 (dq_w dwm_244 7 rfl) (dq_w dwm_244 8 rfl) (dq_w dwm_244 9 rfl) (dq_p (n := 999) rfl rfl)
theorem dX6_evenings_26 : decode cX6_evenings 26 = .ok (.if_icmp .le 8, 3) := dq_164 (dq_w dwm_244 10 rfl) (dq_w dwm_244 11 rfl) (dq_w dwm_244 12 rfl) (dq_p (n := 8) rfl rfl)
theorem dX6_evenings_29 : decode cX6_evenings 29 = .ok (.bipush (-6), 2) := dq_16 (dq_w dwm_244 13 rfl) (dq_w dwm_244 14 rfl) rfl
theorem dX6_evenings_31 : decode cX6_evenings 31 = .ok (.goto 4, 3) := dq_167 (dq_w dwm_244 15 rfl) (dq_w dwm_245 0 rfl) (dq_w dwm_245 1 rfl) (dq_p (n := 4) rfl rfl)
theorem dX6_evenings_34 : decode cX6_evenings 34 = .ok (.iload_n 2, 1) := dq_28 (dq_w dwm_245 2 rfl)
theorem dX6_evenings_35 : decode cX6_evenings 35 = .ok (.istore_n 2, 1) := dq_61 (dq_w dwm_245 3 rfl)
theorem dX6_evenings_36 : decode cX6_evenings 36 = .ok (.iload_n 2, 1) := dq_28 (dq_w dwm_245 4 rfl)
theorem dX6_evenings_37 : decode cX6_evenings 37 = .ok (.ifCond .ge 9, 3) := dq_156 (dq_w dwm_245 5 rfl) (dq_w dwm_245 6 rfl) (dq_w dwm_245 7 rfl) (dq_p (n := 9) rfl rfl)
theorem dX6_evenings_40 : decode cX6_evenings 40 = .ok (.aload_n 0, 1) := dq_42 (dq_w dwm_245 8 rfl)
theorem dX6_evenings_41 : decode cX6_evenings 41 = .ok (.iload_n 2, 1) := dq_28 (dq_w dwm_245 9 rfl)
theorem dX6_evenings_42 : decode cX6_evenings 42 = .ok (.invokevirtual 143, 3) := dq_182 (dq_w dwm_245 10 rfl) (dq_w dwm_245 11 rfl) (dq_w dwm_245 12 rfl) rfl
theorem dX6_evenings_45 : decode cX6_evenings 45 = .ok (.ireturn, 1) := dq_172 (dq_w dwm_245 13 rfl)
theorem dX6_evenings_46 : decode cX6_evenings 46 = .ok (.aload_n 0, 1) := dq_42 (dq_w dwm_245 14 rfl)
theorem dX6_evenings_47 : decode cX6_evenings 47 = .ok (.invokevirtual 244, 3) := dq_182 (dq_w dwm_245 15 rfl) (dq_w dwm_246 0 rfl) (dq_w dwm_246 1 rfl) rfl
theorem dX6_evenings_50 : decode cX6_evenings 50 = .ok (.aload_n 0, 1) := dq_42 (dq_w dwm_246 2 rfl)
theorem dX6_evenings_51 : decode cX6_evenings 51 = .ok (.iload_n 1, 1) := dq_27 (dq_w dwm_246 3 rfl)
theorem dX6_evenings_52 : decode cX6_evenings 52 = .ok (.invokevirtual 189, 3) := dq_182 (dq_w dwm_246 4 rfl) (dq_w dwm_246 5 rfl) (dq_w dwm_246 6 rfl) rfl
theorem dX6_evenings_55 : decode cX6_evenings 55 = .ok (.aload_n 0, 1) := dq_42 (dq_w dwm_246 7 rfl)
theorem dX6_evenings_56 : decode cX6_evenings 56 = .ok (.invokevirtual 247, 3) := dq_182 (dq_w dwm_246 8 rfl) (dq_w dwm_246 9 rfl) (dq_w dwm_246 10 rfl) rfl
theorem dX6_evenings_59 : decode cX6_evenings 59 = .ok (.ireturn, 1) := dq_172 (dq_w dwm_246 11 rfl)
theorem dwm_247 : (cX6_walkerIn.data.toList.drop 0).take 16 = [42, 3, 181, 0, 79, 42, 27, 182, 0, 184, 153, 0, 13, 28, 3, 16] := by decide +kernel
theorem dwm_248 : (cX6_walkerIn.data.toList.drop 16).take 16 = [60, 184, 0, 240, 167, 0, 4, 2, 29, 5, 184, 0, 250, 54, 4, 21] := by decide +kernel
theorem dwm_249 : (cX6_walkerIn.data.toList.drop 32).take 16 = [4, 156, 0, 10, 42, 21, 4, 182, 0, 143, 172, 42, 182, 0, 196, 42] := by decide +kernel
theorem dwm_250 : (cX6_walkerIn.data.toList.drop 48).take 16 = [28, 182, 0, 189, 29, 154, 0, 12, 42, 180, 0, 22, 27, 46, 167, 0] := by decide +kernel
theorem dwm_251 : (cX6_walkerIn.data.toList.drop 64).take 16 = [21, 29, 4, 160, 0, 11, 42, 27, 182, 0, 116, 167, 0, 8, 42, 27] := by decide +kernel
theorem dwm_252 : (cX6_walkerIn.data.toList.drop 80).take 16 = [182, 0, 113, 54, 5, 42, 182, 0, 202, 21, 5, 172] := by decide +kernel
theorem dX6_walkerIn_0 : decode cX6_walkerIn 0 = .ok (.aload_n 0, 1) := dq_42 (dq_w dwm_247 0 rfl)
theorem dX6_walkerIn_1 : decode cX6_walkerIn 1 = .ok (.iconst 0, 1) := dq_3 (dq_w dwm_247 1 rfl)
theorem dX6_walkerIn_2 : decode cX6_walkerIn 2 = .ok (.putfield 79, 3) := dq_181 (dq_w dwm_247 2 rfl) (dq_w dwm_247 3 rfl) (dq_w dwm_247 4 rfl) rfl
theorem dX6_walkerIn_5 : decode cX6_walkerIn 5 = .ok (.aload_n 0, 1) := dq_42 (dq_w dwm_247 5 rfl)
theorem dX6_walkerIn_6 : decode cX6_walkerIn 6 = .ok (.iload_n 1, 1) := dq_27 (dq_w dwm_247 6 rfl)
theorem dX6_walkerIn_7 : decode cX6_walkerIn 7 = .ok (.invokevirtual 184, 3) := dq_182 (dq_w dwm_247 7 rfl) (dq_w dwm_247 8 rfl) (dq_w dwm_247 9 rfl) rfl
theorem dX6_walkerIn_10 : decode cX6_walkerIn 10 = .ok (.ifCond .eq 13, 3) := dq_153 (dq_w dwm_247 10 rfl) (dq_w dwm_247 11 rfl) (dq_w dwm_247 12 rfl) (dq_p (n := 13) rfl rfl)
theorem dX6_walkerIn_13 : decode cX6_walkerIn 13 = .ok (.iload_n 2, 1) := dq_28 (dq_w dwm_247 13 rfl)
theorem dX6_walkerIn_14 : decode cX6_walkerIn 14 = .ok (.iconst 0, 1) := dq_3 (dq_w dwm_247 14 rfl)
theorem dX6_walkerIn_15 : decode cX6_walkerIn 15 = .ok (.bipush 60, 2) := dq_16 (dq_w dwm_247 15 rfl) (dq_w dwm_248 0 rfl) rfl
theorem dX6_walkerIn_17 : decode cX6_walkerIn 17 = .ok (.invokestatic 240, 3) := dq_184 (dq_w dwm_248 1 rfl) (dq_w dwm_248 2 rfl) (dq_w dwm_248 3 rfl) rfl
theorem dX6_walkerIn_20 : decode cX6_walkerIn 20 = .ok (.goto 4, 3) := dq_167 (dq_w dwm_248 4 rfl) (dq_w dwm_248 5 rfl) (dq_w dwm_248 6 rfl) (dq_p (n := 4) rfl rfl)
theorem dX6_walkerIn_23 : decode cX6_walkerIn 23 = .ok (.iconst (-1), 1) := dq_2 (dq_w dwm_248 7 rfl)
theorem dX6_walkerIn_24 : decode cX6_walkerIn 24 = .ok (.iload_n 3, 1) := dq_29 (dq_w dwm_248 8 rfl)
theorem dX6_walkerIn_25 : decode cX6_walkerIn 25 = .ok (.iconst 2, 1) := dq_5 (dq_w dwm_248 9 rfl)
theorem dX6_walkerIn_26 : decode cX6_walkerIn 26 = .ok (.invokestatic 250, 3) := dq_184 (dq_w dwm_248 10 rfl) (dq_w dwm_248 11 rfl) (dq_w dwm_248 12 rfl) rfl
theorem dX6_walkerIn_29 : decode cX6_walkerIn 29 = .ok (.istore 4, 2) := dq_54 (dq_w dwm_248 13 rfl) (dq_w dwm_248 14 rfl) rfl
theorem dX6_walkerIn_31 : decode cX6_walkerIn 31 = .ok (.iload 4, 2) := dq_21 (dq_w dwm_248 15 rfl) (dq_w dwm_249 0 rfl) rfl
theorem dX6_walkerIn_33 : decode cX6_walkerIn 33 = .ok (.ifCond .ge 10, 3) := dq_156 (dq_w dwm_249 1 rfl) (dq_w dwm_249 2 rfl) (dq_w dwm_249 3 rfl) (dq_p (n := 10) rfl rfl)
theorem dX6_walkerIn_36 : decode cX6_walkerIn 36 = .ok (.aload_n 0, 1) := dq_42 (dq_w dwm_249 4 rfl)
theorem dX6_walkerIn_37 : decode cX6_walkerIn 37 = .ok (.iload 4, 2) := dq_21 (dq_w dwm_249 5 rfl) (dq_w dwm_249 6 rfl) rfl
theorem dX6_walkerIn_39 : decode cX6_walkerIn 39 = .ok (.invokevirtual 143, 3) := dq_182 (dq_w dwm_249 7 rfl) (dq_w dwm_249 8 rfl) (dq_w dwm_249 9 rfl) rfl
theorem dX6_walkerIn_42 : decode cX6_walkerIn 42 = .ok (.ireturn, 1) := dq_172 (dq_w dwm_249 10 rfl)
theorem dX6_walkerIn_43 : decode cX6_walkerIn 43 = .ok (.aload_n 0, 1) := dq_42 (dq_w dwm_249 11 rfl)
theorem dX6_walkerIn_44 : decode cX6_walkerIn 44 = .ok (.invokevirtual 196, 3) := dq_182 (dq_w dwm_249 12 rfl) (dq_w dwm_249 13 rfl) (dq_w dwm_249 14 rfl) rfl
theorem dX6_walkerIn_47 : decode cX6_walkerIn 47 = .ok (.aload_n 0, 1) := dq_42 (dq_w dwm_249 15 rfl)
theorem dX6_walkerIn_48 : decode cX6_walkerIn 48 = .ok (.iload_n 2, 1) := dq_28 (dq_w dwm_250 0 rfl)
theorem dX6_walkerIn_49 : decode cX6_walkerIn 49 = .ok (.invokevirtual 189, 3) := dq_182 (dq_w dwm_250 1 rfl) (dq_w dwm_250 2 rfl) (dq_w dwm_250 3 rfl) rfl
theorem dX6_walkerIn_52 : decode cX6_walkerIn 52 = .ok (.iload_n 3, 1) := dq_29 (dq_w dwm_250 4 rfl)
theorem dX6_walkerIn_53 : decode cX6_walkerIn 53 = .ok (.ifCond .ne 12, 3) := dq_154 (dq_w dwm_250 5 rfl) (dq_w dwm_250 6 rfl) (dq_w dwm_250 7 rfl) (dq_p (n := 12) rfl rfl)
theorem dX6_walkerIn_56 : decode cX6_walkerIn 56 = .ok (.aload_n 0, 1) := dq_42 (dq_w dwm_250 8 rfl)
theorem dX6_walkerIn_57 : decode cX6_walkerIn 57 = .ok (.getfield 22, 3) := dq_180 (dq_w dwm_250 9 rfl) (dq_w dwm_250 10 rfl) (dq_w dwm_250 11 rfl) rfl
theorem dX6_walkerIn_60 : decode cX6_walkerIn 60 = .ok (.iload_n 1, 1) := dq_27 (dq_w dwm_250 12 rfl)
theorem dX6_walkerIn_61 : decode cX6_walkerIn 61 = .ok (.iaload, 1) := dq_46 (dq_w dwm_250 13 rfl)
theorem dX6_walkerIn_62 : decode cX6_walkerIn 62 = .ok (.goto 21, 3) := dq_167 (dq_w dwm_250 14 rfl) (dq_w dwm_250 15 rfl) (dq_w dwm_251 0 rfl) (dq_p (n := 21) rfl rfl)
theorem dX6_walkerIn_65 : decode cX6_walkerIn 65 = .ok (.iload_n 3, 1) := dq_29 (dq_w dwm_251 1 rfl)
theorem dX6_walkerIn_66 : decode cX6_walkerIn 66 = .ok (.iconst 1, 1) := dq_4 (dq_w dwm_251 2 rfl)
theorem dX6_walkerIn_67 : decode cX6_walkerIn 67 = .ok (.if_icmp .ne 11, 3) := dq_160 (dq_w dwm_251 3 rfl) (dq_w dwm_251 4 rfl) (dq_w dwm_251 5 rfl) (dq_p (n := 11) rfl rfl)
theorem dX6_walkerIn_70 : decode cX6_walkerIn 70 = .ok (.aload_n 0, 1) := dq_42 (dq_w dwm_251 6 rfl)
theorem dX6_walkerIn_71 : decode cX6_walkerIn 71 = .ok (.iload_n 1, 1) := dq_27 (dq_w dwm_251 7 rfl)
theorem dX6_walkerIn_72 : decode cX6_walkerIn 72 = .ok (.invokevirtual 116, 3) := dq_182 (dq_w dwm_251 8 rfl) (dq_w dwm_251 9 rfl) (dq_w dwm_251 10 rfl) rfl
theorem dX6_walkerIn_75 : decode cX6_walkerIn 75 = .ok (.goto 8, 3) := dq_167 (dq_w dwm_251 11 rfl) (dq_w dwm_251 12 rfl) (dq_w dwm_251 13 rfl) (dq_p (n := 8) rfl rfl)
theorem dX6_walkerIn_78 : decode cX6_walkerIn 78 = .ok (.aload_n 0, 1) := dq_42 (dq_w dwm_251 14 rfl)
theorem dX6_walkerIn_79 : decode cX6_walkerIn 79 = .ok (.iload_n 1, 1) := dq_27 (dq_w dwm_251 15 rfl)
theorem dX6_walkerIn_80 : decode cX6_walkerIn 80 = .ok (.invokevirtual 113, 3) := dq_182 (dq_w dwm_252 0 rfl) (dq_w dwm_252 1 rfl) (dq_w dwm_252 2 rfl) rfl
theorem dX6_walkerIn_83 : decode cX6_walkerIn 83 = .ok (.istore 5, 2) := dq_54 (dq_w dwm_252 3 rfl) (dq_w dwm_252 4 rfl) rfl
theorem dX6_walkerIn_85 : decode cX6_walkerIn 85 = .ok (.aload_n 0, 1) := dq_42 (dq_w dwm_252 5 rfl)
theorem dX6_walkerIn_86 : decode cX6_walkerIn 86 = .ok (.invokevirtual 202, 3) := dq_182 (dq_w dwm_252 6 rfl) (dq_w dwm_252 7 rfl) (dq_w dwm_252 8 rfl) rfl
theorem dX6_walkerIn_89 : decode cX6_walkerIn 89 = .ok (.iload 5, 2) := dq_21 (dq_w dwm_252 9 rfl) (dq_w dwm_252 10 rfl) rfl
theorem dX6_walkerIn_91 : decode cX6_walkerIn 91 = .ok (.ireturn, 1) := dq_172 (dq_w dwm_252 11 rfl)
theorem dwm_253 : (cX6_prices.data.toList.drop 0).take 16 = [42, 3, 181, 0, 79, 27, 3, 16, 60, 184, 0, 240, 61, 28, 156, 0] := by decide +kernel
theorem dwm_254 : (cX6_prices.data.toList.drop 16).take 16 = [9, 42, 28, 182, 0, 143, 172, 42, 182, 0, 196, 42, 27, 182, 0, 189] := by decide +kernel
theorem dwm_255 : (cX6_prices.data.toList.drop 32).take 16 = [42, 182, 0, 253, 62, 42, 182, 0, 202, 29, 172] := by decide +kernel
theorem dX6_prices_0 : decode cX6_prices 0 = .ok (.aload_n 0, 1) := dq_42 (dq_w dwm_253 0 rfl)
theorem dX6_prices_1 : decode cX6_prices 1 = .ok (.iconst 0, 1) := dq_3 (dq_w dwm_253 1 rfl)
theorem dX6_prices_2 : decode cX6_prices 2 = .ok (.putfield 79, 3) := dq_181 (dq_w dwm_253 2 rfl) (dq_w dwm_253 3 rfl) (dq_w dwm_253 4 rfl) rfl
theorem dX6_prices_5 : decode cX6_prices 5 = .ok (.iload_n 1, 1) := dq_27 (dq_w dwm_253 5 rfl)
theorem dX6_prices_6 : decode cX6_prices 6 = .ok (.iconst 0, 1) := dq_3 (dq_w dwm_253 6 rfl)
theorem dX6_prices_7 : decode cX6_prices 7 = .ok (.bipush 60, 2) := dq_16 (dq_w dwm_253 7 rfl) (dq_w dwm_253 8 rfl) rfl
theorem dX6_prices_9 : decode cX6_prices 9 = .ok (.invokestatic 240, 3) := dq_184 (dq_w dwm_253 9 rfl) (dq_w dwm_253 10 rfl) (dq_w dwm_253 11 rfl) rfl
theorem dX6_prices_12 : decode cX6_prices 12 = .ok (.istore_n 2, 1) := dq_61 (dq_w dwm_253 12 rfl)
theorem dX6_prices_13 : decode cX6_prices 13 = .ok (.iload_n 2, 1) := dq_28 (dq_w dwm_253 13 rfl)
theorem dX6_prices_14 : decode cX6_prices 14 = .ok (.ifCond .ge 9, 3) := dq_156 (dq_w dwm_253 14 rfl) (dq_w dwm_253 15 rfl) (dq_w dwm_254 0 rfl) (dq_p (n := 9) rfl rfl)
theorem dX6_prices_17 : decode cX6_prices 17 = .ok (.aload_n 0, 1) := dq_42 (dq_w dwm_254 1 rfl)
theorem dX6_prices_18 : decode cX6_prices 18 = .ok (.iload_n 2, 1) := dq_28 (dq_w dwm_254 2 rfl)
theorem dX6_prices_19 : decode cX6_prices 19 = .ok (.invokevirtual 143, 3) := dq_182 (dq_w dwm_254 3 rfl) (dq_w dwm_254 4 rfl) (dq_w dwm_254 5 rfl) rfl
theorem dX6_prices_22 : decode cX6_prices 22 = .ok (.ireturn, 1) := dq_172 (dq_w dwm_254 6 rfl)
theorem dX6_prices_23 : decode cX6_prices 23 = .ok (.aload_n 0, 1) := dq_42 (dq_w dwm_254 7 rfl)
theorem dX6_prices_24 : decode cX6_prices 24 = .ok (.invokevirtual 196, 3) := dq_182 (dq_w dwm_254 8 rfl) (dq_w dwm_254 9 rfl) (dq_w dwm_254 10 rfl) rfl
theorem dX6_prices_27 : decode cX6_prices 27 = .ok (.aload_n 0, 1) := dq_42 (dq_w dwm_254 11 rfl)
theorem dX6_prices_28 : decode cX6_prices 28 = .ok (.iload_n 1, 1) := dq_27 (dq_w dwm_254 12 rfl)
theorem dX6_prices_29 : decode cX6_prices 29 = .ok (.invokevirtual 189, 3) := dq_182 (dq_w dwm_254 13 rfl) (dq_w dwm_254 14 rfl) (dq_w dwm_254 15 rfl) rfl
theorem dX6_prices_32 : decode cX6_prices 32 = .ok (.aload_n 0, 1) := dq_42 (dq_w dwm_255 0 rfl)
theorem dX6_prices_33 : decode cX6_prices 33 = .ok (.invokevirtual 253, 3) := dq_182 (dq_w dwm_255 1 rfl) (dq_w dwm_255 2 rfl) (dq_w dwm_255 3 rfl) rfl
theorem dX6_prices_36 : decode cX6_prices 36 = .ok (.istore_n 3, 1) := dq_62 (dq_w dwm_255 4 rfl)
theorem dX6_prices_37 : decode cX6_prices 37 = .ok (.aload_n 0, 1) := dq_42 (dq_w dwm_255 5 rfl)
theorem dX6_prices_38 : decode cX6_prices 38 = .ok (.invokevirtual 202, 3) := dq_182 (dq_w dwm_255 6 rfl) (dq_w dwm_255 7 rfl) (dq_w dwm_255 8 rfl) rfl
theorem dX6_prices_41 : decode cX6_prices 41 = .ok (.iload_n 3, 1) := dq_29 (dq_w dwm_255 9 rfl)
theorem dX6_prices_42 : decode cX6_prices 42 = .ok (.ireturn, 1) := dq_172 (dq_w dwm_255 10 rfl)
theorem dwm_256 : (cX6_owed.data.toList.drop 0).take 16 = [42, 3, 181, 0, 79, 42, 27, 28, 182, 0, 237, 156, 0, 9, 42, 2] := by decide +kernel
theorem dwm_257 : (cX6_owed.data.toList.drop 16).take 16 = [182, 0, 143, 172, 16, 247, 62, 42, 182, 0, 196, 3, 54, 4, 21, 4] := by decide +kernel
theorem dwm_258 : (cX6_owed.data.toList.drop 32).take 16 = [16, 60, 163, 0, 40, 29, 156, 0, 36, 42, 180, 0, 31, 16, 7, 27] := by decide +kernel
theorem dwm_259 : (cX6_owed.data.toList.drop 48).take 16 = [104, 28, 96, 46, 158, 0, 8, 21, 4, 167, 0, 5, 16, 247, 62, 42] := by decide +kernel
theorem dwm_260 : (cX6_owed.data.toList.drop 64).take 16 = [3, 182, 0, 135, 132, 4, 1, 167, 255, 215, 42, 182, 0, 202, 29, 172] := by decide +kernel
theorem dX6_owed_0 : decode cX6_owed 0 = .ok (.aload_n 0, 1) := dq_42 (dq_w dwm_256 0 rfl)
theorem dX6_owed_1 : decode cX6_owed 1 = .ok (.iconst 0, 1) := dq_3 (dq_w dwm_256 1 rfl)
theorem dX6_owed_2 : decode cX6_owed 2 = .ok (.putfield 79, 3) := dq_181 (dq_w dwm_256 2 rfl) (dq_w dwm_256 3 rfl) (dq_w dwm_256 4 rfl) rfl
theorem dX6_owed_5 : decode cX6_owed 5 = .ok (.aload_n 0, 1) := dq_42 (dq_w dwm_256 5 rfl)
theorem dX6_owed_6 : decode cX6_owed 6 = .ok (.iload_n 1, 1) := dq_27 (dq_w dwm_256 6 rfl)
theorem dX6_owed_7 : decode cX6_owed 7 = .ok (.iload_n 2, 1) := dq_28 (dq_w dwm_256 7 rfl)
theorem dX6_owed_8 : decode cX6_owed 8 = .ok (.invokevirtual 237, 3) := dq_182 (dq_w dwm_256 8 rfl) (dq_w dwm_256 9 rfl) (dq_w dwm_256 10 rfl) rfl
theorem dX6_owed_11 : decode cX6_owed 11 = .ok (.ifCond .ge 9, 3) := dq_156 (dq_w dwm_256 11 rfl) (dq_w dwm_256 12 rfl) (dq_w dwm_256 13 rfl) (dq_p (n := 9) rfl rfl)
theorem dX6_owed_14 : decode cX6_owed 14 = .ok (.aload_n 0, 1) := dq_42 (dq_w dwm_256 14 rfl)
theorem dX6_owed_15 : decode cX6_owed 15 = .ok (.iconst (-1), 1) := dq_2 (dq_w dwm_256 15 rfl)
theorem dX6_owed_16 : decode cX6_owed 16 = .ok (.invokevirtual 143, 3) := dq_182 (dq_w dwm_257 0 rfl) (dq_w dwm_257 1 rfl) (dq_w dwm_257 2 rfl) rfl
theorem dX6_owed_19 : decode cX6_owed 19 = .ok (.ireturn, 1) := dq_172 (dq_w dwm_257 3 rfl)
theorem dX6_owed_20 : decode cX6_owed 20 = .ok (.bipush (-9), 2) := dq_16 (dq_w dwm_257 4 rfl) (dq_w dwm_257 5 rfl) rfl
theorem dX6_owed_22 : decode cX6_owed 22 = .ok (.istore_n 3, 1) := dq_62 (dq_w dwm_257 6 rfl)
theorem dX6_owed_23 : decode cX6_owed 23 = .ok (.aload_n 0, 1) := dq_42 (dq_w dwm_257 7 rfl)
theorem dX6_owed_24 : decode cX6_owed 24 = .ok (.invokevirtual 196, 3) := dq_182 (dq_w dwm_257 8 rfl) (dq_w dwm_257 9 rfl) (dq_w dwm_257 10 rfl) rfl
theorem dX6_owed_27 : decode cX6_owed 27 = .ok (.iconst 0, 1) := dq_3 (dq_w dwm_257 11 rfl)
theorem dX6_owed_28 : decode cX6_owed 28 = .ok (.istore 4, 2) := dq_54 (dq_w dwm_257 12 rfl) (dq_w dwm_257 13 rfl) rfl
theorem dX6_owed_30 : decode cX6_owed 30 = .ok (.iload 4, 2) := dq_21 (dq_w dwm_257 14 rfl) (dq_w dwm_257 15 rfl) rfl
theorem dX6_owed_32 : decode cX6_owed 32 = .ok (.bipush 60, 2) := dq_16 (dq_w dwm_258 0 rfl) (dq_w dwm_258 1 rfl) rfl
theorem dX6_owed_34 : decode cX6_owed 34 = .ok (.if_icmp .gt 40, 3) := dq_163 (dq_w dwm_258 2 rfl) (dq_w dwm_258 3 rfl) (dq_w dwm_258 4 rfl) (dq_p (n := 40) rfl rfl)
theorem dX6_owed_37 : decode cX6_owed 37 = .ok (.iload_n 3, 1) := dq_29 (dq_w dwm_258 5 rfl)
theorem dX6_owed_38 : decode cX6_owed 38 = .ok (.ifCond .ge 36, 3) := dq_156 (dq_w dwm_258 6 rfl) (dq_w dwm_258 7 rfl) (dq_w dwm_258 8 rfl) (dq_p (n := 36) rfl rfl)
theorem dX6_owed_41 : decode cX6_owed 41 = .ok (.aload_n 0, 1) := dq_42 (dq_w dwm_258 9 rfl)
theorem dX6_owed_42 : decode cX6_owed 42 = .ok (.getfield 31, 3) := dq_180 (dq_w dwm_258 10 rfl) (dq_w dwm_258 11 rfl) (dq_w dwm_258 12 rfl) rfl
theorem dX6_owed_45 : decode cX6_owed 45 = .ok (.bipush 7, 2) := dq_16 (dq_w dwm_258 13 rfl) (dq_w dwm_258 14 rfl) rfl
theorem dX6_owed_47 : decode cX6_owed 47 = .ok (.iload_n 1, 1) := dq_27 (dq_w dwm_258 15 rfl)
theorem dX6_owed_48 : decode cX6_owed 48 = .ok (.imul, 1) := dq_104 (dq_w dwm_259 0 rfl)
theorem dX6_owed_49 : decode cX6_owed 49 = .ok (.iload_n 2, 1) := dq_28 (dq_w dwm_259 1 rfl)
theorem dX6_owed_50 : decode cX6_owed 50 = .ok (.iadd, 1) := dq_96 (dq_w dwm_259 2 rfl)
theorem dX6_owed_51 : decode cX6_owed 51 = .ok (.iaload, 1) := dq_46 (dq_w dwm_259 3 rfl)
theorem dX6_owed_52 : decode cX6_owed 52 = .ok (.ifCond .le 8, 3) := dq_158 (dq_w dwm_259 4 rfl) (dq_w dwm_259 5 rfl) (dq_w dwm_259 6 rfl) (dq_p (n := 8) rfl rfl)
theorem dX6_owed_55 : decode cX6_owed 55 = .ok (.iload 4, 2) := dq_21 (dq_w dwm_259 7 rfl) (dq_w dwm_259 8 rfl) rfl
theorem dX6_owed_57 : decode cX6_owed 57 = .ok (.goto 5, 3) := dq_167 (dq_w dwm_259 9 rfl) (dq_w dwm_259 10 rfl) (dq_w dwm_259 11 rfl) (dq_p (n := 5) rfl rfl)
theorem dX6_owed_60 : decode cX6_owed 60 = .ok (.bipush (-9), 2) := dq_16 (dq_w dwm_259 12 rfl) (dq_w dwm_259 13 rfl) rfl
theorem dX6_owed_62 : decode cX6_owed 62 = .ok (.istore_n 3, 1) := dq_62 (dq_w dwm_259 14 rfl)
theorem dX6_owed_63 : decode cX6_owed 63 = .ok (.aload_n 0, 1) := dq_42 (dq_w dwm_259 15 rfl)
theorem dX6_owed_64 : decode cX6_owed 64 = .ok (.iconst 0, 1) := dq_3 (dq_w dwm_260 0 rfl)
theorem dX6_owed_65 : decode cX6_owed 65 = .ok (.invokevirtual 135, 3) := dq_182 (dq_w dwm_260 1 rfl) (dq_w dwm_260 2 rfl) (dq_w dwm_260 3 rfl) rfl
theorem dX6_owed_68 : decode cX6_owed 68 = .ok (.iinc 4 1, 3) := dq_132 (dq_w dwm_260 4 rfl) (dq_w dwm_260 5 rfl) rfl (dq_w dwm_260 6 rfl) rfl
theorem dX6_owed_71 : decode cX6_owed 71 = .ok (.goto (-41), 3) := dq_167 (dq_w dwm_260 7 rfl) (dq_w dwm_260 8 rfl) (dq_w dwm_260 9 rfl) (dq_n (m := 41) rfl rfl)
theorem dX6_owed_74 : decode cX6_owed 74 = .ok (.aload_n 0, 1) := dq_42 (dq_w dwm_260 10 rfl)
theorem dX6_owed_75 : decode cX6_owed 75 = .ok (.invokevirtual 202, 3) := dq_182 (dq_w dwm_260 11 rfl) (dq_w dwm_260 12 rfl) (dq_w dwm_260 13 rfl) rfl
theorem dX6_owed_78 : decode cX6_owed 78 = .ok (.iload_n 3, 1) := dq_29 (dq_w dwm_260 14 rfl)
theorem dX6_owed_79 : decode cX6_owed 79 = .ok (.ireturn, 1) := dq_172 (dq_w dwm_260 15 rfl)
theorem dwm_261 : (cX6_home.data.toList.drop 0).take 16 = [42, 3, 181, 0, 79, 42, 27, 182, 0, 184, 154, 0, 9, 42, 2, 182] := by decide +kernel
theorem dwm_262 : (cX6_home.data.toList.drop 16).take 16 = [0, 143, 172, 16, 247, 61, 42, 182, 0, 196, 3, 62, 29, 16, 60, 163] := by decide +kernel
theorem dwm_263 : (cX6_home.data.toList.drop 32).take 16 = [0, 40, 28, 156, 0, 36, 42, 180, 0, 22, 27, 46, 42, 180, 0, 25] := by decide +kernel
theorem dwm_264 : (cX6_home.data.toList.drop 48).take 16 = [27, 46, 160, 0, 7, 29, 167, 0, 5, 16, 247, 61, 42, 3, 182, 0] := by decide +kernel
theorem dwm_265 : (cX6_home.data.toList.drop 64).take 16 = [135, 132, 3, 1, 167, 255, 216, 42, 182, 0, 202, 28, 172] := by decide +kernel
theorem dX6_home_0 : decode cX6_home 0 = .ok (.aload_n 0, 1) := dq_42 (dq_w dwm_261 0 rfl)
theorem dX6_home_1 : decode cX6_home 1 = .ok (.iconst 0, 1) := dq_3 (dq_w dwm_261 1 rfl)
theorem dX6_home_2 : decode cX6_home 2 = .ok (.putfield 79, 3) := dq_181 (dq_w dwm_261 2 rfl) (dq_w dwm_261 3 rfl) (dq_w dwm_261 4 rfl) rfl
theorem dX6_home_5 : decode cX6_home 5 = .ok (.aload_n 0, 1) := dq_42 (dq_w dwm_261 5 rfl)
theorem dX6_home_6 : decode cX6_home 6 = .ok (.iload_n 1, 1) := dq_27 (dq_w dwm_261 6 rfl)
theorem dX6_home_7 : decode cX6_home 7 = .ok (.invokevirtual 184, 3) := dq_182 (dq_w dwm_261 7 rfl) (dq_w dwm_261 8 rfl) (dq_w dwm_261 9 rfl) rfl
theorem dX6_home_10 : decode cX6_home 10 = .ok (.ifCond .ne 9, 3) := dq_154 (dq_w dwm_261 10 rfl) (dq_w dwm_261 11 rfl) (dq_w dwm_261 12 rfl) (dq_p (n := 9) rfl rfl)
theorem dX6_home_13 : decode cX6_home 13 = .ok (.aload_n 0, 1) := dq_42 (dq_w dwm_261 13 rfl)
theorem dX6_home_14 : decode cX6_home 14 = .ok (.iconst (-1), 1) := dq_2 (dq_w dwm_261 14 rfl)
theorem dX6_home_15 : decode cX6_home 15 = .ok (.invokevirtual 143, 3) := dq_182 (dq_w dwm_261 15 rfl) (dq_w dwm_262 0 rfl) (dq_w dwm_262 1 rfl) rfl
theorem dX6_home_18 : decode cX6_home 18 = .ok (.ireturn, 1) := dq_172 (dq_w dwm_262 2 rfl)
theorem dX6_home_19 : decode cX6_home 19 = .ok (.bipush (-9), 2) := dq_16 (dq_w dwm_262 3 rfl) (dq_w dwm_262 4 rfl) rfl
theorem dX6_home_21 : decode cX6_home 21 = .ok (.istore_n 2, 1) := dq_61 (dq_w dwm_262 5 rfl)
theorem dX6_home_22 : decode cX6_home 22 = .ok (.aload_n 0, 1) := dq_42 (dq_w dwm_262 6 rfl)
theorem dX6_home_23 : decode cX6_home 23 = .ok (.invokevirtual 196, 3) := dq_182 (dq_w dwm_262 7 rfl) (dq_w dwm_262 8 rfl) (dq_w dwm_262 9 rfl) rfl
theorem dX6_home_26 : decode cX6_home 26 = .ok (.iconst 0, 1) := dq_3 (dq_w dwm_262 10 rfl)
theorem dX6_home_27 : decode cX6_home 27 = .ok (.istore_n 3, 1) := dq_62 (dq_w dwm_262 11 rfl)
theorem dX6_home_28 : decode cX6_home 28 = .ok (.iload_n 3, 1) := dq_29 (dq_w dwm_262 12 rfl)
theorem dX6_home_29 : decode cX6_home 29 = .ok (.bipush 60, 2) := dq_16 (dq_w dwm_262 13 rfl) (dq_w dwm_262 14 rfl) rfl
theorem dX6_home_31 : decode cX6_home 31 = .ok (.if_icmp .gt 40, 3) := dq_163 (dq_w dwm_262 15 rfl) (dq_w dwm_263 0 rfl) (dq_w dwm_263 1 rfl) (dq_p (n := 40) rfl rfl)
theorem dX6_home_34 : decode cX6_home 34 = .ok (.iload_n 2, 1) := dq_28 (dq_w dwm_263 2 rfl)
theorem dX6_home_35 : decode cX6_home 35 = .ok (.ifCond .ge 36, 3) := dq_156 (dq_w dwm_263 3 rfl) (dq_w dwm_263 4 rfl) (dq_w dwm_263 5 rfl) (dq_p (n := 36) rfl rfl)
theorem dX6_home_38 : decode cX6_home 38 = .ok (.aload_n 0, 1) := dq_42 (dq_w dwm_263 6 rfl)
theorem dX6_home_39 : decode cX6_home 39 = .ok (.getfield 22, 3) := dq_180 (dq_w dwm_263 7 rfl) (dq_w dwm_263 8 rfl) (dq_w dwm_263 9 rfl) rfl
theorem dX6_home_42 : decode cX6_home 42 = .ok (.iload_n 1, 1) := dq_27 (dq_w dwm_263 10 rfl)
theorem dX6_home_43 : decode cX6_home 43 = .ok (.iaload, 1) := dq_46 (dq_w dwm_263 11 rfl)
theorem dX6_home_44 : decode cX6_home 44 = .ok (.aload_n 0, 1) := dq_42 (dq_w dwm_263 12 rfl)
theorem dX6_home_45 : decode cX6_home 45 = .ok (.getfield 25, 3) := dq_180 (dq_w dwm_263 13 rfl) (dq_w dwm_263 14 rfl) (dq_w dwm_263 15 rfl) rfl
theorem dX6_home_48 : decode cX6_home 48 = .ok (.iload_n 1, 1) := dq_27 (dq_w dwm_264 0 rfl)
theorem dX6_home_49 : decode cX6_home 49 = .ok (.iaload, 1) := dq_46 (dq_w dwm_264 1 rfl)
theorem dX6_home_50 : decode cX6_home 50 = .ok (.if_icmp .ne 7, 3) := dq_160 (dq_w dwm_264 2 rfl) (dq_w dwm_264 3 rfl) (dq_w dwm_264 4 rfl) (dq_p (n := 7) rfl rfl)
theorem dX6_home_53 : decode cX6_home 53 = .ok (.iload_n 3, 1) := dq_29 (dq_w dwm_264 5 rfl)
theorem dX6_home_54 : decode cX6_home 54 = .ok (.goto 5, 3) := dq_167 (dq_w dwm_264 6 rfl) (dq_w dwm_264 7 rfl) (dq_w dwm_264 8 rfl) (dq_p (n := 5) rfl rfl)
theorem dX6_home_57 : decode cX6_home 57 = .ok (.bipush (-9), 2) := dq_16 (dq_w dwm_264 9 rfl) (dq_w dwm_264 10 rfl) rfl
theorem dX6_home_59 : decode cX6_home 59 = .ok (.istore_n 2, 1) := dq_61 (dq_w dwm_264 11 rfl)
theorem dX6_home_60 : decode cX6_home 60 = .ok (.aload_n 0, 1) := dq_42 (dq_w dwm_264 12 rfl)
theorem dX6_home_61 : decode cX6_home 61 = .ok (.iconst 0, 1) := dq_3 (dq_w dwm_264 13 rfl)
theorem dX6_home_62 : decode cX6_home 62 = .ok (.invokevirtual 135, 3) := dq_182 (dq_w dwm_264 14 rfl) (dq_w dwm_264 15 rfl) (dq_w dwm_265 0 rfl) rfl
theorem dX6_home_65 : decode cX6_home 65 = .ok (.iinc 3 1, 3) := dq_132 (dq_w dwm_265 1 rfl) (dq_w dwm_265 2 rfl) rfl (dq_w dwm_265 3 rfl) rfl
theorem dX6_home_68 : decode cX6_home 68 = .ok (.goto (-40), 3) := dq_167 (dq_w dwm_265 4 rfl) (dq_w dwm_265 5 rfl) (dq_w dwm_265 6 rfl) (dq_n (m := 40) rfl rfl)
theorem dX6_home_71 : decode cX6_home 71 = .ok (.aload_n 0, 1) := dq_42 (dq_w dwm_265 7 rfl)
theorem dX6_home_72 : decode cX6_home 72 = .ok (.invokevirtual 202, 3) := dq_182 (dq_w dwm_265 8 rfl) (dq_w dwm_265 9 rfl) (dq_w dwm_265 10 rfl) rfl
theorem dX6_home_75 : decode cX6_home 75 = .ok (.iload_n 2, 1) := dq_28 (dq_w dwm_265 11 rfl)
theorem dX6_home_76 : decode cX6_home 76 = .ok (.ireturn, 1) := dq_172 (dq_w dwm_265 12 rfl)
theorem dwm_266 : (cX6_richest.data.toList.drop 0).take 16 = [42, 3, 181, 0, 79, 27, 133, 9, 10, 184, 0, 85, 154, 0, 10, 42] := by decide +kernel
theorem dwm_267 : (cX6_richest.data.toList.drop 16).take 16 = [16, 254, 182, 0, 143, 172, 16, 247, 61, 3, 62, 3, 54, 4, 21, 4] := by decide +kernel
theorem dwm_268 : (cX6_richest.data.toList.drop 32).take 16 = [27, 154, 0, 10, 42, 180, 0, 89, 167, 0, 7, 42, 180, 0, 92, 162] := by decide +kernel
theorem dwm_269 : (cX6_richest.data.toList.drop 48).take 16 = [0, 59, 27, 154, 0, 15, 42, 21, 4, 182, 0, 229, 184, 0, 119, 167] := by decide +kernel
theorem dwm_270 : (cX6_richest.data.toList.drop 64).take 16 = [0, 9, 42, 21, 4, 182, 0, 113, 54, 5, 21, 5, 29, 164, 0, 8] := by decide +kernel
theorem dwm_271 : (cX6_richest.data.toList.drop 80).take 16 = [21, 4, 167, 0, 4, 28, 61, 21, 5, 29, 164, 0, 8, 21, 5, 167] := by decide +kernel
theorem dwm_272 : (cX6_richest.data.toList.drop 96).take 16 = [0, 4, 29, 62, 132, 4, 1, 167, 255, 183, 28, 172] := by decide +kernel
theorem dX6_richest_0 : decode cX6_richest 0 = .ok (.aload_n 0, 1) := dq_42 (dq_w dwm_266 0 rfl)
theorem dX6_richest_1 : decode cX6_richest 1 = .ok (.iconst 0, 1) := dq_3 (dq_w dwm_266 1 rfl)
theorem dX6_richest_2 : decode cX6_richest 2 = .ok (.putfield 79, 3) := dq_181 (dq_w dwm_266 2 rfl) (dq_w dwm_266 3 rfl) (dq_w dwm_266 4 rfl) rfl
theorem dX6_richest_5 : decode cX6_richest 5 = .ok (.iload_n 1, 1) := dq_27 (dq_w dwm_266 5 rfl)
theorem dX6_richest_6 : decode cX6_richest 6 = .ok (.i2l, 1) := dq_133 (dq_w dwm_266 6 rfl)
theorem dX6_richest_7 : decode cX6_richest 7 = .ok (.lconst 0, 1) := dq_9 (dq_w dwm_266 7 rfl)
theorem dX6_richest_8 : decode cX6_richest 8 = .ok (.lconst 1, 1) := dq_10 (dq_w dwm_266 8 rfl)
theorem dX6_richest_9 : decode cX6_richest 9 = .ok (.invokestatic 85, 3) := dq_184 (dq_w dwm_266 9 rfl) (dq_w dwm_266 10 rfl) (dq_w dwm_266 11 rfl) rfl
theorem dX6_richest_12 : decode cX6_richest 12 = .ok (.ifCond .ne 10, 3) := dq_154 (dq_w dwm_266 12 rfl) (dq_w dwm_266 13 rfl) (dq_w dwm_266 14 rfl) (dq_p (n := 10) rfl rfl)
theorem dX6_richest_15 : decode cX6_richest 15 = .ok (.aload_n 0, 1) := dq_42 (dq_w dwm_266 15 rfl)
theorem dX6_richest_16 : decode cX6_richest 16 = .ok (.bipush (-2), 2) := dq_16 (dq_w dwm_267 0 rfl) (dq_w dwm_267 1 rfl) rfl
theorem dX6_richest_18 : decode cX6_richest 18 = .ok (.invokevirtual 143, 3) := dq_182 (dq_w dwm_267 2 rfl) (dq_w dwm_267 3 rfl) (dq_w dwm_267 4 rfl) rfl
theorem dX6_richest_21 : decode cX6_richest 21 = .ok (.ireturn, 1) := dq_172 (dq_w dwm_267 5 rfl)
theorem dX6_richest_22 : decode cX6_richest 22 = .ok (.bipush (-9), 2) := dq_16 (dq_w dwm_267 6 rfl) (dq_w dwm_267 7 rfl) rfl
theorem dX6_richest_24 : decode cX6_richest 24 = .ok (.istore_n 2, 1) := dq_61 (dq_w dwm_267 8 rfl)
theorem dX6_richest_25 : decode cX6_richest 25 = .ok (.iconst 0, 1) := dq_3 (dq_w dwm_267 9 rfl)
theorem dX6_richest_26 : decode cX6_richest 26 = .ok (.istore_n 3, 1) := dq_62 (dq_w dwm_267 10 rfl)
theorem dX6_richest_27 : decode cX6_richest 27 = .ok (.iconst 0, 1) := dq_3 (dq_w dwm_267 11 rfl)
theorem dX6_richest_28 : decode cX6_richest 28 = .ok (.istore 4, 2) := dq_54 (dq_w dwm_267 12 rfl) (dq_w dwm_267 13 rfl) rfl
theorem dX6_richest_30 : decode cX6_richest 30 = .ok (.iload 4, 2) := dq_21 (dq_w dwm_267 14 rfl) (dq_w dwm_267 15 rfl) rfl
theorem dX6_richest_32 : decode cX6_richest 32 = .ok (.iload_n 1, 1) := dq_27 (dq_w dwm_268 0 rfl)
theorem dX6_richest_33 : decode cX6_richest 33 = .ok (.ifCond .ne 10, 3) := dq_154 (dq_w dwm_268 1 rfl) (dq_w dwm_268 2 rfl) (dq_w dwm_268 3 rfl) (dq_p (n := 10) rfl rfl)
theorem dX6_richest_36 : decode cX6_richest 36 = .ok (.aload_n 0, 1) := dq_42 (dq_w dwm_268 4 rfl)
theorem dX6_richest_37 : decode cX6_richest 37 = .ok (.getfield 89, 3) := dq_180 (dq_w dwm_268 5 rfl) (dq_w dwm_268 6 rfl) (dq_w dwm_268 7 rfl) rfl
theorem dX6_richest_40 : decode cX6_richest 40 = .ok (.goto 7, 3) := dq_167 (dq_w dwm_268 8 rfl) (dq_w dwm_268 9 rfl) (dq_w dwm_268 10 rfl) (dq_p (n := 7) rfl rfl)
theorem dX6_richest_43 : decode cX6_richest 43 = .ok (.aload_n 0, 1) := dq_42 (dq_w dwm_268 11 rfl)
theorem dX6_richest_44 : decode cX6_richest 44 = .ok (.getfield 92, 3) := dq_180 (dq_w dwm_268 12 rfl) (dq_w dwm_268 13 rfl) (dq_w dwm_268 14 rfl) rfl
theorem dX6_richest_47 : decode cX6_richest 47 = .ok (.if_icmp .ge 59, 3) := dq_162 (dq_w dwm_268 15 rfl) (dq_w dwm_269 0 rfl) (dq_w dwm_269 1 rfl) (dq_p (n := 59) rfl rfl)
theorem dX6_richest_50 : decode cX6_richest 50 = .ok (.iload_n 1, 1) := dq_27 (dq_w dwm_269 2 rfl)
theorem dX6_richest_51 : decode cX6_richest 51 = .ok (.ifCond .ne 15, 3) := dq_154 (dq_w dwm_269 3 rfl) (dq_w dwm_269 4 rfl) (dq_w dwm_269 5 rfl) (dq_p (n := 15) rfl rfl)
theorem dX6_richest_54 : decode cX6_richest 54 = .ok (.aload_n 0, 1) := dq_42 (dq_w dwm_269 6 rfl)
theorem dX6_richest_55 : decode cX6_richest 55 = .ok (.iload 4, 2) := dq_21 (dq_w dwm_269 7 rfl) (dq_w dwm_269 8 rfl) rfl
theorem dX6_richest_57 : decode cX6_richest 57 = .ok (.invokevirtual 229, 3) := dq_182 (dq_w dwm_269 9 rfl) (dq_w dwm_269 10 rfl) (dq_w dwm_269 11 rfl) rfl
theorem dX6_richest_60 : decode cX6_richest 60 = .ok (.invokestatic 119, 3) := dq_184 (dq_w dwm_269 12 rfl) (dq_w dwm_269 13 rfl) (dq_w dwm_269 14 rfl) rfl
theorem dX6_richest_63 : decode cX6_richest 63 = .ok (.goto 9, 3) := dq_167 (dq_w dwm_269 15 rfl) (dq_w dwm_270 0 rfl) (dq_w dwm_270 1 rfl) (dq_p (n := 9) rfl rfl)
theorem dX6_richest_66 : decode cX6_richest 66 = .ok (.aload_n 0, 1) := dq_42 (dq_w dwm_270 2 rfl)
theorem dX6_richest_67 : decode cX6_richest 67 = .ok (.iload 4, 2) := dq_21 (dq_w dwm_270 3 rfl) (dq_w dwm_270 4 rfl) rfl
theorem dX6_richest_69 : decode cX6_richest 69 = .ok (.invokevirtual 113, 3) := dq_182 (dq_w dwm_270 5 rfl) (dq_w dwm_270 6 rfl) (dq_w dwm_270 7 rfl) rfl
theorem dX6_richest_72 : decode cX6_richest 72 = .ok (.istore 5, 2) := dq_54 (dq_w dwm_270 8 rfl) (dq_w dwm_270 9 rfl) rfl
theorem dX6_richest_74 : decode cX6_richest 74 = .ok (.iload 5, 2) := dq_21 (dq_w dwm_270 10 rfl) (dq_w dwm_270 11 rfl) rfl
theorem dX6_richest_76 : decode cX6_richest 76 = .ok (.iload_n 3, 1) := dq_29 (dq_w dwm_270 12 rfl)
theorem dX6_richest_77 : decode cX6_richest 77 = .ok (.if_icmp .le 8, 3) := dq_164 (dq_w dwm_270 13 rfl) (dq_w dwm_270 14 rfl) (dq_w dwm_270 15 rfl) (dq_p (n := 8) rfl rfl)
theorem dX6_richest_80 : decode cX6_richest 80 = .ok (.iload 4, 2) := dq_21 (dq_w dwm_271 0 rfl) (dq_w dwm_271 1 rfl) rfl
theorem dX6_richest_82 : decode cX6_richest 82 = .ok (.goto 4, 3) := dq_167 (dq_w dwm_271 2 rfl) (dq_w dwm_271 3 rfl) (dq_w dwm_271 4 rfl) (dq_p (n := 4) rfl rfl)
theorem dX6_richest_85 : decode cX6_richest 85 = .ok (.iload_n 2, 1) := dq_28 (dq_w dwm_271 5 rfl)
theorem dX6_richest_86 : decode cX6_richest 86 = .ok (.istore_n 2, 1) := dq_61 (dq_w dwm_271 6 rfl)
theorem dX6_richest_87 : decode cX6_richest 87 = .ok (.iload 5, 2) := dq_21 (dq_w dwm_271 7 rfl) (dq_w dwm_271 8 rfl) rfl
theorem dX6_richest_89 : decode cX6_richest 89 = .ok (.iload_n 3, 1) := dq_29 (dq_w dwm_271 9 rfl)
theorem dX6_richest_90 : decode cX6_richest 90 = .ok (.if_icmp .le 8, 3) := dq_164 (dq_w dwm_271 10 rfl) (dq_w dwm_271 11 rfl) (dq_w dwm_271 12 rfl) (dq_p (n := 8) rfl rfl)
theorem dX6_richest_93 : decode cX6_richest 93 = .ok (.iload 5, 2) := dq_21 (dq_w dwm_271 13 rfl) (dq_w dwm_271 14 rfl) rfl
theorem dX6_richest_95 : decode cX6_richest 95 = .ok (.goto 4, 3) := dq_167 (dq_w dwm_271 15 rfl) (dq_w dwm_272 0 rfl) (dq_w dwm_272 1 rfl) (dq_p (n := 4) rfl rfl)
theorem dX6_richest_98 : decode cX6_richest 98 = .ok (.iload_n 3, 1) := dq_29 (dq_w dwm_272 2 rfl)
theorem dX6_richest_99 : decode cX6_richest 99 = .ok (.istore_n 3, 1) := dq_62 (dq_w dwm_272 3 rfl)
theorem dX6_richest_100 : decode cX6_richest 100 = .ok (.iinc 4 1, 3) := dq_132 (dq_w dwm_272 4 rfl) (dq_w dwm_272 5 rfl) rfl (dq_w dwm_272 6 rfl) rfl
theorem dX6_richest_103 : decode cX6_richest 103 = .ok (.goto (-73), 3) := dq_167 (dq_w dwm_272 7 rfl) (dq_w dwm_272 8 rfl) (dq_w dwm_272 9 rfl) (dq_n (m := 73) rfl rfl)
theorem dX6_richest_106 : decode cX6_richest 106 = .ok (.iload_n 2, 1) := dq_28 (dq_w dwm_272 10 rfl)
theorem dX6_richest_107 : decode cX6_richest 107 = .ok (.ireturn, 1) := dq_172 (dq_w dwm_272 11 rfl)
theorem dwm_273 : (cX6_beside.data.toList.drop 0).take 16 = [27, 170, 0, 0, 0, 0, 0, 74, 0, 0, 0, 0, 0, 0, 0, 2] := by decide +kernel
theorem dwm_274 : (cX6_beside.data.toList.drop 16).take 16 = [0, 0, 0, 27, 0, 0, 0, 42, 0, 0, 0, 59, 26, 16, 6, 164] := by decide +kernel
theorem dwm_275 : (cX6_beside.data.toList.drop 32).take 16 = [0, 10, 26, 16, 7, 100, 167, 0, 4, 2, 172, 26, 16, 7, 112, 16] := by decide +kernel
theorem dwm_276 : (cX6_beside.data.toList.drop 48).take 16 = [6, 162, 0, 9, 26, 4, 96, 167, 0, 4, 2, 172, 26, 16, 42, 162] := by decide +kernel
theorem dwm_277 : (cX6_beside.data.toList.drop 64).take 16 = [0, 10, 26, 16, 7, 96, 167, 0, 4, 2, 172, 26, 16, 7, 112, 158] := by decide +kernel
theorem dwm_278 : (cX6_beside.data.toList.drop 80).take 16 = [0, 9, 26, 4, 100, 167, 0, 4, 2, 172] := by decide +kernel
theorem dX6_beside_0 : decode cX6_beside 0 = .ok (.iload_n 1, 1) := dq_27 (dq_w dwm_273 0 rfl)
theorem dX6_beside_1 : decode cX6_beside 1 = .ok (.tableswitch 74 0 2 #[27, 42, 59], 27) := by decide +kernel
theorem dX6_beside_28 : decode cX6_beside 28 = .ok (.iload_n 0, 1) := dq_26 (dq_w dwm_274 12 rfl)
theorem dX6_beside_29 : decode cX6_beside 29 = .ok (.bipush 6, 2) := dq_16 (dq_w dwm_274 13 rfl) (dq_w dwm_274 14 rfl) rfl
theorem dX6_beside_31 : decode cX6_beside 31 = .ok (.if_icmp .le 10, 3) := dq_164 (dq_w dwm_274 15 rfl) (dq_w dwm_275 0 rfl) (dq_w dwm_275 1 rfl) (dq_p (n := 10) rfl rfl)
theorem dX6_beside_34 : decode cX6_beside 34 = .ok (.iload_n 0, 1) := dq_26 (dq_w dwm_275 2 rfl)
theorem dX6_beside_35 : decode cX6_beside 35 = .ok (.bipush 7, 2) := dq_16 (dq_w dwm_275 3 rfl) (dq_w dwm_275 4 rfl) rfl
theorem dX6_beside_37 : decode cX6_beside 37 = .ok (.isub, 1) := dq_100 (dq_w dwm_275 5 rfl)
theorem dX6_beside_38 : decode cX6_beside 38 = .ok (.goto 4, 3) := dq_167 (dq_w dwm_275 6 rfl) (dq_w dwm_275 7 rfl) (dq_w dwm_275 8 rfl) (dq_p (n := 4) rfl rfl)
theorem dX6_beside_41 : decode cX6_beside 41 = .ok (.iconst (-1), 1) := dq_2 (dq_w dwm_275 9 rfl)
theorem dX6_beside_42 : decode cX6_beside 42 = .ok (.ireturn, 1) := dq_172 (dq_w dwm_275 10 rfl)
theorem dX6_beside_43 : decode cX6_beside 43 = .ok (.iload_n 0, 1) := dq_26 (dq_w dwm_275 11 rfl)
theorem dX6_beside_44 : decode cX6_beside 44 = .ok (.bipush 7, 2) := dq_16 (dq_w dwm_275 12 rfl) (dq_w dwm_275 13 rfl) rfl
theorem dX6_beside_46 : decode cX6_beside 46 = .ok (.irem, 1) := dq_112 (dq_w dwm_275 14 rfl)
theorem dX6_beside_47 : decode cX6_beside 47 = .ok (.bipush 6, 2) := dq_16 (dq_w dwm_275 15 rfl) (dq_w dwm_276 0 rfl) rfl
theorem dX6_beside_49 : decode cX6_beside 49 = .ok (.if_icmp .ge 9, 3) := dq_162 (dq_w dwm_276 1 rfl) (dq_w dwm_276 2 rfl) (dq_w dwm_276 3 rfl) (dq_p (n := 9) rfl rfl)
theorem dX6_beside_52 : decode cX6_beside 52 = .ok (.iload_n 0, 1) := dq_26 (dq_w dwm_276 4 rfl)
theorem dX6_beside_53 : decode cX6_beside 53 = .ok (.iconst 1, 1) := dq_4 (dq_w dwm_276 5 rfl)
theorem dX6_beside_54 : decode cX6_beside 54 = .ok (.iadd, 1) := dq_96 (dq_w dwm_276 6 rfl)
theorem dX6_beside_55 : decode cX6_beside 55 = .ok (.goto 4, 3) := dq_167 (dq_w dwm_276 7 rfl) (dq_w dwm_276 8 rfl) (dq_w dwm_276 9 rfl) (dq_p (n := 4) rfl rfl)
theorem dX6_beside_58 : decode cX6_beside 58 = .ok (.iconst (-1), 1) := dq_2 (dq_w dwm_276 10 rfl)
theorem dX6_beside_59 : decode cX6_beside 59 = .ok (.ireturn, 1) := dq_172 (dq_w dwm_276 11 rfl)
theorem dX6_beside_60 : decode cX6_beside 60 = .ok (.iload_n 0, 1) := dq_26 (dq_w dwm_276 12 rfl)
theorem dX6_beside_61 : decode cX6_beside 61 = .ok (.bipush 42, 2) := dq_16 (dq_w dwm_276 13 rfl) (dq_w dwm_276 14 rfl) rfl
theorem dX6_beside_63 : decode cX6_beside 63 = .ok (.if_icmp .ge 10, 3) := dq_162 (dq_w dwm_276 15 rfl) (dq_w dwm_277 0 rfl) (dq_w dwm_277 1 rfl) (dq_p (n := 10) rfl rfl)
theorem dX6_beside_66 : decode cX6_beside 66 = .ok (.iload_n 0, 1) := dq_26 (dq_w dwm_277 2 rfl)
theorem dX6_beside_67 : decode cX6_beside 67 = .ok (.bipush 7, 2) := dq_16 (dq_w dwm_277 3 rfl) (dq_w dwm_277 4 rfl) rfl
theorem dX6_beside_69 : decode cX6_beside 69 = .ok (.iadd, 1) := dq_96 (dq_w dwm_277 5 rfl)
theorem dX6_beside_70 : decode cX6_beside 70 = .ok (.goto 4, 3) := dq_167 (dq_w dwm_277 6 rfl) (dq_w dwm_277 7 rfl) (dq_w dwm_277 8 rfl) (dq_p (n := 4) rfl rfl)
theorem dX6_beside_73 : decode cX6_beside 73 = .ok (.iconst (-1), 1) := dq_2 (dq_w dwm_277 9 rfl)
theorem dX6_beside_74 : decode cX6_beside 74 = .ok (.ireturn, 1) := dq_172 (dq_w dwm_277 10 rfl)
theorem dX6_beside_75 : decode cX6_beside 75 = .ok (.iload_n 0, 1) := dq_26 (dq_w dwm_277 11 rfl)
theorem dX6_beside_76 : decode cX6_beside 76 = .ok (.bipush 7, 2) := dq_16 (dq_w dwm_277 12 rfl) (dq_w dwm_277 13 rfl) rfl
theorem dX6_beside_78 : decode cX6_beside 78 = .ok (.irem, 1) := dq_112 (dq_w dwm_277 14 rfl)
theorem dX6_beside_79 : decode cX6_beside 79 = .ok (.ifCond .le 9, 3) := dq_158 (dq_w dwm_277 15 rfl) (dq_w dwm_278 0 rfl) (dq_w dwm_278 1 rfl) (dq_p (n := 9) rfl rfl)
theorem dX6_beside_82 : decode cX6_beside 82 = .ok (.iload_n 0, 1) := dq_26 (dq_w dwm_278 2 rfl)
theorem dX6_beside_83 : decode cX6_beside 83 = .ok (.iconst 1, 1) := dq_4 (dq_w dwm_278 3 rfl)
theorem dX6_beside_84 : decode cX6_beside 84 = .ok (.isub, 1) := dq_100 (dq_w dwm_278 4 rfl)
theorem dX6_beside_85 : decode cX6_beside 85 = .ok (.goto 4, 3) := dq_167 (dq_w dwm_278 5 rfl) (dq_w dwm_278 6 rfl) (dq_w dwm_278 7 rfl) (dq_p (n := 4) rfl rfl)
theorem dX6_beside_88 : decode cX6_beside 88 = .ok (.iconst (-1), 1) := dq_2 (dq_w dwm_278 8 rfl)
theorem dX6_beside_89 : decode cX6_beside 89 = .ok (.ireturn, 1) := dq_172 (dq_w dwm_278 9 rfl)
theorem dwm_279 : (cX6_layWays.data.toList.drop 0).take 16 = [3, 61, 28, 17, 24, 128, 162, 0, 16, 42, 180, 0, 61, 28, 2, 79] := by decide +kernel
theorem dwm_280 : (cX6_layWays.data.toList.drop 16).take 16 = [132, 2, 1, 167, 255, 239, 42, 27, 182, 0, 116, 61, 42, 180, 0, 61] := by decide +kernel
theorem dwm_281 : (cX6_layWays.data.toList.drop 32).take 16 = [17, 0, 128, 42, 180, 0, 22, 27, 46, 104, 3, 79, 42, 180, 0, 64] := by decide +kernel
theorem dwm_282 : (cX6_layWays.data.toList.drop 48).take 16 = [3, 17, 0, 128, 42, 180, 0, 22, 27, 46, 104, 79, 42, 4, 181, 1] := by decide +kernel
theorem dwm_283 : (cX6_layWays.data.toList.drop 64).take 16 = [0, 3, 62, 29, 42, 180, 1, 0, 162, 0, 151, 3, 54, 4, 21, 4] := by decide +kernel
theorem dwm_284 : (cX6_layWays.data.toList.drop 80).take 16 = [7, 162, 0, 136, 42, 180, 0, 64, 29, 46, 17, 0, 128, 108, 21, 4] := by decide +kernel
theorem dwm_285 : (cX6_layWays.data.toList.drop 96).take 16 = [184, 1, 3, 54, 5, 21, 5, 156, 0, 7, 3, 167, 0, 25, 42, 180] := by decide +kernel
theorem dwm_286 : (cX6_layWays.data.toList.drop 112).take 16 = [0, 64, 29, 46, 17, 0, 128, 112, 42, 27, 21, 5, 182, 0, 128, 28] := by decide +kernel
theorem dwm_287 : (cX6_layWays.data.toList.drop 128).take 16 = [2, 130, 126, 128, 54, 6, 21, 5, 155, 0, 75, 42, 180, 0, 61, 17] := by decide +kernel
theorem dwm_288 : (cX6_layWays.data.toList.drop 144).take 16 = [0, 128, 21, 5, 104, 21, 6, 96, 46, 156, 0, 58, 42, 180, 0, 61] := by decide +kernel
theorem dwm_289 : (cX6_layWays.data.toList.drop 160).take 16 = [17, 0, 128, 21, 5, 104, 21, 6, 96, 42, 180, 0, 61, 42, 180, 0] := by decide +kernel
theorem dwm_290 : (cX6_layWays.data.toList.drop 176).take 16 = [64, 29, 46, 46, 4, 96, 79, 42, 180, 0, 64, 42, 180, 1, 0, 17] := by decide +kernel
theorem dwm_291 : (cX6_layWays.data.toList.drop 192).take 16 = [0, 128, 21, 5, 104, 21, 6, 96, 79, 42, 89, 180, 1, 0, 4, 96] := by decide +kernel
theorem dwm_292 : (cX6_layWays.data.toList.drop 208).take 16 = [181, 1, 0, 132, 4, 1, 167, 255, 120, 132, 3, 1, 167, 255, 103, 177] := by decide +kernel
theorem dX6_layWays_0 : decode cX6_layWays 0 = .ok (.iconst 0, 1) := dq_3 (dq_w dwm_279 0 rfl)
theorem dX6_layWays_1 : decode cX6_layWays 1 = .ok (.istore_n 2, 1) := dq_61 (dq_w dwm_279 1 rfl)
theorem dX6_layWays_2 : decode cX6_layWays 2 = .ok (.iload_n 2, 1) := dq_28 (dq_w dwm_279 2 rfl)
theorem dX6_layWays_3 : decode cX6_layWays 3 = .ok (.sipush 6272, 3) := dq_17 (dq_w dwm_279 3 rfl) (dq_w dwm_279 4 rfl) (dq_w dwm_279 5 rfl) (dq_p (n := 6272) rfl rfl)
theorem dX6_layWays_6 : decode cX6_layWays 6 = .ok (.if_icmp .ge 16, 3) := dq_162 (dq_w dwm_279 6 rfl) (dq_w dwm_279 7 rfl) (dq_w dwm_279 8 rfl) (dq_p (n := 16) rfl rfl)
theorem dX6_layWays_9 : decode cX6_layWays 9 = .ok (.aload_n 0, 1) := dq_42 (dq_w dwm_279 9 rfl)
theorem dX6_layWays_10 : decode cX6_layWays 10 = .ok (.getfield 61, 3) := dq_180 (dq_w dwm_279 10 rfl) (dq_w dwm_279 11 rfl) (dq_w dwm_279 12 rfl) rfl
theorem dX6_layWays_13 : decode cX6_layWays 13 = .ok (.iload_n 2, 1) := dq_28 (dq_w dwm_279 13 rfl)
theorem dX6_layWays_14 : decode cX6_layWays 14 = .ok (.iconst (-1), 1) := dq_2 (dq_w dwm_279 14 rfl)
theorem dX6_layWays_15 : decode cX6_layWays 15 = .ok (.iastore, 1) := dq_79 (dq_w dwm_279 15 rfl)
theorem dX6_layWays_16 : decode cX6_layWays 16 = .ok (.iinc 2 1, 3) := dq_132 (dq_w dwm_280 0 rfl) (dq_w dwm_280 1 rfl) rfl (dq_w dwm_280 2 rfl) rfl
theorem dX6_layWays_19 : decode cX6_layWays 19 = .ok (.goto (-17), 3) := dq_167 (dq_w dwm_280 3 rfl) (dq_w dwm_280 4 rfl) (dq_w dwm_280 5 rfl) (dq_n (m := 17) rfl rfl)
theorem dX6_layWays_22 : decode cX6_layWays 22 = .ok (.aload_n 0, 1) := dq_42 (dq_w dwm_280 6 rfl)
theorem dX6_layWays_23 : decode cX6_layWays 23 = .ok (.iload_n 1, 1) := dq_27 (dq_w dwm_280 7 rfl)
theorem dX6_layWays_24 : decode cX6_layWays 24 = .ok (.invokevirtual 116, 3) := dq_182 (dq_w dwm_280 8 rfl) (dq_w dwm_280 9 rfl) (dq_w dwm_280 10 rfl) rfl
theorem dX6_layWays_27 : decode cX6_layWays 27 = .ok (.istore_n 2, 1) := dq_61 (dq_w dwm_280 11 rfl)
theorem dX6_layWays_28 : decode cX6_layWays 28 = .ok (.aload_n 0, 1) := dq_42 (dq_w dwm_280 12 rfl)
theorem dX6_layWays_29 : decode cX6_layWays 29 = .ok (.getfield 61, 3) := dq_180 (dq_w dwm_280 13 rfl) (dq_w dwm_280 14 rfl) (dq_w dwm_280 15 rfl) rfl
theorem dX6_layWays_32 : decode cX6_layWays 32 = .ok (.sipush 128, 3) := dq_17 (dq_w dwm_281 0 rfl) (dq_w dwm_281 1 rfl) (dq_w dwm_281 2 rfl) (dq_p (n := 128) rfl rfl)
theorem dX6_layWays_35 : decode cX6_layWays 35 = .ok (.aload_n 0, 1) := dq_42 (dq_w dwm_281 3 rfl)
theorem dX6_layWays_36 : decode cX6_layWays 36 = .ok (.getfield 22, 3) := dq_180 (dq_w dwm_281 4 rfl) (dq_w dwm_281 5 rfl) (dq_w dwm_281 6 rfl) rfl
theorem dX6_layWays_39 : decode cX6_layWays 39 = .ok (.iload_n 1, 1) := dq_27 (dq_w dwm_281 7 rfl)
theorem dX6_layWays_40 : decode cX6_layWays 40 = .ok (.iaload, 1) := dq_46 (dq_w dwm_281 8 rfl)
theorem dX6_layWays_41 : decode cX6_layWays 41 = .ok (.imul, 1) := dq_104 (dq_w dwm_281 9 rfl)
theorem dX6_layWays_42 : decode cX6_layWays 42 = .ok (.iconst 0, 1) := dq_3 (dq_w dwm_281 10 rfl)
theorem dX6_layWays_43 : decode cX6_layWays 43 = .ok (.iastore, 1) := dq_79 (dq_w dwm_281 11 rfl)
theorem dX6_layWays_44 : decode cX6_layWays 44 = .ok (.aload_n 0, 1) := dq_42 (dq_w dwm_281 12 rfl)
theorem dX6_layWays_45 : decode cX6_layWays 45 = .ok (.getfield 64, 3) := dq_180 (dq_w dwm_281 13 rfl) (dq_w dwm_281 14 rfl) (dq_w dwm_281 15 rfl) rfl
theorem dX6_layWays_48 : decode cX6_layWays 48 = .ok (.iconst 0, 1) := dq_3 (dq_w dwm_282 0 rfl)
theorem dX6_layWays_49 : decode cX6_layWays 49 = .ok (.sipush 128, 3) := dq_17 (dq_w dwm_282 1 rfl) (dq_w dwm_282 2 rfl) (dq_w dwm_282 3 rfl) (dq_p (n := 128) rfl rfl)
theorem dX6_layWays_52 : decode cX6_layWays 52 = .ok (.aload_n 0, 1) := dq_42 (dq_w dwm_282 4 rfl)
theorem dX6_layWays_53 : decode cX6_layWays 53 = .ok (.getfield 22, 3) := dq_180 (dq_w dwm_282 5 rfl) (dq_w dwm_282 6 rfl) (dq_w dwm_282 7 rfl) rfl
theorem dX6_layWays_56 : decode cX6_layWays 56 = .ok (.iload_n 1, 1) := dq_27 (dq_w dwm_282 8 rfl)
theorem dX6_layWays_57 : decode cX6_layWays 57 = .ok (.iaload, 1) := dq_46 (dq_w dwm_282 9 rfl)
theorem dX6_layWays_58 : decode cX6_layWays 58 = .ok (.imul, 1) := dq_104 (dq_w dwm_282 10 rfl)
theorem dX6_layWays_59 : decode cX6_layWays 59 = .ok (.iastore, 1) := dq_79 (dq_w dwm_282 11 rfl)
theorem dX6_layWays_60 : decode cX6_layWays 60 = .ok (.aload_n 0, 1) := dq_42 (dq_w dwm_282 12 rfl)
theorem dX6_layWays_61 : decode cX6_layWays 61 = .ok (.iconst 1, 1) := dq_4 (dq_w dwm_282 13 rfl)
theorem dX6_layWays_62 : decode cX6_layWays 62 = .ok (.putfield 256, 3) := dq_181 (dq_w dwm_282 14 rfl) (dq_w dwm_282 15 rfl) (dq_w dwm_283 0 rfl) rfl
theorem dX6_layWays_65 : decode cX6_layWays 65 = .ok (.iconst 0, 1) := dq_3 (dq_w dwm_283 1 rfl)
theorem dX6_layWays_66 : decode cX6_layWays 66 = .ok (.istore_n 3, 1) := dq_62 (dq_w dwm_283 2 rfl)
theorem dX6_layWays_67 : decode cX6_layWays 67 = .ok (.iload_n 3, 1) := dq_29 (dq_w dwm_283 3 rfl)
theorem dX6_layWays_68 : decode cX6_layWays 68 = .ok (.aload_n 0, 1) := dq_42 (dq_w dwm_283 4 rfl)
theorem dX6_layWays_69 : decode cX6_layWays 69 = .ok (.getfield 256, 3) := dq_180 (dq_w dwm_283 5 rfl) (dq_w dwm_283 6 rfl) (dq_w dwm_283 7 rfl) rfl
theorem dX6_layWays_72 : decode cX6_layWays 72 = .ok (.if_icmp .ge 151, 3) := dq_162 (dq_w dwm_283 8 rfl) (dq_w dwm_283 9 rfl) (dq_w dwm_283 10 rfl) (dq_p (n := 151) rfl rfl)
theorem dX6_layWays_75 : decode cX6_layWays 75 = .ok (.iconst 0, 1) := dq_3 (dq_w dwm_283 11 rfl)
theorem dX6_layWays_76 : decode cX6_layWays 76 = .ok (.istore 4, 2) := dq_54 (dq_w dwm_283 12 rfl) (dq_w dwm_283 13 rfl) rfl
theorem dX6_layWays_78 : decode cX6_layWays 78 = .ok (.iload 4, 2) := dq_21 (dq_w dwm_283 14 rfl) (dq_w dwm_283 15 rfl) rfl
theorem dX6_layWays_80 : decode cX6_layWays 80 = .ok (.iconst 4, 1) := dq_7 (dq_w dwm_284 0 rfl)
theorem dX6_layWays_81 : decode cX6_layWays 81 = .ok (.if_icmp .ge 136, 3) := dq_162 (dq_w dwm_284 1 rfl) (dq_w dwm_284 2 rfl) (dq_w dwm_284 3 rfl) (dq_p (n := 136) rfl rfl)
theorem dX6_layWays_84 : decode cX6_layWays 84 = .ok (.aload_n 0, 1) := dq_42 (dq_w dwm_284 4 rfl)
theorem dX6_layWays_85 : decode cX6_layWays 85 = .ok (.getfield 64, 3) := dq_180 (dq_w dwm_284 5 rfl) (dq_w dwm_284 6 rfl) (dq_w dwm_284 7 rfl) rfl
theorem dX6_layWays_88 : decode cX6_layWays 88 = .ok (.iload_n 3, 1) := dq_29 (dq_w dwm_284 8 rfl)
theorem dX6_layWays_89 : decode cX6_layWays 89 = .ok (.iaload, 1) := dq_46 (dq_w dwm_284 9 rfl)
theorem dX6_layWays_90 : decode cX6_layWays 90 = .ok (.sipush 128, 3) := dq_17 (dq_w dwm_284 10 rfl) (dq_w dwm_284 11 rfl) (dq_w dwm_284 12 rfl) (dq_p (n := 128) rfl rfl)
theorem dX6_layWays_93 : decode cX6_layWays 93 = .ok (.idiv, 1) := dq_108 (dq_w dwm_284 13 rfl)
theorem dX6_layWays_94 : decode cX6_layWays 94 = .ok (.iload 4, 2) := dq_21 (dq_w dwm_284 14 rfl) (dq_w dwm_284 15 rfl) rfl
theorem dX6_layWays_96 : decode cX6_layWays 96 = .ok (.invokestatic 259, 3) := dq_184 (dq_w dwm_285 0 rfl) (dq_w dwm_285 1 rfl) (dq_w dwm_285 2 rfl) rfl
theorem dX6_layWays_99 : decode cX6_layWays 99 = .ok (.istore 5, 2) := dq_54 (dq_w dwm_285 3 rfl) (dq_w dwm_285 4 rfl) rfl
theorem dX6_layWays_101 : decode cX6_layWays 101 = .ok (.iload 5, 2) := dq_21 (dq_w dwm_285 5 rfl) (dq_w dwm_285 6 rfl) rfl
theorem dX6_layWays_103 : decode cX6_layWays 103 = .ok (.ifCond .ge 7, 3) := dq_156 (dq_w dwm_285 7 rfl) (dq_w dwm_285 8 rfl) (dq_w dwm_285 9 rfl) (dq_p (n := 7) rfl rfl)
theorem dX6_layWays_106 : decode cX6_layWays 106 = .ok (.iconst 0, 1) := dq_3 (dq_w dwm_285 10 rfl)
theorem dX6_layWays_107 : decode cX6_layWays 107 = .ok (.goto 25, 3) := dq_167 (dq_w dwm_285 11 rfl) (dq_w dwm_285 12 rfl) (dq_w dwm_285 13 rfl) (dq_p (n := 25) rfl rfl)
theorem dX6_layWays_110 : decode cX6_layWays 110 = .ok (.aload_n 0, 1) := dq_42 (dq_w dwm_285 14 rfl)
theorem dX6_layWays_111 : decode cX6_layWays 111 = .ok (.getfield 64, 3) := dq_180 (dq_w dwm_285 15 rfl) (dq_w dwm_286 0 rfl) (dq_w dwm_286 1 rfl) rfl
theorem dX6_layWays_114 : decode cX6_layWays 114 = .ok (.iload_n 3, 1) := dq_29 (dq_w dwm_286 2 rfl)
theorem dX6_layWays_115 : decode cX6_layWays 115 = .ok (.iaload, 1) := dq_46 (dq_w dwm_286 3 rfl)
theorem dX6_layWays_116 : decode cX6_layWays 116 = .ok (.sipush 128, 3) := dq_17 (dq_w dwm_286 4 rfl) (dq_w dwm_286 5 rfl) (dq_w dwm_286 6 rfl) (dq_p (n := 128) rfl rfl)
theorem dX6_layWays_119 : decode cX6_layWays 119 = .ok (.irem, 1) := dq_112 (dq_w dwm_286 7 rfl)
theorem dX6_layWays_120 : decode cX6_layWays 120 = .ok (.aload_n 0, 1) := dq_42 (dq_w dwm_286 8 rfl)
theorem dX6_layWays_121 : decode cX6_layWays 121 = .ok (.iload_n 1, 1) := dq_27 (dq_w dwm_286 9 rfl)
theorem dX6_layWays_122 : decode cX6_layWays 122 = .ok (.iload 5, 2) := dq_21 (dq_w dwm_286 10 rfl) (dq_w dwm_286 11 rfl) rfl
theorem dX6_layWays_124 : decode cX6_layWays 124 = .ok (.invokevirtual 128, 3) := dq_182 (dq_w dwm_286 12 rfl) (dq_w dwm_286 13 rfl) (dq_w dwm_286 14 rfl) rfl
theorem dX6_layWays_127 : decode cX6_layWays 127 = .ok (.iload_n 2, 1) := dq_28 (dq_w dwm_286 15 rfl)
theorem dX6_layWays_128 : decode cX6_layWays 128 = .ok (.iconst (-1), 1) := dq_2 (dq_w dwm_287 0 rfl)
theorem dX6_layWays_129 : decode cX6_layWays 129 = .ok (.ixor, 1) := dq_130 (dq_w dwm_287 1 rfl)
theorem dX6_layWays_130 : decode cX6_layWays 130 = .ok (.iand, 1) := dq_126 (dq_w dwm_287 2 rfl)
theorem dX6_layWays_131 : decode cX6_layWays 131 = .ok (.ior, 1) := dq_128 (dq_w dwm_287 3 rfl)
theorem dX6_layWays_132 : decode cX6_layWays 132 = .ok (.istore 6, 2) := dq_54 (dq_w dwm_287 4 rfl) (dq_w dwm_287 5 rfl) rfl
theorem dX6_layWays_134 : decode cX6_layWays 134 = .ok (.iload 5, 2) := dq_21 (dq_w dwm_287 6 rfl) (dq_w dwm_287 7 rfl) rfl
theorem dX6_layWays_136 : decode cX6_layWays 136 = .ok (.ifCond .lt 75, 3) := dq_155 (dq_w dwm_287 8 rfl) (dq_w dwm_287 9 rfl) (dq_w dwm_287 10 rfl) (dq_p (n := 75) rfl rfl)
theorem dX6_layWays_139 : decode cX6_layWays 139 = .ok (.aload_n 0, 1) := dq_42 (dq_w dwm_287 11 rfl)
theorem dX6_layWays_140 : decode cX6_layWays 140 = .ok (.getfield 61, 3) := dq_180 (dq_w dwm_287 12 rfl) (dq_w dwm_287 13 rfl) (dq_w dwm_287 14 rfl) rfl
theorem dX6_layWays_143 : decode cX6_layWays 143 = .ok (.sipush 128, 3) := dq_17 (dq_w dwm_287 15 rfl) (dq_w dwm_288 0 rfl) (dq_w dwm_288 1 rfl) (dq_p (n := 128) rfl rfl)
theorem dX6_layWays_146 : decode cX6_layWays 146 = .ok (.iload 5, 2) := dq_21 (dq_w dwm_288 2 rfl) (dq_w dwm_288 3 rfl) rfl
theorem dX6_layWays_148 : decode cX6_layWays 148 = .ok (.imul, 1) := dq_104 (dq_w dwm_288 4 rfl)
theorem dX6_layWays_149 : decode cX6_layWays 149 = .ok (.iload 6, 2) := dq_21 (dq_w dwm_288 5 rfl) (dq_w dwm_288 6 rfl) rfl
theorem dX6_layWays_151 : decode cX6_layWays 151 = .ok (.iadd, 1) := dq_96 (dq_w dwm_288 7 rfl)
theorem dX6_layWays_152 : decode cX6_layWays 152 = .ok (.iaload, 1) := dq_46 (dq_w dwm_288 8 rfl)
theorem dX6_layWays_153 : decode cX6_layWays 153 = .ok (.ifCond .ge 58, 3) := dq_156 (dq_w dwm_288 9 rfl) (dq_w dwm_288 10 rfl) (dq_w dwm_288 11 rfl) (dq_p (n := 58) rfl rfl)
theorem dX6_layWays_156 : decode cX6_layWays 156 = .ok (.aload_n 0, 1) := dq_42 (dq_w dwm_288 12 rfl)
theorem dX6_layWays_157 : decode cX6_layWays 157 = .ok (.getfield 61, 3) := dq_180 (dq_w dwm_288 13 rfl) (dq_w dwm_288 14 rfl) (dq_w dwm_288 15 rfl) rfl
theorem dX6_layWays_160 : decode cX6_layWays 160 = .ok (.sipush 128, 3) := dq_17 (dq_w dwm_289 0 rfl) (dq_w dwm_289 1 rfl) (dq_w dwm_289 2 rfl) (dq_p (n := 128) rfl rfl)
theorem dX6_layWays_163 : decode cX6_layWays 163 = .ok (.iload 5, 2) := dq_21 (dq_w dwm_289 3 rfl) (dq_w dwm_289 4 rfl) rfl
theorem dX6_layWays_165 : decode cX6_layWays 165 = .ok (.imul, 1) := dq_104 (dq_w dwm_289 5 rfl)
theorem dX6_layWays_166 : decode cX6_layWays 166 = .ok (.iload 6, 2) := dq_21 (dq_w dwm_289 6 rfl) (dq_w dwm_289 7 rfl) rfl
theorem dX6_layWays_168 : decode cX6_layWays 168 = .ok (.iadd, 1) := dq_96 (dq_w dwm_289 8 rfl)
theorem dX6_layWays_169 : decode cX6_layWays 169 = .ok (.aload_n 0, 1) := dq_42 (dq_w dwm_289 9 rfl)
theorem dX6_layWays_170 : decode cX6_layWays 170 = .ok (.getfield 61, 3) := dq_180 (dq_w dwm_289 10 rfl) (dq_w dwm_289 11 rfl) (dq_w dwm_289 12 rfl) rfl
theorem dX6_layWays_173 : decode cX6_layWays 173 = .ok (.aload_n 0, 1) := dq_42 (dq_w dwm_289 13 rfl)
theorem dX6_layWays_174 : decode cX6_layWays 174 = .ok (.getfield 64, 3) := dq_180 (dq_w dwm_289 14 rfl) (dq_w dwm_289 15 rfl) (dq_w dwm_290 0 rfl) rfl
theorem dX6_layWays_177 : decode cX6_layWays 177 = .ok (.iload_n 3, 1) := dq_29 (dq_w dwm_290 1 rfl)
theorem dX6_layWays_178 : decode cX6_layWays 178 = .ok (.iaload, 1) := dq_46 (dq_w dwm_290 2 rfl)
theorem dX6_layWays_179 : decode cX6_layWays 179 = .ok (.iaload, 1) := dq_46 (dq_w dwm_290 3 rfl)
theorem dX6_layWays_180 : decode cX6_layWays 180 = .ok (.iconst 1, 1) := dq_4 (dq_w dwm_290 4 rfl)
theorem dX6_layWays_181 : decode cX6_layWays 181 = .ok (.iadd, 1) := dq_96 (dq_w dwm_290 5 rfl)
theorem dX6_layWays_182 : decode cX6_layWays 182 = .ok (.iastore, 1) := dq_79 (dq_w dwm_290 6 rfl)
theorem dX6_layWays_183 : decode cX6_layWays 183 = .ok (.aload_n 0, 1) := dq_42 (dq_w dwm_290 7 rfl)
theorem dX6_layWays_184 : decode cX6_layWays 184 = .ok (.getfield 64, 3) := dq_180 (dq_w dwm_290 8 rfl) (dq_w dwm_290 9 rfl) (dq_w dwm_290 10 rfl) rfl
theorem dX6_layWays_187 : decode cX6_layWays 187 = .ok (.aload_n 0, 1) := dq_42 (dq_w dwm_290 11 rfl)
theorem dX6_layWays_188 : decode cX6_layWays 188 = .ok (.getfield 256, 3) := dq_180 (dq_w dwm_290 12 rfl) (dq_w dwm_290 13 rfl) (dq_w dwm_290 14 rfl) rfl
theorem dX6_layWays_191 : decode cX6_layWays 191 = .ok (.sipush 128, 3) := dq_17 (dq_w dwm_290 15 rfl) (dq_w dwm_291 0 rfl) (dq_w dwm_291 1 rfl) (dq_p (n := 128) rfl rfl)
theorem dX6_layWays_194 : decode cX6_layWays 194 = .ok (.iload 5, 2) := dq_21 (dq_w dwm_291 2 rfl) (dq_w dwm_291 3 rfl) rfl
theorem dX6_layWays_196 : decode cX6_layWays 196 = .ok (.imul, 1) := dq_104 (dq_w dwm_291 4 rfl)
theorem dX6_layWays_197 : decode cX6_layWays 197 = .ok (.iload 6, 2) := dq_21 (dq_w dwm_291 5 rfl) (dq_w dwm_291 6 rfl) rfl
theorem dX6_layWays_199 : decode cX6_layWays 199 = .ok (.iadd, 1) := dq_96 (dq_w dwm_291 7 rfl)
theorem dX6_layWays_200 : decode cX6_layWays 200 = .ok (.iastore, 1) := dq_79 (dq_w dwm_291 8 rfl)
theorem dX6_layWays_201 : decode cX6_layWays 201 = .ok (.aload_n 0, 1) := dq_42 (dq_w dwm_291 9 rfl)
theorem dX6_layWays_202 : decode cX6_layWays 202 = .ok (.dup, 1) := dq_89 (dq_w dwm_291 10 rfl)
theorem dX6_layWays_203 : decode cX6_layWays 203 = .ok (.getfield 256, 3) := dq_180 (dq_w dwm_291 11 rfl) (dq_w dwm_291 12 rfl) (dq_w dwm_291 13 rfl) rfl
theorem dX6_layWays_206 : decode cX6_layWays 206 = .ok (.iconst 1, 1) := dq_4 (dq_w dwm_291 14 rfl)
theorem dX6_layWays_207 : decode cX6_layWays 207 = .ok (.iadd, 1) := dq_96 (dq_w dwm_291 15 rfl)
theorem dX6_layWays_208 : decode cX6_layWays 208 = .ok (.putfield 256, 3) := dq_181 (dq_w dwm_292 0 rfl) (dq_w dwm_292 1 rfl) (dq_w dwm_292 2 rfl) rfl
theorem dX6_layWays_211 : decode cX6_layWays 211 = .ok (.iinc 4 1, 3) := dq_132 (dq_w dwm_292 3 rfl) (dq_w dwm_292 4 rfl) rfl (dq_w dwm_292 5 rfl) rfl
theorem dX6_layWays_214 : decode cX6_layWays 214 = .ok (.goto (-136), 3) := dq_167 (dq_w dwm_292 6 rfl) (dq_w dwm_292 7 rfl) (dq_w dwm_292 8 rfl) (dq_n (m := 136) rfl rfl)
theorem dX6_layWays_217 : decode cX6_layWays 217 = .ok (.iinc 3 1, 3) := dq_132 (dq_w dwm_292 9 rfl) (dq_w dwm_292 10 rfl) rfl (dq_w dwm_292 11 rfl) rfl
theorem dX6_layWays_220 : decode cX6_layWays 220 = .ok (.goto (-153), 3) := dq_167 (dq_w dwm_292 12 rfl) (dq_w dwm_292 13 rfl) (dq_w dwm_292 14 rfl) (dq_n (m := 153) rfl rfl)
theorem dX6_layWays_223 : decode cX6_layWays 223 = .ok (.return_, 1) := dq_177 (dq_w dwm_292 15 rfl)
theorem dwm_293 : (cX6_way.data.toList.drop 0).take 16 = [42, 3, 181, 0, 79, 42, 27, 182, 0, 184, 153, 0, 14, 28, 184, 0] := by decide +kernel
theorem dwm_294 : (cX6_way.data.toList.drop 16).take 16 = [139, 153, 0, 7, 3, 167, 0, 4, 2, 29, 4, 184, 0, 250, 54, 4] := by decide +kernel
theorem dwm_295 : (cX6_way.data.toList.drop 32).take 16 = [21, 4, 156, 0, 10, 42, 21, 4, 182, 0, 143, 172, 42, 27, 182, 1] := by decide +kernel
theorem dwm_296 : (cX6_way.data.toList.drop 48).take 16 = [6, 42, 180, 0, 22, 27, 46, 28, 184, 0, 103, 16, 12, 96, 54, 5] := by decide +kernel
theorem dwm_297 : (cX6_way.data.toList.drop 64).take 16 = [16, 8, 54, 6, 3, 54, 7, 3, 54, 8, 21, 8, 17, 0, 128, 162] := by decide +kernel
theorem dwm_298 : (cX6_way.data.toList.drop 80).take 16 = [0, 72, 42, 180, 0, 61, 17, 0, 128, 28, 104, 21, 8, 96, 46, 54] := by decide +kernel
theorem dwm_299 : (cX6_way.data.toList.drop 96).take 16 = [9, 21, 8, 184, 0, 119, 54, 10, 21, 9, 155, 0, 39, 21, 9, 21] := by decide +kernel
theorem dwm_300 : (cX6_way.data.toList.drop 112).take 16 = [5, 163, 0, 32, 21, 10, 21, 6, 161, 0, 17, 21, 10, 21, 6, 160] := by decide +kernel
theorem dwm_301 : (cX6_way.data.toList.drop 128).take 16 = [0, 18, 21, 9, 21, 7, 162, 0, 11, 21, 10, 54, 6, 21, 9, 54] := by decide +kernel
theorem dwm_302 : (cX6_way.data.toList.drop 144).take 16 = [7, 132, 8, 1, 167, 255, 182, 29, 154, 0, 8, 21, 6, 167, 0, 5] := by decide +kernel
theorem dwm_303 : (cX6_way.data.toList.drop 160).take 16 = [21, 7, 172] := by decide +kernel
theorem dX6_way_0 : decode cX6_way 0 = .ok (.aload_n 0, 1) := dq_42 (dq_w dwm_293 0 rfl)
theorem dX6_way_1 : decode cX6_way 1 = .ok (.iconst 0, 1) := dq_3 (dq_w dwm_293 1 rfl)
theorem dX6_way_2 : decode cX6_way 2 = .ok (.putfield 79, 3) := dq_181 (dq_w dwm_293 2 rfl) (dq_w dwm_293 3 rfl) (dq_w dwm_293 4 rfl) rfl
theorem dX6_way_5 : decode cX6_way 5 = .ok (.aload_n 0, 1) := dq_42 (dq_w dwm_293 5 rfl)
theorem dX6_way_6 : decode cX6_way 6 = .ok (.iload_n 1, 1) := dq_27 (dq_w dwm_293 6 rfl)
theorem dX6_way_7 : decode cX6_way 7 = .ok (.invokevirtual 184, 3) := dq_182 (dq_w dwm_293 7 rfl) (dq_w dwm_293 8 rfl) (dq_w dwm_293 9 rfl) rfl
theorem dX6_way_10 : decode cX6_way 10 = .ok (.ifCond .eq 14, 3) := dq_153 (dq_w dwm_293 10 rfl) (dq_w dwm_293 11 rfl) (dq_w dwm_293 12 rfl) (dq_p (n := 14) rfl rfl)
theorem dX6_way_13 : decode cX6_way 13 = .ok (.iload_n 2, 1) := dq_28 (dq_w dwm_293 13 rfl)
theorem dX6_way_14 : decode cX6_way 14 = .ok (.invokestatic 139, 3) := dq_184 (dq_w dwm_293 14 rfl) (dq_w dwm_293 15 rfl) (dq_w dwm_294 0 rfl) rfl
theorem dX6_way_17 : decode cX6_way 17 = .ok (.ifCond .eq 7, 3) := dq_153 (dq_w dwm_294 1 rfl) (dq_w dwm_294 2 rfl) (dq_w dwm_294 3 rfl) (dq_p (n := 7) rfl rfl)
theorem dX6_way_20 : decode cX6_way 20 = .ok (.iconst 0, 1) := dq_3 (dq_w dwm_294 4 rfl)
theorem dX6_way_21 : decode cX6_way 21 = .ok (.goto 4, 3) := dq_167 (dq_w dwm_294 5 rfl) (dq_w dwm_294 6 rfl) (dq_w dwm_294 7 rfl) (dq_p (n := 4) rfl rfl)
theorem dX6_way_24 : decode cX6_way 24 = .ok (.iconst (-1), 1) := dq_2 (dq_w dwm_294 8 rfl)
theorem dX6_way_25 : decode cX6_way 25 = .ok (.iload_n 3, 1) := dq_29 (dq_w dwm_294 9 rfl)
theorem dX6_way_26 : decode cX6_way 26 = .ok (.iconst 1, 1) := dq_4 (dq_w dwm_294 10 rfl)
theorem dX6_way_27 : decode cX6_way 27 = .ok (.invokestatic 250, 3) := dq_184 (dq_w dwm_294 11 rfl) (dq_w dwm_294 12 rfl) (dq_w dwm_294 13 rfl) rfl
theorem dX6_way_30 : decode cX6_way 30 = .ok (.istore 4, 2) := dq_54 (dq_w dwm_294 14 rfl) (dq_w dwm_294 15 rfl) rfl
theorem dX6_way_32 : decode cX6_way 32 = .ok (.iload 4, 2) := dq_21 (dq_w dwm_295 0 rfl) (dq_w dwm_295 1 rfl) rfl
theorem dX6_way_34 : decode cX6_way 34 = .ok (.ifCond .ge 10, 3) := dq_156 (dq_w dwm_295 2 rfl) (dq_w dwm_295 3 rfl) (dq_w dwm_295 4 rfl) (dq_p (n := 10) rfl rfl)
theorem dX6_way_37 : decode cX6_way 37 = .ok (.aload_n 0, 1) := dq_42 (dq_w dwm_295 5 rfl)
theorem dX6_way_38 : decode cX6_way 38 = .ok (.iload 4, 2) := dq_21 (dq_w dwm_295 6 rfl) (dq_w dwm_295 7 rfl) rfl
theorem dX6_way_40 : decode cX6_way 40 = .ok (.invokevirtual 143, 3) := dq_182 (dq_w dwm_295 8 rfl) (dq_w dwm_295 9 rfl) (dq_w dwm_295 10 rfl) rfl
theorem dX6_way_43 : decode cX6_way 43 = .ok (.ireturn, 1) := dq_172 (dq_w dwm_295 11 rfl)
theorem dX6_way_44 : decode cX6_way 44 = .ok (.aload_n 0, 1) := dq_42 (dq_w dwm_295 12 rfl)
theorem dX6_way_45 : decode cX6_way 45 = .ok (.iload_n 1, 1) := dq_27 (dq_w dwm_295 13 rfl)
theorem dX6_way_46 : decode cX6_way 46 = .ok (.invokevirtual 262, 3) := dq_182 (dq_w dwm_295 14 rfl) (dq_w dwm_295 15 rfl) (dq_w dwm_296 0 rfl) rfl
theorem dX6_way_49 : decode cX6_way 49 = .ok (.aload_n 0, 1) := dq_42 (dq_w dwm_296 1 rfl)
theorem dX6_way_50 : decode cX6_way 50 = .ok (.getfield 22, 3) := dq_180 (dq_w dwm_296 2 rfl) (dq_w dwm_296 3 rfl) (dq_w dwm_296 4 rfl) rfl
theorem dX6_way_53 : decode cX6_way 53 = .ok (.iload_n 1, 1) := dq_27 (dq_w dwm_296 5 rfl)
theorem dX6_way_54 : decode cX6_way 54 = .ok (.iaload, 1) := dq_46 (dq_w dwm_296 6 rfl)
theorem dX6_way_55 : decode cX6_way 55 = .ok (.iload_n 2, 1) := dq_28 (dq_w dwm_296 7 rfl)
theorem dX6_way_56 : decode cX6_way 56 = .ok (.invokestatic 103, 3) := dq_184 (dq_w dwm_296 8 rfl) (dq_w dwm_296 9 rfl) (dq_w dwm_296 10 rfl) rfl
theorem dX6_way_59 : decode cX6_way 59 = .ok (.bipush 12, 2) := dq_16 (dq_w dwm_296 11 rfl) (dq_w dwm_296 12 rfl) rfl
theorem dX6_way_61 : decode cX6_way 61 = .ok (.iadd, 1) := dq_96 (dq_w dwm_296 13 rfl)
theorem dX6_way_62 : decode cX6_way 62 = .ok (.istore 5, 2) := dq_54 (dq_w dwm_296 14 rfl) (dq_w dwm_296 15 rfl) rfl
theorem dX6_way_64 : decode cX6_way 64 = .ok (.bipush 8, 2) := dq_16 (dq_w dwm_297 0 rfl) (dq_w dwm_297 1 rfl) rfl
theorem dX6_way_66 : decode cX6_way 66 = .ok (.istore 6, 2) := dq_54 (dq_w dwm_297 2 rfl) (dq_w dwm_297 3 rfl) rfl
theorem dX6_way_68 : decode cX6_way 68 = .ok (.iconst 0, 1) := dq_3 (dq_w dwm_297 4 rfl)
theorem dX6_way_69 : decode cX6_way 69 = .ok (.istore 7, 2) := dq_54 (dq_w dwm_297 5 rfl) (dq_w dwm_297 6 rfl) rfl
theorem dX6_way_71 : decode cX6_way 71 = .ok (.iconst 0, 1) := dq_3 (dq_w dwm_297 7 rfl)
theorem dX6_way_72 : decode cX6_way 72 = .ok (.istore 8, 2) := dq_54 (dq_w dwm_297 8 rfl) (dq_w dwm_297 9 rfl) rfl
theorem dX6_way_74 : decode cX6_way 74 = .ok (.iload 8, 2) := dq_21 (dq_w dwm_297 10 rfl) (dq_w dwm_297 11 rfl) rfl
theorem dX6_way_76 : decode cX6_way 76 = .ok (.sipush 128, 3) := dq_17 (dq_w dwm_297 12 rfl) (dq_w dwm_297 13 rfl) (dq_w dwm_297 14 rfl) (dq_p (n := 128) rfl rfl)
theorem dX6_way_79 : decode cX6_way 79 = .ok (.if_icmp .ge 72, 3) := dq_162 (dq_w dwm_297 15 rfl) (dq_w dwm_298 0 rfl) (dq_w dwm_298 1 rfl) (dq_p (n := 72) rfl rfl)
theorem dX6_way_82 : decode cX6_way 82 = .ok (.aload_n 0, 1) := dq_42 (dq_w dwm_298 2 rfl)
theorem dX6_way_83 : decode cX6_way 83 = .ok (.getfield 61, 3) := dq_180 (dq_w dwm_298 3 rfl) (dq_w dwm_298 4 rfl) (dq_w dwm_298 5 rfl) rfl
theorem dX6_way_86 : decode cX6_way 86 = .ok (.sipush 128, 3) := dq_17 (dq_w dwm_298 6 rfl) (dq_w dwm_298 7 rfl) (dq_w dwm_298 8 rfl) (dq_p (n := 128) rfl rfl)
theorem dX6_way_89 : decode cX6_way 89 = .ok (.iload_n 2, 1) := dq_28 (dq_w dwm_298 9 rfl)
theorem dX6_way_90 : decode cX6_way 90 = .ok (.imul, 1) := dq_104 (dq_w dwm_298 10 rfl)
theorem dX6_way_91 : decode cX6_way 91 = .ok (.iload 8, 2) := dq_21 (dq_w dwm_298 11 rfl) (dq_w dwm_298 12 rfl) rfl
theorem dX6_way_93 : decode cX6_way 93 = .ok (.iadd, 1) := dq_96 (dq_w dwm_298 13 rfl)
theorem dX6_way_94 : decode cX6_way 94 = .ok (.iaload, 1) := dq_46 (dq_w dwm_298 14 rfl)
theorem dX6_way_95 : decode cX6_way 95 = .ok (.istore 9, 2) := dq_54 (dq_w dwm_298 15 rfl) (dq_w dwm_299 0 rfl) rfl
theorem dX6_way_97 : decode cX6_way 97 = .ok (.iload 8, 2) := dq_21 (dq_w dwm_299 1 rfl) (dq_w dwm_299 2 rfl) rfl
theorem dX6_way_99 : decode cX6_way 99 = .ok (.invokestatic 119, 3) := dq_184 (dq_w dwm_299 3 rfl) (dq_w dwm_299 4 rfl) (dq_w dwm_299 5 rfl) rfl
theorem dX6_way_102 : decode cX6_way 102 = .ok (.istore 10, 2) := dq_54 (dq_w dwm_299 6 rfl) (dq_w dwm_299 7 rfl) rfl
theorem dX6_way_104 : decode cX6_way 104 = .ok (.iload 9, 2) := dq_21 (dq_w dwm_299 8 rfl) (dq_w dwm_299 9 rfl) rfl
theorem dX6_way_106 : decode cX6_way 106 = .ok (.ifCond .lt 39, 3) := dq_155 (dq_w dwm_299 10 rfl) (dq_w dwm_299 11 rfl) (dq_w dwm_299 12 rfl) (dq_p (n := 39) rfl rfl)
theorem dX6_way_109 : decode cX6_way 109 = .ok (.iload 9, 2) := dq_21 (dq_w dwm_299 13 rfl) (dq_w dwm_299 14 rfl) rfl
theorem dX6_way_111 : decode cX6_way 111 = .ok (.iload 5, 2) := dq_21 (dq_w dwm_299 15 rfl) (dq_w dwm_300 0 rfl) rfl
theorem dX6_way_113 : decode cX6_way 113 = .ok (.if_icmp .gt 32, 3) := dq_163 (dq_w dwm_300 1 rfl) (dq_w dwm_300 2 rfl) (dq_w dwm_300 3 rfl) (dq_p (n := 32) rfl rfl)
theorem dX6_way_116 : decode cX6_way 116 = .ok (.iload 10, 2) := dq_21 (dq_w dwm_300 4 rfl) (dq_w dwm_300 5 rfl) rfl
theorem dX6_way_118 : decode cX6_way 118 = .ok (.iload 6, 2) := dq_21 (dq_w dwm_300 6 rfl) (dq_w dwm_300 7 rfl) rfl
theorem dX6_way_120 : decode cX6_way 120 = .ok (.if_icmp .lt 17, 3) := dq_161 (dq_w dwm_300 8 rfl) (dq_w dwm_300 9 rfl) (dq_w dwm_300 10 rfl) (dq_p (n := 17) rfl rfl)
theorem dX6_way_123 : decode cX6_way 123 = .ok (.iload 10, 2) := dq_21 (dq_w dwm_300 11 rfl) (dq_w dwm_300 12 rfl) rfl
theorem dX6_way_125 : decode cX6_way 125 = .ok (.iload 6, 2) := dq_21 (dq_w dwm_300 13 rfl) (dq_w dwm_300 14 rfl) rfl
theorem dX6_way_127 : decode cX6_way 127 = .ok (.if_icmp .ne 18, 3) := dq_160 (dq_w dwm_300 15 rfl) (dq_w dwm_301 0 rfl) (dq_w dwm_301 1 rfl) (dq_p (n := 18) rfl rfl)
theorem dX6_way_130 : decode cX6_way 130 = .ok (.iload 9, 2) := dq_21 (dq_w dwm_301 2 rfl) (dq_w dwm_301 3 rfl) rfl
theorem dX6_way_132 : decode cX6_way 132 = .ok (.iload 7, 2) := dq_21 (dq_w dwm_301 4 rfl) (dq_w dwm_301 5 rfl) rfl
theorem dX6_way_134 : decode cX6_way 134 = .ok (.if_icmp .ge 11, 3) := dq_162 (dq_w dwm_301 6 rfl) (dq_w dwm_301 7 rfl) (dq_w dwm_301 8 rfl) (dq_p (n := 11) rfl rfl)
theorem dX6_way_137 : decode cX6_way 137 = .ok (.iload 10, 2) := dq_21 (dq_w dwm_301 9 rfl) (dq_w dwm_301 10 rfl) rfl
theorem dX6_way_139 : decode cX6_way 139 = .ok (.istore 6, 2) := dq_54 (dq_w dwm_301 11 rfl) (dq_w dwm_301 12 rfl) rfl
theorem dX6_way_141 : decode cX6_way 141 = .ok (.iload 9, 2) := dq_21 (dq_w dwm_301 13 rfl) (dq_w dwm_301 14 rfl) rfl
theorem dX6_way_143 : decode cX6_way 143 = .ok (.istore 7, 2) := dq_54 (dq_w dwm_301 15 rfl) (dq_w dwm_302 0 rfl) rfl
theorem dX6_way_145 : decode cX6_way 145 = .ok (.iinc 8 1, 3) := dq_132 (dq_w dwm_302 1 rfl) (dq_w dwm_302 2 rfl) rfl (dq_w dwm_302 3 rfl) rfl
theorem dX6_way_148 : decode cX6_way 148 = .ok (.goto (-74), 3) := dq_167 (dq_w dwm_302 4 rfl) (dq_w dwm_302 5 rfl) (dq_w dwm_302 6 rfl) (dq_n (m := 74) rfl rfl)
theorem dX6_way_151 : decode cX6_way 151 = .ok (.iload_n 3, 1) := dq_29 (dq_w dwm_302 7 rfl)
theorem dX6_way_152 : decode cX6_way 152 = .ok (.ifCond .ne 8, 3) := dq_154 (dq_w dwm_302 8 rfl) (dq_w dwm_302 9 rfl) (dq_w dwm_302 10 rfl) (dq_p (n := 8) rfl rfl)
theorem dX6_way_155 : decode cX6_way 155 = .ok (.iload 6, 2) := dq_21 (dq_w dwm_302 11 rfl) (dq_w dwm_302 12 rfl) rfl
theorem dX6_way_157 : decode cX6_way 157 = .ok (.goto 5, 3) := dq_167 (dq_w dwm_302 13 rfl) (dq_w dwm_302 14 rfl) (dq_w dwm_302 15 rfl) (dq_p (n := 5) rfl rfl)
theorem dX6_way_160 : decode cX6_way 160 = .ok (.iload 7, 2) := dq_21 (dq_w dwm_303 0 rfl) (dq_w dwm_303 1 rfl) rfl
theorem dX6_way_162 : decode cX6_way 162 = .ok (.ireturn, 1) := dq_172 (dq_w dwm_303 2 rfl)
theorem dwm_304 : (cX6_layPaying.data.toList.drop 0).take 16 = [3, 60, 27, 17, 0, 128, 162, 0, 125, 3, 61, 28, 16, 8, 162, 0] := by decide +kernel
theorem dwm_305 : (cX6_layPaying.data.toList.drop 16).take 16 = [111, 2, 62, 3, 54, 4, 21, 4, 42, 180, 0, 89, 162, 0, 71, 27] := by decide +kernel
theorem dwm_306 : (cX6_layPaying.data.toList.drop 32).take 16 = [21, 4, 184, 0, 131, 153, 0, 56, 42, 180, 0, 16, 28, 46, 42, 180] := by decide +kernel
theorem dwm_307 : (cX6_layPaying.data.toList.drop 48).take 16 = [0, 16, 21, 4, 46, 184, 0, 103, 42, 180, 0, 67, 16, 8, 27, 4] := by decide +kernel
theorem dwm_308 : (cX6_layPaying.data.toList.drop 64).take 16 = [21, 4, 120, 100, 104, 21, 4, 96, 46, 96, 54, 5, 29, 155, 0, 9] := by decide +kernel
theorem dwm_309 : (cX6_layPaying.data.toList.drop 80).take 16 = [21, 5, 29, 162, 0, 8, 21, 5, 167, 0, 4, 29, 62, 132, 4, 1] := by decide +kernel
theorem dwm_310 : (cX6_layPaying.data.toList.drop 96).take 16 = [167, 255, 182, 42, 180, 0, 67, 16, 8, 27, 104, 28, 96, 29, 156, 0] := by decide +kernel
theorem dwm_311 : (cX6_layPaying.data.toList.drop 112).take 16 = [7, 3, 167, 0, 4, 29, 79, 132, 2, 1, 167, 255, 145, 132, 1, 1] := by decide +kernel
theorem dwm_312 : (cX6_layPaying.data.toList.drop 128).take 16 = [167, 255, 130, 177] := by decide +kernel
theorem dX6_layPaying_0 : decode cX6_layPaying 0 = .ok (.iconst 0, 1) := dq_3 (dq_w dwm_304 0 rfl)
theorem dX6_layPaying_1 : decode cX6_layPaying 1 = .ok (.istore_n 1, 1) := dq_60 (dq_w dwm_304 1 rfl)
theorem dX6_layPaying_2 : decode cX6_layPaying 2 = .ok (.iload_n 1, 1) := dq_27 (dq_w dwm_304 2 rfl)
theorem dX6_layPaying_3 : decode cX6_layPaying 3 = .ok (.sipush 128, 3) := dq_17 (dq_w dwm_304 3 rfl) (dq_w dwm_304 4 rfl) (dq_w dwm_304 5 rfl) (dq_p (n := 128) rfl rfl)
theorem dX6_layPaying_6 : decode cX6_layPaying 6 = .ok (.if_icmp .ge 125, 3) := dq_162 (dq_w dwm_304 6 rfl) (dq_w dwm_304 7 rfl) (dq_w dwm_304 8 rfl) (dq_p (n := 125) rfl rfl)
theorem dX6_layPaying_9 : decode cX6_layPaying 9 = .ok (.iconst 0, 1) := dq_3 (dq_w dwm_304 9 rfl)
theorem dX6_layPaying_10 : decode cX6_layPaying 10 = .ok (.istore_n 2, 1) := dq_61 (dq_w dwm_304 10 rfl)
theorem dX6_layPaying_11 : decode cX6_layPaying 11 = .ok (.iload_n 2, 1) := dq_28 (dq_w dwm_304 11 rfl)
theorem dX6_layPaying_12 : decode cX6_layPaying 12 = .ok (.bipush 8, 2) := dq_16 (dq_w dwm_304 12 rfl) (dq_w dwm_304 13 rfl) rfl
theorem dX6_layPaying_14 : decode cX6_layPaying 14 = .ok (.if_icmp .ge 111, 3) := dq_162 (dq_w dwm_304 14 rfl) (dq_w dwm_304 15 rfl) (dq_w dwm_305 0 rfl) (dq_p (n := 111) rfl rfl)
theorem dX6_layPaying_17 : decode cX6_layPaying 17 = .ok (.iconst (-1), 1) := dq_2 (dq_w dwm_305 1 rfl)
theorem dX6_layPaying_18 : decode cX6_layPaying 18 = .ok (.istore_n 3, 1) := dq_62 (dq_w dwm_305 2 rfl)
theorem dX6_layPaying_19 : decode cX6_layPaying 19 = .ok (.iconst 0, 1) := dq_3 (dq_w dwm_305 3 rfl)
theorem dX6_layPaying_20 : decode cX6_layPaying 20 = .ok (.istore 4, 2) := dq_54 (dq_w dwm_305 4 rfl) (dq_w dwm_305 5 rfl) rfl
theorem dX6_layPaying_22 : decode cX6_layPaying 22 = .ok (.iload 4, 2) := dq_21 (dq_w dwm_305 6 rfl) (dq_w dwm_305 7 rfl) rfl
theorem dX6_layPaying_24 : decode cX6_layPaying 24 = .ok (.aload_n 0, 1) := dq_42 (dq_w dwm_305 8 rfl)
theorem dX6_layPaying_25 : decode cX6_layPaying 25 = .ok (.getfield 89, 3) := dq_180 (dq_w dwm_305 9 rfl) (dq_w dwm_305 10 rfl) (dq_w dwm_305 11 rfl) rfl
theorem dX6_layPaying_28 : decode cX6_layPaying 28 = .ok (.if_icmp .ge 71, 3) := dq_162 (dq_w dwm_305 12 rfl) (dq_w dwm_305 13 rfl) (dq_w dwm_305 14 rfl) (dq_p (n := 71) rfl rfl)
theorem dX6_layPaying_31 : decode cX6_layPaying 31 = .ok (.iload_n 1, 1) := dq_27 (dq_w dwm_305 15 rfl)
theorem dX6_layPaying_32 : decode cX6_layPaying 32 = .ok (.iload 4, 2) := dq_21 (dq_w dwm_306 0 rfl) (dq_w dwm_306 1 rfl) rfl
theorem dX6_layPaying_34 : decode cX6_layPaying 34 = .ok (.invokestatic 131, 3) := dq_184 (dq_w dwm_306 2 rfl) (dq_w dwm_306 3 rfl) (dq_w dwm_306 4 rfl) rfl
theorem dX6_layPaying_37 : decode cX6_layPaying 37 = .ok (.ifCond .eq 56, 3) := dq_153 (dq_w dwm_306 5 rfl) (dq_w dwm_306 6 rfl) (dq_w dwm_306 7 rfl) (dq_p (n := 56) rfl rfl)
theorem dX6_layPaying_40 : decode cX6_layPaying 40 = .ok (.aload_n 0, 1) := dq_42 (dq_w dwm_306 8 rfl)
theorem dX6_layPaying_41 : decode cX6_layPaying 41 = .ok (.getfield 16, 3) := dq_180 (dq_w dwm_306 9 rfl) (dq_w dwm_306 10 rfl) (dq_w dwm_306 11 rfl) rfl
theorem dX6_layPaying_44 : decode cX6_layPaying 44 = .ok (.iload_n 2, 1) := dq_28 (dq_w dwm_306 12 rfl)
theorem dX6_layPaying_45 : decode cX6_layPaying 45 = .ok (.iaload, 1) := dq_46 (dq_w dwm_306 13 rfl)
theorem dX6_layPaying_46 : decode cX6_layPaying 46 = .ok (.aload_n 0, 1) := dq_42 (dq_w dwm_306 14 rfl)
theorem dX6_layPaying_47 : decode cX6_layPaying 47 = .ok (.getfield 16, 3) := dq_180 (dq_w dwm_306 15 rfl) (dq_w dwm_307 0 rfl) (dq_w dwm_307 1 rfl) rfl
theorem dX6_layPaying_50 : decode cX6_layPaying 50 = .ok (.iload 4, 2) := dq_21 (dq_w dwm_307 2 rfl) (dq_w dwm_307 3 rfl) rfl
theorem dX6_layPaying_52 : decode cX6_layPaying 52 = .ok (.iaload, 1) := dq_46 (dq_w dwm_307 4 rfl)
theorem dX6_layPaying_53 : decode cX6_layPaying 53 = .ok (.invokestatic 103, 3) := dq_184 (dq_w dwm_307 5 rfl) (dq_w dwm_307 6 rfl) (dq_w dwm_307 7 rfl) rfl
theorem dX6_layPaying_56 : decode cX6_layPaying 56 = .ok (.aload_n 0, 1) := dq_42 (dq_w dwm_307 8 rfl)
theorem dX6_layPaying_57 : decode cX6_layPaying 57 = .ok (.getfield 67, 3) := dq_180 (dq_w dwm_307 9 rfl) (dq_w dwm_307 10 rfl) (dq_w dwm_307 11 rfl) rfl
theorem dX6_layPaying_60 : decode cX6_layPaying 60 = .ok (.bipush 8, 2) := dq_16 (dq_w dwm_307 12 rfl) (dq_w dwm_307 13 rfl) rfl
theorem dX6_layPaying_62 : decode cX6_layPaying 62 = .ok (.iload_n 1, 1) := dq_27 (dq_w dwm_307 14 rfl)
theorem dX6_layPaying_63 : decode cX6_layPaying 63 = .ok (.iconst 1, 1) := dq_4 (dq_w dwm_307 15 rfl)
theorem dX6_layPaying_64 : decode cX6_layPaying 64 = .ok (.iload 4, 2) := dq_21 (dq_w dwm_308 0 rfl) (dq_w dwm_308 1 rfl) rfl
theorem dX6_layPaying_66 : decode cX6_layPaying 66 = .ok (.ishl, 1) := dq_120 (dq_w dwm_308 2 rfl)
theorem dX6_layPaying_67 : decode cX6_layPaying 67 = .ok (.isub, 1) := dq_100 (dq_w dwm_308 3 rfl)
theorem dX6_layPaying_68 : decode cX6_layPaying 68 = .ok (.imul, 1) := dq_104 (dq_w dwm_308 4 rfl)
theorem dX6_layPaying_69 : decode cX6_layPaying 69 = .ok (.iload 4, 2) := dq_21 (dq_w dwm_308 5 rfl) (dq_w dwm_308 6 rfl) rfl
theorem dX6_layPaying_71 : decode cX6_layPaying 71 = .ok (.iadd, 1) := dq_96 (dq_w dwm_308 7 rfl)
theorem dX6_layPaying_72 : decode cX6_layPaying 72 = .ok (.iaload, 1) := dq_46 (dq_w dwm_308 8 rfl)
theorem dX6_layPaying_73 : decode cX6_layPaying 73 = .ok (.iadd, 1) := dq_96 (dq_w dwm_308 9 rfl)
theorem dX6_layPaying_74 : decode cX6_layPaying 74 = .ok (.istore 5, 2) := dq_54 (dq_w dwm_308 10 rfl) (dq_w dwm_308 11 rfl) rfl
theorem dX6_layPaying_76 : decode cX6_layPaying 76 = .ok (.iload_n 3, 1) := dq_29 (dq_w dwm_308 12 rfl)
theorem dX6_layPaying_77 : decode cX6_layPaying 77 = .ok (.ifCond .lt 9, 3) := dq_155 (dq_w dwm_308 13 rfl) (dq_w dwm_308 14 rfl) (dq_w dwm_308 15 rfl) (dq_p (n := 9) rfl rfl)
theorem dX6_layPaying_80 : decode cX6_layPaying 80 = .ok (.iload 5, 2) := dq_21 (dq_w dwm_309 0 rfl) (dq_w dwm_309 1 rfl) rfl
theorem dX6_layPaying_82 : decode cX6_layPaying 82 = .ok (.iload_n 3, 1) := dq_29 (dq_w dwm_309 2 rfl)
theorem dX6_layPaying_83 : decode cX6_layPaying 83 = .ok (.if_icmp .ge 8, 3) := dq_162 (dq_w dwm_309 3 rfl) (dq_w dwm_309 4 rfl) (dq_w dwm_309 5 rfl) (dq_p (n := 8) rfl rfl)
theorem dX6_layPaying_86 : decode cX6_layPaying 86 = .ok (.iload 5, 2) := dq_21 (dq_w dwm_309 6 rfl) (dq_w dwm_309 7 rfl) rfl
theorem dX6_layPaying_88 : decode cX6_layPaying 88 = .ok (.goto 4, 3) := dq_167 (dq_w dwm_309 8 rfl) (dq_w dwm_309 9 rfl) (dq_w dwm_309 10 rfl) (dq_p (n := 4) rfl rfl)
theorem dX6_layPaying_91 : decode cX6_layPaying 91 = .ok (.iload_n 3, 1) := dq_29 (dq_w dwm_309 11 rfl)
theorem dX6_layPaying_92 : decode cX6_layPaying 92 = .ok (.istore_n 3, 1) := dq_62 (dq_w dwm_309 12 rfl)
theorem dX6_layPaying_93 : decode cX6_layPaying 93 = .ok (.iinc 4 1, 3) := dq_132 (dq_w dwm_309 13 rfl) (dq_w dwm_309 14 rfl) rfl (dq_w dwm_309 15 rfl) rfl
theorem dX6_layPaying_96 : decode cX6_layPaying 96 = .ok (.goto (-74), 3) := dq_167 (dq_w dwm_310 0 rfl) (dq_w dwm_310 1 rfl) (dq_w dwm_310 2 rfl) (dq_n (m := 74) rfl rfl)
theorem dX6_layPaying_99 : decode cX6_layPaying 99 = .ok (.aload_n 0, 1) := dq_42 (dq_w dwm_310 3 rfl)
theorem dX6_layPaying_100 : decode cX6_layPaying 100 = .ok (.getfield 67, 3) := dq_180 (dq_w dwm_310 4 rfl) (dq_w dwm_310 5 rfl) (dq_w dwm_310 6 rfl) rfl
theorem dX6_layPaying_103 : decode cX6_layPaying 103 = .ok (.bipush 8, 2) := dq_16 (dq_w dwm_310 7 rfl) (dq_w dwm_310 8 rfl) rfl
theorem dX6_layPaying_105 : decode cX6_layPaying 105 = .ok (.iload_n 1, 1) := dq_27 (dq_w dwm_310 9 rfl)
theorem dX6_layPaying_106 : decode cX6_layPaying 106 = .ok (.imul, 1) := dq_104 (dq_w dwm_310 10 rfl)
theorem dX6_layPaying_107 : decode cX6_layPaying 107 = .ok (.iload_n 2, 1) := dq_28 (dq_w dwm_310 11 rfl)
theorem dX6_layPaying_108 : decode cX6_layPaying 108 = .ok (.iadd, 1) := dq_96 (dq_w dwm_310 12 rfl)
theorem dX6_layPaying_109 : decode cX6_layPaying 109 = .ok (.iload_n 3, 1) := dq_29 (dq_w dwm_310 13 rfl)
theorem dX6_layPaying_110 : decode cX6_layPaying 110 = .ok (.ifCond .ge 7, 3) := dq_156 (dq_w dwm_310 14 rfl) (dq_w dwm_310 15 rfl) (dq_w dwm_311 0 rfl) (dq_p (n := 7) rfl rfl)
theorem dX6_layPaying_113 : decode cX6_layPaying 113 = .ok (.iconst 0, 1) := dq_3 (dq_w dwm_311 1 rfl)
theorem dX6_layPaying_114 : decode cX6_layPaying 114 = .ok (.goto 4, 3) := dq_167 (dq_w dwm_311 2 rfl) (dq_w dwm_311 3 rfl) (dq_w dwm_311 4 rfl) (dq_p (n := 4) rfl rfl)
theorem dX6_layPaying_117 : decode cX6_layPaying 117 = .ok (.iload_n 3, 1) := dq_29 (dq_w dwm_311 5 rfl)
theorem dX6_layPaying_118 : decode cX6_layPaying 118 = .ok (.iastore, 1) := dq_79 (dq_w dwm_311 6 rfl)
theorem dX6_layPaying_119 : decode cX6_layPaying 119 = .ok (.iinc 2 1, 3) := dq_132 (dq_w dwm_311 7 rfl) (dq_w dwm_311 8 rfl) rfl (dq_w dwm_311 9 rfl) rfl
theorem dX6_layPaying_122 : decode cX6_layPaying 122 = .ok (.goto (-111), 3) := dq_167 (dq_w dwm_311 10 rfl) (dq_w dwm_311 11 rfl) (dq_w dwm_311 12 rfl) (dq_n (m := 111) rfl rfl)
theorem dX6_layPaying_125 : decode cX6_layPaying 125 = .ok (.iinc 1 1, 3) := dq_132 (dq_w dwm_311 13 rfl) (dq_w dwm_311 14 rfl) rfl (dq_w dwm_311 15 rfl) rfl
theorem dX6_layPaying_128 : decode cX6_layPaying 128 = .ok (.goto (-126), 3) := dq_167 (dq_w dwm_312 0 rfl) (dq_w dwm_312 1 rfl) (dq_w dwm_312 2 rfl) (dq_n (m := 126) rfl rfl)
theorem dX6_layPaying_131 : decode cX6_layPaying 131 = .ok (.return_, 1) := dq_177 (dq_w dwm_312 3 rfl)
theorem dwm_313 : (cX6_nextOn.data.toList.drop 0).take 16 = [3, 62, 27, 29, 184, 0, 131, 153, 0, 48, 42, 180, 0, 16, 28, 46] := by decide +kernel
theorem dwm_314 : (cX6_nextOn.data.toList.drop 16).take 16 = [42, 180, 0, 16, 29, 46, 184, 0, 103, 42, 180, 0, 67, 16, 8, 27] := by decide +kernel
theorem dwm_315 : (cX6_nextOn.data.toList.drop 32).take 16 = [4, 29, 120, 100, 104, 29, 96, 46, 96, 42, 180, 0, 67, 16, 8, 27] := by decide +kernel
theorem dwm_316 : (cX6_nextOn.data.toList.drop 48).take 16 = [104, 28, 96, 46, 159, 0, 9, 132, 3, 1, 167, 255, 200, 29, 172] := by decide +kernel
theorem dX6_nextOn_0 : decode cX6_nextOn 0 = .ok (.iconst 0, 1) := dq_3 (dq_w dwm_313 0 rfl)
theorem dX6_nextOn_1 : decode cX6_nextOn 1 = .ok (.istore_n 3, 1) := dq_62 (dq_w dwm_313 1 rfl)
theorem dX6_nextOn_2 : decode cX6_nextOn 2 = .ok (.iload_n 1, 1) := dq_27 (dq_w dwm_313 2 rfl)
theorem dX6_nextOn_3 : decode cX6_nextOn 3 = .ok (.iload_n 3, 1) := dq_29 (dq_w dwm_313 3 rfl)
theorem dX6_nextOn_4 : decode cX6_nextOn 4 = .ok (.invokestatic 131, 3) := dq_184 (dq_w dwm_313 4 rfl) (dq_w dwm_313 5 rfl) (dq_w dwm_313 6 rfl) rfl
theorem dX6_nextOn_7 : decode cX6_nextOn 7 = .ok (.ifCond .eq 48, 3) := dq_153 (dq_w dwm_313 7 rfl) (dq_w dwm_313 8 rfl) (dq_w dwm_313 9 rfl) (dq_p (n := 48) rfl rfl)
theorem dX6_nextOn_10 : decode cX6_nextOn 10 = .ok (.aload_n 0, 1) := dq_42 (dq_w dwm_313 10 rfl)
theorem dX6_nextOn_11 : decode cX6_nextOn 11 = .ok (.getfield 16, 3) := dq_180 (dq_w dwm_313 11 rfl) (dq_w dwm_313 12 rfl) (dq_w dwm_313 13 rfl) rfl
theorem dX6_nextOn_14 : decode cX6_nextOn 14 = .ok (.iload_n 2, 1) := dq_28 (dq_w dwm_313 14 rfl)
theorem dX6_nextOn_15 : decode cX6_nextOn 15 = .ok (.iaload, 1) := dq_46 (dq_w dwm_313 15 rfl)
theorem dX6_nextOn_16 : decode cX6_nextOn 16 = .ok (.aload_n 0, 1) := dq_42 (dq_w dwm_314 0 rfl)
theorem dX6_nextOn_17 : decode cX6_nextOn 17 = .ok (.getfield 16, 3) := dq_180 (dq_w dwm_314 1 rfl) (dq_w dwm_314 2 rfl) (dq_w dwm_314 3 rfl) rfl
theorem dX6_nextOn_20 : decode cX6_nextOn 20 = .ok (.iload_n 3, 1) := dq_29 (dq_w dwm_314 4 rfl)
theorem dX6_nextOn_21 : decode cX6_nextOn 21 = .ok (.iaload, 1) := dq_46 (dq_w dwm_314 5 rfl)
theorem dX6_nextOn_22 : decode cX6_nextOn 22 = .ok (.invokestatic 103, 3) := dq_184 (dq_w dwm_314 6 rfl) (dq_w dwm_314 7 rfl) (dq_w dwm_314 8 rfl) rfl
theorem dX6_nextOn_25 : decode cX6_nextOn 25 = .ok (.aload_n 0, 1) := dq_42 (dq_w dwm_314 9 rfl)
theorem dX6_nextOn_26 : decode cX6_nextOn 26 = .ok (.getfield 67, 3) := dq_180 (dq_w dwm_314 10 rfl) (dq_w dwm_314 11 rfl) (dq_w dwm_314 12 rfl) rfl
theorem dX6_nextOn_29 : decode cX6_nextOn 29 = .ok (.bipush 8, 2) := dq_16 (dq_w dwm_314 13 rfl) (dq_w dwm_314 14 rfl) rfl
theorem dX6_nextOn_31 : decode cX6_nextOn 31 = .ok (.iload_n 1, 1) := dq_27 (dq_w dwm_314 15 rfl)
theorem dX6_nextOn_32 : decode cX6_nextOn 32 = .ok (.iconst 1, 1) := dq_4 (dq_w dwm_315 0 rfl)
theorem dX6_nextOn_33 : decode cX6_nextOn 33 = .ok (.iload_n 3, 1) := dq_29 (dq_w dwm_315 1 rfl)
theorem dX6_nextOn_34 : decode cX6_nextOn 34 = .ok (.ishl, 1) := dq_120 (dq_w dwm_315 2 rfl)
theorem dX6_nextOn_35 : decode cX6_nextOn 35 = .ok (.isub, 1) := dq_100 (dq_w dwm_315 3 rfl)
theorem dX6_nextOn_36 : decode cX6_nextOn 36 = .ok (.imul, 1) := dq_104 (dq_w dwm_315 4 rfl)
theorem dX6_nextOn_37 : decode cX6_nextOn 37 = .ok (.iload_n 3, 1) := dq_29 (dq_w dwm_315 5 rfl)
theorem dX6_nextOn_38 : decode cX6_nextOn 38 = .ok (.iadd, 1) := dq_96 (dq_w dwm_315 6 rfl)
theorem dX6_nextOn_39 : decode cX6_nextOn 39 = .ok (.iaload, 1) := dq_46 (dq_w dwm_315 7 rfl)
theorem dX6_nextOn_40 : decode cX6_nextOn 40 = .ok (.iadd, 1) := dq_96 (dq_w dwm_315 8 rfl)
theorem dX6_nextOn_41 : decode cX6_nextOn 41 = .ok (.aload_n 0, 1) := dq_42 (dq_w dwm_315 9 rfl)
theorem dX6_nextOn_42 : decode cX6_nextOn 42 = .ok (.getfield 67, 3) := dq_180 (dq_w dwm_315 10 rfl) (dq_w dwm_315 11 rfl) (dq_w dwm_315 12 rfl) rfl
theorem dX6_nextOn_45 : decode cX6_nextOn 45 = .ok (.bipush 8, 2) := dq_16 (dq_w dwm_315 13 rfl) (dq_w dwm_315 14 rfl) rfl
theorem dX6_nextOn_47 : decode cX6_nextOn 47 = .ok (.iload_n 1, 1) := dq_27 (dq_w dwm_315 15 rfl)
theorem dX6_nextOn_48 : decode cX6_nextOn 48 = .ok (.imul, 1) := dq_104 (dq_w dwm_316 0 rfl)
theorem dX6_nextOn_49 : decode cX6_nextOn 49 = .ok (.iload_n 2, 1) := dq_28 (dq_w dwm_316 1 rfl)
theorem dX6_nextOn_50 : decode cX6_nextOn 50 = .ok (.iadd, 1) := dq_96 (dq_w dwm_316 2 rfl)
theorem dX6_nextOn_51 : decode cX6_nextOn 51 = .ok (.iaload, 1) := dq_46 (dq_w dwm_316 3 rfl)
theorem dX6_nextOn_52 : decode cX6_nextOn 52 = .ok (.if_icmp .eq 9, 3) := dq_159 (dq_w dwm_316 4 rfl) (dq_w dwm_316 5 rfl) (dq_w dwm_316 6 rfl) (dq_p (n := 9) rfl rfl)
theorem dX6_nextOn_55 : decode cX6_nextOn 55 = .ok (.iinc 3 1, 3) := dq_132 (dq_w dwm_316 7 rfl) (dq_w dwm_316 8 rfl) rfl (dq_w dwm_316 9 rfl) rfl
theorem dX6_nextOn_58 : decode cX6_nextOn 58 = .ok (.goto (-56), 3) := dq_167 (dq_w dwm_316 10 rfl) (dq_w dwm_316 11 rfl) (dq_w dwm_316 12 rfl) (dq_n (m := 56) rfl rfl)
theorem dX6_nextOn_61 : decode cX6_nextOn 61 = .ok (.iload_n 3, 1) := dq_29 (dq_w dwm_316 13 rfl)
theorem dX6_nextOn_62 : decode cX6_nextOn 62 = .ok (.ireturn, 1) := dq_172 (dq_w dwm_316 14 rfl)
theorem dwm_317 : (cX6_payAll.data.toList.drop 0).take 16 = [42, 3, 181, 0, 79, 42, 27, 182, 0, 184, 154, 0, 7, 2, 167, 0] := by decide +kernel
theorem dwm_318 : (cX6_payAll.data.toList.drop 16).take 16 = [14, 28, 2, 162, 0, 8, 16, 252, 167, 0, 4, 3, 62, 29, 156, 0] := by decide +kernel
theorem dwm_319 : (cX6_payAll.data.toList.drop 32).take 16 = [9, 42, 29, 182, 0, 143, 172, 42, 180, 0, 16, 16, 7, 42, 180, 0] := by decide +kernel
theorem dwm_320 : (cX6_payAll.data.toList.drop 48).take 16 = [22, 27, 46, 79, 42, 182, 1, 9, 42, 27, 182, 0, 116, 54, 4, 28] := by decide +kernel
theorem dwm_321 : (cX6_payAll.data.toList.drop 64).take 16 = [156, 0, 25, 6, 42, 180, 0, 67, 16, 8, 21, 4, 104, 16, 7, 96] := by decide +kernel
theorem dwm_322 : (cX6_payAll.data.toList.drop 80).take 16 = [46, 104, 42, 27, 182, 0, 113, 96, 172, 28, 21, 4, 184, 0, 119, 161] := by decide +kernel
theorem dwm_323 : (cX6_payAll.data.toList.drop 96).take 16 = [0, 6, 16, 247, 172, 16, 7, 54, 5, 3, 54, 6, 21, 6, 28, 163] := by decide +kernel
theorem dwm_324 : (cX6_payAll.data.toList.drop 112).take 16 = [0, 28, 42, 21, 4, 21, 5, 182, 1, 12, 54, 5, 21, 4, 4, 21] := by decide +kernel
theorem dwm_325 : (cX6_payAll.data.toList.drop 128).take 16 = [5, 120, 100, 54, 4, 132, 6, 1, 167, 255, 228, 21, 5, 172] := by decide +kernel
theorem dX6_payAll_0 : decode cX6_payAll 0 = .ok (.aload_n 0, 1) := dq_42 (dq_w dwm_317 0 rfl)
theorem dX6_payAll_1 : decode cX6_payAll 1 = .ok (.iconst 0, 1) := dq_3 (dq_w dwm_317 1 rfl)
theorem dX6_payAll_2 : decode cX6_payAll 2 = .ok (.putfield 79, 3) := dq_181 (dq_w dwm_317 2 rfl) (dq_w dwm_317 3 rfl) (dq_w dwm_317 4 rfl) rfl
theorem dX6_payAll_5 : decode cX6_payAll 5 = .ok (.aload_n 0, 1) := dq_42 (dq_w dwm_317 5 rfl)
theorem dX6_payAll_6 : decode cX6_payAll 6 = .ok (.iload_n 1, 1) := dq_27 (dq_w dwm_317 6 rfl)
theorem dX6_payAll_7 : decode cX6_payAll 7 = .ok (.invokevirtual 184, 3) := dq_182 (dq_w dwm_317 7 rfl) (dq_w dwm_317 8 rfl) (dq_w dwm_317 9 rfl) rfl
theorem dX6_payAll_10 : decode cX6_payAll 10 = .ok (.ifCond .ne 7, 3) := dq_154 (dq_w dwm_317 10 rfl) (dq_w dwm_317 11 rfl) (dq_w dwm_317 12 rfl) (dq_p (n := 7) rfl rfl)
theorem dX6_payAll_13 : decode cX6_payAll 13 = .ok (.iconst (-1), 1) := dq_2 (dq_w dwm_317 13 rfl)
theorem dX6_payAll_14 : decode cX6_payAll 14 = .ok (.goto 14, 3) := dq_167 (dq_w dwm_317 14 rfl) (dq_w dwm_317 15 rfl) (dq_w dwm_318 0 rfl) (dq_p (n := 14) rfl rfl)
theorem dX6_payAll_17 : decode cX6_payAll 17 = .ok (.iload_n 2, 1) := dq_28 (dq_w dwm_318 1 rfl)
theorem dX6_payAll_18 : decode cX6_payAll 18 = .ok (.iconst (-1), 1) := dq_2 (dq_w dwm_318 2 rfl)
theorem dX6_payAll_19 : decode cX6_payAll 19 = .ok (.if_icmp .ge 8, 3) := dq_162 (dq_w dwm_318 3 rfl) (dq_w dwm_318 4 rfl) (dq_w dwm_318 5 rfl) (dq_p (n := 8) rfl rfl)
theorem dX6_payAll_22 : decode cX6_payAll 22 = .ok (.bipush (-4), 2) := dq_16 (dq_w dwm_318 6 rfl) (dq_w dwm_318 7 rfl) rfl
theorem dX6_payAll_24 : decode cX6_payAll 24 = .ok (.goto 4, 3) := dq_167 (dq_w dwm_318 8 rfl) (dq_w dwm_318 9 rfl) (dq_w dwm_318 10 rfl) (dq_p (n := 4) rfl rfl)
theorem dX6_payAll_27 : decode cX6_payAll 27 = .ok (.iconst 0, 1) := dq_3 (dq_w dwm_318 11 rfl)
theorem dX6_payAll_28 : decode cX6_payAll 28 = .ok (.istore_n 3, 1) := dq_62 (dq_w dwm_318 12 rfl)
theorem dX6_payAll_29 : decode cX6_payAll 29 = .ok (.iload_n 3, 1) := dq_29 (dq_w dwm_318 13 rfl)
theorem dX6_payAll_30 : decode cX6_payAll 30 = .ok (.ifCond .ge 9, 3) := dq_156 (dq_w dwm_318 14 rfl) (dq_w dwm_318 15 rfl) (dq_w dwm_319 0 rfl) (dq_p (n := 9) rfl rfl)
theorem dX6_payAll_33 : decode cX6_payAll 33 = .ok (.aload_n 0, 1) := dq_42 (dq_w dwm_319 1 rfl)
theorem dX6_payAll_34 : decode cX6_payAll 34 = .ok (.iload_n 3, 1) := dq_29 (dq_w dwm_319 2 rfl)
theorem dX6_payAll_35 : decode cX6_payAll 35 = .ok (.invokevirtual 143, 3) := dq_182 (dq_w dwm_319 3 rfl) (dq_w dwm_319 4 rfl) (dq_w dwm_319 5 rfl) rfl
theorem dX6_payAll_38 : decode cX6_payAll 38 = .ok (.ireturn, 1) := dq_172 (dq_w dwm_319 6 rfl)
theorem dX6_payAll_39 : decode cX6_payAll 39 = .ok (.aload_n 0, 1) := dq_42 (dq_w dwm_319 7 rfl)
theorem dX6_payAll_40 : decode cX6_payAll 40 = .ok (.getfield 16, 3) := dq_180 (dq_w dwm_319 8 rfl) (dq_w dwm_319 9 rfl) (dq_w dwm_319 10 rfl) rfl
theorem dX6_payAll_43 : decode cX6_payAll 43 = .ok (.bipush 7, 2) := dq_16 (dq_w dwm_319 11 rfl) (dq_w dwm_319 12 rfl) rfl
theorem dX6_payAll_45 : decode cX6_payAll 45 = .ok (.aload_n 0, 1) := dq_42 (dq_w dwm_319 13 rfl)
theorem dX6_payAll_46 : decode cX6_payAll 46 = .ok (.getfield 22, 3) := dq_180 (dq_w dwm_319 14 rfl) (dq_w dwm_319 15 rfl) (dq_w dwm_320 0 rfl) rfl
theorem dX6_payAll_49 : decode cX6_payAll 49 = .ok (.iload_n 1, 1) := dq_27 (dq_w dwm_320 1 rfl)
theorem dX6_payAll_50 : decode cX6_payAll 50 = .ok (.iaload, 1) := dq_46 (dq_w dwm_320 2 rfl)
theorem dX6_payAll_51 : decode cX6_payAll 51 = .ok (.iastore, 1) := dq_79 (dq_w dwm_320 3 rfl)
theorem dX6_payAll_52 : decode cX6_payAll 52 = .ok (.aload_n 0, 1) := dq_42 (dq_w dwm_320 4 rfl)
theorem dX6_payAll_53 : decode cX6_payAll 53 = .ok (.invokevirtual 265, 3) := dq_182 (dq_w dwm_320 5 rfl) (dq_w dwm_320 6 rfl) (dq_w dwm_320 7 rfl) rfl
theorem dX6_payAll_56 : decode cX6_payAll 56 = .ok (.aload_n 0, 1) := dq_42 (dq_w dwm_320 8 rfl)
theorem dX6_payAll_57 : decode cX6_payAll 57 = .ok (.iload_n 1, 1) := dq_27 (dq_w dwm_320 9 rfl)
theorem dX6_payAll_58 : decode cX6_payAll 58 = .ok (.invokevirtual 116, 3) := dq_182 (dq_w dwm_320 10 rfl) (dq_w dwm_320 11 rfl) (dq_w dwm_320 12 rfl) rfl
theorem dX6_payAll_61 : decode cX6_payAll 61 = .ok (.istore 4, 2) := dq_54 (dq_w dwm_320 13 rfl) (dq_w dwm_320 14 rfl) rfl
theorem dX6_payAll_63 : decode cX6_payAll 63 = .ok (.iload_n 2, 1) := dq_28 (dq_w dwm_320 15 rfl)
theorem dX6_payAll_64 : decode cX6_payAll 64 = .ok (.ifCond .ge 25, 3) := dq_156 (dq_w dwm_321 0 rfl) (dq_w dwm_321 1 rfl) (dq_w dwm_321 2 rfl) (dq_p (n := 25) rfl rfl)
theorem dX6_payAll_67 : decode cX6_payAll 67 = .ok (.iconst 3, 1) := dq_6 (dq_w dwm_321 3 rfl)
theorem dX6_payAll_68 : decode cX6_payAll 68 = .ok (.aload_n 0, 1) := dq_42 (dq_w dwm_321 4 rfl)
theorem dX6_payAll_69 : decode cX6_payAll 69 = .ok (.getfield 67, 3) := dq_180 (dq_w dwm_321 5 rfl) (dq_w dwm_321 6 rfl) (dq_w dwm_321 7 rfl) rfl
theorem dX6_payAll_72 : decode cX6_payAll 72 = .ok (.bipush 8, 2) := dq_16 (dq_w dwm_321 8 rfl) (dq_w dwm_321 9 rfl) rfl
theorem dX6_payAll_74 : decode cX6_payAll 74 = .ok (.iload 4, 2) := dq_21 (dq_w dwm_321 10 rfl) (dq_w dwm_321 11 rfl) rfl
theorem dX6_payAll_76 : decode cX6_payAll 76 = .ok (.imul, 1) := dq_104 (dq_w dwm_321 12 rfl)
theorem dX6_payAll_77 : decode cX6_payAll 77 = .ok (.bipush 7, 2) := dq_16 (dq_w dwm_321 13 rfl) (dq_w dwm_321 14 rfl) rfl
theorem dX6_payAll_79 : decode cX6_payAll 79 = .ok (.iadd, 1) := dq_96 (dq_w dwm_321 15 rfl)
theorem dX6_payAll_80 : decode cX6_payAll 80 = .ok (.iaload, 1) := dq_46 (dq_w dwm_322 0 rfl)
theorem dX6_payAll_81 : decode cX6_payAll 81 = .ok (.imul, 1) := dq_104 (dq_w dwm_322 1 rfl)
theorem dX6_payAll_82 : decode cX6_payAll 82 = .ok (.aload_n 0, 1) := dq_42 (dq_w dwm_322 2 rfl)
theorem dX6_payAll_83 : decode cX6_payAll 83 = .ok (.iload_n 1, 1) := dq_27 (dq_w dwm_322 3 rfl)
theorem dX6_payAll_84 : decode cX6_payAll 84 = .ok (.invokevirtual 113, 3) := dq_182 (dq_w dwm_322 4 rfl) (dq_w dwm_322 5 rfl) (dq_w dwm_322 6 rfl) rfl
theorem dX6_payAll_87 : decode cX6_payAll 87 = .ok (.iadd, 1) := dq_96 (dq_w dwm_322 7 rfl)
theorem dX6_payAll_88 : decode cX6_payAll 88 = .ok (.ireturn, 1) := dq_172 (dq_w dwm_322 8 rfl)
theorem dX6_payAll_89 : decode cX6_payAll 89 = .ok (.iload_n 2, 1) := dq_28 (dq_w dwm_322 9 rfl)
theorem dX6_payAll_90 : decode cX6_payAll 90 = .ok (.iload 4, 2) := dq_21 (dq_w dwm_322 10 rfl) (dq_w dwm_322 11 rfl) rfl
theorem dX6_payAll_92 : decode cX6_payAll 92 = .ok (.invokestatic 119, 3) := dq_184 (dq_w dwm_322 12 rfl) (dq_w dwm_322 13 rfl) (dq_w dwm_322 14 rfl) rfl
theorem dX6_payAll_95 : decode cX6_payAll 95 = .ok (.if_icmp .lt 6, 3) := dq_161 (dq_w dwm_322 15 rfl) (dq_w dwm_323 0 rfl) (dq_w dwm_323 1 rfl) (dq_p (n := 6) rfl rfl)
theorem dX6_payAll_98 : decode cX6_payAll 98 = .ok (.bipush (-9), 2) := dq_16 (dq_w dwm_323 2 rfl) (dq_w dwm_323 3 rfl) rfl
theorem dX6_payAll_100 : decode cX6_payAll 100 = .ok (.ireturn, 1) := dq_172 (dq_w dwm_323 4 rfl)
theorem dX6_payAll_101 : decode cX6_payAll 101 = .ok (.bipush 7, 2) := dq_16 (dq_w dwm_323 5 rfl) (dq_w dwm_323 6 rfl) rfl
theorem dX6_payAll_103 : decode cX6_payAll 103 = .ok (.istore 5, 2) := dq_54 (dq_w dwm_323 7 rfl) (dq_w dwm_323 8 rfl) rfl
theorem dX6_payAll_105 : decode cX6_payAll 105 = .ok (.iconst 0, 1) := dq_3 (dq_w dwm_323 9 rfl)
theorem dX6_payAll_106 : decode cX6_payAll 106 = .ok (.istore 6, 2) := dq_54 (dq_w dwm_323 10 rfl) (dq_w dwm_323 11 rfl) rfl
theorem dX6_payAll_108 : decode cX6_payAll 108 = .ok (.iload 6, 2) := dq_21 (dq_w dwm_323 12 rfl) (dq_w dwm_323 13 rfl) rfl
theorem dX6_payAll_110 : decode cX6_payAll 110 = .ok (.iload_n 2, 1) := dq_28 (dq_w dwm_323 14 rfl)
theorem dX6_payAll_111 : decode cX6_payAll 111 = .ok (.if_icmp .gt 28, 3) := dq_163 (dq_w dwm_323 15 rfl) (dq_w dwm_324 0 rfl) (dq_w dwm_324 1 rfl) (dq_p (n := 28) rfl rfl)
theorem dX6_payAll_114 : decode cX6_payAll 114 = .ok (.aload_n 0, 1) := dq_42 (dq_w dwm_324 2 rfl)
theorem dX6_payAll_115 : decode cX6_payAll 115 = .ok (.iload 4, 2) := dq_21 (dq_w dwm_324 3 rfl) (dq_w dwm_324 4 rfl) rfl
theorem dX6_payAll_117 : decode cX6_payAll 117 = .ok (.iload 5, 2) := dq_21 (dq_w dwm_324 5 rfl) (dq_w dwm_324 6 rfl) rfl
theorem dX6_payAll_119 : decode cX6_payAll 119 = .ok (.invokevirtual 268, 3) := dq_182 (dq_w dwm_324 7 rfl) (dq_w dwm_324 8 rfl) (dq_w dwm_324 9 rfl) rfl
theorem dX6_payAll_122 : decode cX6_payAll 122 = .ok (.istore 5, 2) := dq_54 (dq_w dwm_324 10 rfl) (dq_w dwm_324 11 rfl) rfl
theorem dX6_payAll_124 : decode cX6_payAll 124 = .ok (.iload 4, 2) := dq_21 (dq_w dwm_324 12 rfl) (dq_w dwm_324 13 rfl) rfl
theorem dX6_payAll_126 : decode cX6_payAll 126 = .ok (.iconst 1, 1) := dq_4 (dq_w dwm_324 14 rfl)
theorem dX6_payAll_127 : decode cX6_payAll 127 = .ok (.iload 5, 2) := dq_21 (dq_w dwm_324 15 rfl) (dq_w dwm_325 0 rfl) rfl
theorem dX6_payAll_129 : decode cX6_payAll 129 = .ok (.ishl, 1) := dq_120 (dq_w dwm_325 1 rfl)
theorem dX6_payAll_130 : decode cX6_payAll 130 = .ok (.isub, 1) := dq_100 (dq_w dwm_325 2 rfl)
theorem dX6_payAll_131 : decode cX6_payAll 131 = .ok (.istore 4, 2) := dq_54 (dq_w dwm_325 3 rfl) (dq_w dwm_325 4 rfl) rfl
theorem dX6_payAll_133 : decode cX6_payAll 133 = .ok (.iinc 6 1, 3) := dq_132 (dq_w dwm_325 5 rfl) (dq_w dwm_325 6 rfl) rfl (dq_w dwm_325 7 rfl) rfl
theorem dX6_payAll_136 : decode cX6_payAll 136 = .ok (.goto (-28), 3) := dq_167 (dq_w dwm_325 8 rfl) (dq_w dwm_325 9 rfl) (dq_w dwm_325 10 rfl) (dq_n (m := 28) rfl rfl)
theorem dX6_payAll_139 : decode cX6_payAll 139 = .ok (.iload 5, 2) := dq_21 (dq_w dwm_325 11 rfl) (dq_w dwm_325 12 rfl) rfl
theorem dX6_payAll_141 : decode cX6_payAll 141 = .ok (.ireturn, 1) := dq_172 (dq_w dwm_325 13 rfl)
theorem dwm_326 : (cX6_clear.data.toList.drop 0).take 16 = [42, 3, 181, 0, 79, 42, 27, 182, 0, 181, 153, 0, 16, 42, 28, 182] := by decide +kernel
theorem dwm_327 : (cX6_clear.data.toList.drop 16).take 16 = [0, 181, 153, 0, 8, 27, 28, 160, 0, 13, 19, 1, 15, 42, 2, 182] := by decide +kernel
theorem dwm_328 : (cX6_clear.data.toList.drop 32).take 16 = [0, 143, 100, 172, 42, 27, 182, 0, 229, 184, 0, 119, 42, 28, 182, 0] := by decide +kernel
theorem dwm_329 : (cX6_clear.data.toList.drop 48).take 16 = [229, 184, 0, 119, 100, 172] := by decide +kernel
theorem dX6_clear_0 : decode cX6_clear 0 = .ok (.aload_n 0, 1) := dq_42 (dq_w dwm_326 0 rfl)
theorem dX6_clear_1 : decode cX6_clear 1 = .ok (.iconst 0, 1) := dq_3 (dq_w dwm_326 1 rfl)
theorem dX6_clear_2 : decode cX6_clear 2 = .ok (.putfield 79, 3) := dq_181 (dq_w dwm_326 2 rfl) (dq_w dwm_326 3 rfl) (dq_w dwm_326 4 rfl) rfl
theorem dX6_clear_5 : decode cX6_clear 5 = .ok (.aload_n 0, 1) := dq_42 (dq_w dwm_326 5 rfl)
theorem dX6_clear_6 : decode cX6_clear 6 = .ok (.iload_n 1, 1) := dq_27 (dq_w dwm_326 6 rfl)
theorem dX6_clear_7 : decode cX6_clear 7 = .ok (.invokevirtual 181, 3) := dq_182 (dq_w dwm_326 7 rfl) (dq_w dwm_326 8 rfl) (dq_w dwm_326 9 rfl) rfl
theorem dX6_clear_10 : decode cX6_clear 10 = .ok (.ifCond .eq 16, 3) := dq_153 (dq_w dwm_326 10 rfl) (dq_w dwm_326 11 rfl) (dq_w dwm_326 12 rfl) (dq_p (n := 16) rfl rfl)
theorem dX6_clear_13 : decode cX6_clear 13 = .ok (.aload_n 0, 1) := dq_42 (dq_w dwm_326 13 rfl)
theorem dX6_clear_14 : decode cX6_clear 14 = .ok (.iload_n 2, 1) := dq_28 (dq_w dwm_326 14 rfl)
theorem dX6_clear_15 : decode cX6_clear 15 = .ok (.invokevirtual 181, 3) := dq_182 (dq_w dwm_326 15 rfl) (dq_w dwm_327 0 rfl) (dq_w dwm_327 1 rfl) rfl
theorem dX6_clear_18 : decode cX6_clear 18 = .ok (.ifCond .eq 8, 3) := dq_153 (dq_w dwm_327 2 rfl) (dq_w dwm_327 3 rfl) (dq_w dwm_327 4 rfl) (dq_p (n := 8) rfl rfl)
theorem dX6_clear_21 : decode cX6_clear 21 = .ok (.iload_n 1, 1) := dq_27 (dq_w dwm_327 5 rfl)
theorem dX6_clear_22 : decode cX6_clear 22 = .ok (.iload_n 2, 1) := dq_28 (dq_w dwm_327 6 rfl)
theorem dX6_clear_23 : decode cX6_clear 23 = .ok (.if_icmp .ne 13, 3) := dq_160 (dq_w dwm_327 7 rfl) (dq_w dwm_327 8 rfl) (dq_w dwm_327 9 rfl) (dq_p (n := 13) rfl rfl)
theorem dX6_clear_26 : decode cX6_clear 26 = .ok (.ldc_w 271, 3) := dq_19 (dq_w dwm_327 10 rfl) (dq_w dwm_327 11 rfl) (dq_w dwm_327 12 rfl) rfl
theorem dX6_clear_29 : decode cX6_clear 29 = .ok (.aload_n 0, 1) := dq_42 (dq_w dwm_327 13 rfl)
theorem dX6_clear_30 : decode cX6_clear 30 = .ok (.iconst (-1), 1) := dq_2 (dq_w dwm_327 14 rfl)
theorem dX6_clear_31 : decode cX6_clear 31 = .ok (.invokevirtual 143, 3) := dq_182 (dq_w dwm_327 15 rfl) (dq_w dwm_328 0 rfl) (dq_w dwm_328 1 rfl) rfl
theorem dX6_clear_34 : decode cX6_clear 34 = .ok (.isub, 1) := dq_100 (dq_w dwm_328 2 rfl)
theorem dX6_clear_35 : decode cX6_clear 35 = .ok (.ireturn, 1) := dq_172 (dq_w dwm_328 3 rfl)
theorem dX6_clear_36 : decode cX6_clear 36 = .ok (.aload_n 0, 1) := dq_42 (dq_w dwm_328 4 rfl)
theorem dX6_clear_37 : decode cX6_clear 37 = .ok (.iload_n 1, 1) := dq_27 (dq_w dwm_328 5 rfl)
theorem dX6_clear_38 : decode cX6_clear 38 = .ok (.invokevirtual 229, 3) := dq_182 (dq_w dwm_328 6 rfl) (dq_w dwm_328 7 rfl) (dq_w dwm_328 8 rfl) rfl
theorem dX6_clear_41 : decode cX6_clear 41 = .ok (.invokestatic 119, 3) := dq_184 (dq_w dwm_328 9 rfl) (dq_w dwm_328 10 rfl) (dq_w dwm_328 11 rfl) rfl
theorem dX6_clear_44 : decode cX6_clear 44 = .ok (.aload_n 0, 1) := dq_42 (dq_w dwm_328 12 rfl)
theorem dX6_clear_45 : decode cX6_clear 45 = .ok (.iload_n 2, 1) := dq_28 (dq_w dwm_328 13 rfl)
theorem dX6_clear_46 : decode cX6_clear 46 = .ok (.invokevirtual 229, 3) := dq_182 (dq_w dwm_328 14 rfl) (dq_w dwm_328 15 rfl) (dq_w dwm_329 0 rfl) rfl
theorem dX6_clear_49 : decode cX6_clear 49 = .ok (.invokestatic 119, 3) := dq_184 (dq_w dwm_329 1 rfl) (dq_w dwm_329 2 rfl) (dq_w dwm_329 3 rfl) rfl
theorem dX6_clear_52 : decode cX6_clear 52 = .ok (.isub, 1) := dq_100 (dq_w dwm_329 4 rfl)
theorem dX6_clear_53 : decode cX6_clear 53 = .ok (.ireturn, 1) := dq_172 (dq_w dwm_329 5 rfl)
theorem dwm_330 : (cX6_burn.data.toList.drop 0).take 16 = [42, 3, 181, 0, 79, 27, 4, 16, 30, 184, 0, 240, 28, 4, 184, 0] := by decide +kernel
theorem dwm_331 : (cX6_burn.data.toList.drop 16).take 16 = [250, 62, 29, 156, 0, 9, 42, 29, 182, 0, 143, 172, 3, 54, 4, 21] := by decide +kernel
theorem dwm_332 : (cX6_burn.data.toList.drop 32).take 16 = [4, 16, 49, 162, 0, 17, 42, 180, 0, 70, 21, 4, 3, 79, 132, 4] := by decide +kernel
theorem dwm_333 : (cX6_burn.data.toList.drop 48).take 16 = [1, 167, 255, 238, 42, 182, 0, 196, 3, 54, 4, 21, 4, 27, 162, 0] := by decide +kernel
theorem dwm_334 : (cX6_burn.data.toList.drop 64).take 16 = [98, 42, 3, 182, 0, 135, 3, 54, 5, 21, 5, 42, 180, 0, 92, 162] := by decide +kernel
theorem dwm_335 : (cX6_burn.data.toList.drop 80).take 16 = [0, 75, 3, 54, 6, 21, 6, 16, 49, 162, 0, 59, 42, 180, 0, 28] := by decide +kernel
theorem dwm_336 : (cX6_burn.data.toList.drop 96).take 16 = [21, 5, 46, 158, 0, 49, 42, 180, 0, 70, 21, 6, 92, 46, 42, 180] := by decide +kernel
theorem dwm_337 : (cX6_burn.data.toList.drop 112).take 16 = [0, 22, 21, 5, 46, 21, 6, 184, 0, 103, 42, 180, 0, 28, 21, 5] := by decide +kernel
theorem dwm_338 : (cX6_burn.data.toList.drop 128).take 16 = [46, 163, 0, 10, 4, 21, 5, 120, 167, 0, 4, 3, 128, 79, 132, 6] := by decide +kernel
theorem dwm_339 : (cX6_burn.data.toList.drop 144).take 16 = [1, 167, 255, 196, 132, 5, 1, 167, 255, 178, 132, 4, 1, 167, 255, 158] := by decide +kernel
theorem dwm_340 : (cX6_burn.data.toList.drop 160).take 16 = [42, 182, 0, 202, 3, 54, 4, 4, 54, 5, 21, 5, 16, 49, 162, 0] := by decide +kernel
theorem dwm_341 : (cX6_burn.data.toList.drop 176).take 16 = [41, 42, 180, 0, 70, 21, 5, 46, 184, 0, 119, 42, 180, 0, 70, 21] := by decide +kernel
theorem dwm_342 : (cX6_burn.data.toList.drop 192).take 16 = [4, 46, 184, 0, 119, 164, 0, 8, 21, 5, 167, 0, 5, 21, 4, 54] := by decide +kernel
theorem dwm_343 : (cX6_burn.data.toList.drop 208).take 16 = [4, 132, 5, 1, 167, 255, 214, 28, 154, 0, 8, 21, 4, 167, 0, 13] := by decide +kernel
theorem dwm_344 : (cX6_burn.data.toList.drop 224).take 16 = [42, 180, 0, 70, 21, 4, 46, 184, 0, 119, 172] := by decide +kernel
theorem dX6_burn_0 : decode cX6_burn 0 = .ok (.aload_n 0, 1) := dq_42 (dq_w dwm_330 0 rfl)
theorem dX6_burn_1 : decode cX6_burn 1 = .ok (.iconst 0, 1) := dq_3 (dq_w dwm_330 1 rfl)
theorem dX6_burn_2 : decode cX6_burn 2 = .ok (.putfield 79, 3) := dq_181 (dq_w dwm_330 2 rfl) (dq_w dwm_330 3 rfl) (dq_w dwm_330 4 rfl) rfl
theorem dX6_burn_5 : decode cX6_burn 5 = .ok (.iload_n 1, 1) := dq_27 (dq_w dwm_330 5 rfl)
theorem dX6_burn_6 : decode cX6_burn 6 = .ok (.iconst 1, 1) := dq_4 (dq_w dwm_330 6 rfl)
theorem dX6_burn_7 : decode cX6_burn 7 = .ok (.bipush 30, 2) := dq_16 (dq_w dwm_330 7 rfl) (dq_w dwm_330 8 rfl) rfl
theorem dX6_burn_9 : decode cX6_burn 9 = .ok (.invokestatic 240, 3) := dq_184 (dq_w dwm_330 9 rfl) (dq_w dwm_330 10 rfl) (dq_w dwm_330 11 rfl) rfl
theorem dX6_burn_12 : decode cX6_burn 12 = .ok (.iload_n 2, 1) := dq_28 (dq_w dwm_330 12 rfl)
theorem dX6_burn_13 : decode cX6_burn 13 = .ok (.iconst 1, 1) := dq_4 (dq_w dwm_330 13 rfl)
theorem dX6_burn_14 : decode cX6_burn 14 = .ok (.invokestatic 250, 3) := dq_184 (dq_w dwm_330 14 rfl) (dq_w dwm_330 15 rfl) (dq_w dwm_331 0 rfl) rfl
theorem dX6_burn_17 : decode cX6_burn 17 = .ok (.istore_n 3, 1) := dq_62 (dq_w dwm_331 1 rfl)
theorem dX6_burn_18 : decode cX6_burn 18 = .ok (.iload_n 3, 1) := dq_29 (dq_w dwm_331 2 rfl)
theorem dX6_burn_19 : decode cX6_burn 19 = .ok (.ifCond .ge 9, 3) := dq_156 (dq_w dwm_331 3 rfl) (dq_w dwm_331 4 rfl) (dq_w dwm_331 5 rfl) (dq_p (n := 9) rfl rfl)
theorem dX6_burn_22 : decode cX6_burn 22 = .ok (.aload_n 0, 1) := dq_42 (dq_w dwm_331 6 rfl)
theorem dX6_burn_23 : decode cX6_burn 23 = .ok (.iload_n 3, 1) := dq_29 (dq_w dwm_331 7 rfl)
theorem dX6_burn_24 : decode cX6_burn 24 = .ok (.invokevirtual 143, 3) := dq_182 (dq_w dwm_331 8 rfl) (dq_w dwm_331 9 rfl) (dq_w dwm_331 10 rfl) rfl
theorem dX6_burn_27 : decode cX6_burn 27 = .ok (.ireturn, 1) := dq_172 (dq_w dwm_331 11 rfl)
theorem dX6_burn_28 : decode cX6_burn 28 = .ok (.iconst 0, 1) := dq_3 (dq_w dwm_331 12 rfl)
theorem dX6_burn_29 : decode cX6_burn 29 = .ok (.istore 4, 2) := dq_54 (dq_w dwm_331 13 rfl) (dq_w dwm_331 14 rfl) rfl
theorem dX6_burn_31 : decode cX6_burn 31 = .ok (.iload 4, 2) := dq_21 (dq_w dwm_331 15 rfl) (dq_w dwm_332 0 rfl) rfl
theorem dX6_burn_33 : decode cX6_burn 33 = .ok (.bipush 49, 2) := dq_16 (dq_w dwm_332 1 rfl) (dq_w dwm_332 2 rfl) rfl
theorem dX6_burn_35 : decode cX6_burn 35 = .ok (.if_icmp .ge 17, 3) := dq_162 (dq_w dwm_332 3 rfl) (dq_w dwm_332 4 rfl) (dq_w dwm_332 5 rfl) (dq_p (n := 17) rfl rfl)
theorem dX6_burn_38 : decode cX6_burn 38 = .ok (.aload_n 0, 1) := dq_42 (dq_w dwm_332 6 rfl)
theorem dX6_burn_39 : decode cX6_burn 39 = .ok (.getfield 70, 3) := dq_180 (dq_w dwm_332 7 rfl) (dq_w dwm_332 8 rfl) (dq_w dwm_332 9 rfl) rfl
theorem dX6_burn_42 : decode cX6_burn 42 = .ok (.iload 4, 2) := dq_21 (dq_w dwm_332 10 rfl) (dq_w dwm_332 11 rfl) rfl
theorem dX6_burn_44 : decode cX6_burn 44 = .ok (.iconst 0, 1) := dq_3 (dq_w dwm_332 12 rfl)
theorem dX6_burn_45 : decode cX6_burn 45 = .ok (.iastore, 1) := dq_79 (dq_w dwm_332 13 rfl)
theorem dX6_burn_46 : decode cX6_burn 46 = .ok (.iinc 4 1, 3) := dq_132 (dq_w dwm_332 14 rfl) (dq_w dwm_332 15 rfl) rfl (dq_w dwm_333 0 rfl) rfl
theorem dX6_burn_49 : decode cX6_burn 49 = .ok (.goto (-18), 3) := dq_167 (dq_w dwm_333 1 rfl) (dq_w dwm_333 2 rfl) (dq_w dwm_333 3 rfl) (dq_n (m := 18) rfl rfl)
theorem dX6_burn_52 : decode cX6_burn 52 = .ok (.aload_n 0, 1) := dq_42 (dq_w dwm_333 4 rfl)
theorem dX6_burn_53 : decode cX6_burn 53 = .ok (.invokevirtual 196, 3) := dq_182 (dq_w dwm_333 5 rfl) (dq_w dwm_333 6 rfl) (dq_w dwm_333 7 rfl) rfl
theorem dX6_burn_56 : decode cX6_burn 56 = .ok (.iconst 0, 1) := dq_3 (dq_w dwm_333 8 rfl)
theorem dX6_burn_57 : decode cX6_burn 57 = .ok (.istore 4, 2) := dq_54 (dq_w dwm_333 9 rfl) (dq_w dwm_333 10 rfl) rfl
theorem dX6_burn_59 : decode cX6_burn 59 = .ok (.iload 4, 2) := dq_21 (dq_w dwm_333 11 rfl) (dq_w dwm_333 12 rfl) rfl
theorem dX6_burn_61 : decode cX6_burn 61 = .ok (.iload_n 1, 1) := dq_27 (dq_w dwm_333 13 rfl)
theorem dX6_burn_62 : decode cX6_burn 62 = .ok (.if_icmp .ge 98, 3) := dq_162 (dq_w dwm_333 14 rfl) (dq_w dwm_333 15 rfl) (dq_w dwm_334 0 rfl) (dq_p (n := 98) rfl rfl)
theorem dX6_burn_65 : decode cX6_burn 65 = .ok (.aload_n 0, 1) := dq_42 (dq_w dwm_334 1 rfl)
theorem dX6_burn_66 : decode cX6_burn 66 = .ok (.iconst 0, 1) := dq_3 (dq_w dwm_334 2 rfl)
theorem dX6_burn_67 : decode cX6_burn 67 = .ok (.invokevirtual 135, 3) := dq_182 (dq_w dwm_334 3 rfl) (dq_w dwm_334 4 rfl) (dq_w dwm_334 5 rfl) rfl
theorem dX6_burn_70 : decode cX6_burn 70 = .ok (.iconst 0, 1) := dq_3 (dq_w dwm_334 6 rfl)
theorem dX6_burn_71 : decode cX6_burn 71 = .ok (.istore 5, 2) := dq_54 (dq_w dwm_334 7 rfl) (dq_w dwm_334 8 rfl) rfl
theorem dX6_burn_73 : decode cX6_burn 73 = .ok (.iload 5, 2) := dq_21 (dq_w dwm_334 9 rfl) (dq_w dwm_334 10 rfl) rfl
theorem dX6_burn_75 : decode cX6_burn 75 = .ok (.aload_n 0, 1) := dq_42 (dq_w dwm_334 11 rfl)
theorem dX6_burn_76 : decode cX6_burn 76 = .ok (.getfield 92, 3) := dq_180 (dq_w dwm_334 12 rfl) (dq_w dwm_334 13 rfl) (dq_w dwm_334 14 rfl) rfl
theorem dX6_burn_79 : decode cX6_burn 79 = .ok (.if_icmp .ge 75, 3) := dq_162 (dq_w dwm_334 15 rfl) (dq_w dwm_335 0 rfl) (dq_w dwm_335 1 rfl) (dq_p (n := 75) rfl rfl)
theorem dX6_burn_82 : decode cX6_burn 82 = .ok (.iconst 0, 1) := dq_3 (dq_w dwm_335 2 rfl)
theorem dX6_burn_83 : decode cX6_burn 83 = .ok (.istore 6, 2) := dq_54 (dq_w dwm_335 3 rfl) (dq_w dwm_335 4 rfl) rfl
theorem dX6_burn_85 : decode cX6_burn 85 = .ok (.iload 6, 2) := dq_21 (dq_w dwm_335 5 rfl) (dq_w dwm_335 6 rfl) rfl
theorem dX6_burn_87 : decode cX6_burn 87 = .ok (.bipush 49, 2) := dq_16 (dq_w dwm_335 7 rfl) (dq_w dwm_335 8 rfl) rfl
theorem dX6_burn_89 : decode cX6_burn 89 = .ok (.if_icmp .ge 59, 3) := dq_162 (dq_w dwm_335 9 rfl) (dq_w dwm_335 10 rfl) (dq_w dwm_335 11 rfl) (dq_p (n := 59) rfl rfl)
theorem dX6_burn_92 : decode cX6_burn 92 = .ok (.aload_n 0, 1) := dq_42 (dq_w dwm_335 12 rfl)
theorem dX6_burn_93 : decode cX6_burn 93 = .ok (.getfield 28, 3) := dq_180 (dq_w dwm_335 13 rfl) (dq_w dwm_335 14 rfl) (dq_w dwm_335 15 rfl) rfl
theorem dX6_burn_96 : decode cX6_burn 96 = .ok (.iload 5, 2) := dq_21 (dq_w dwm_336 0 rfl) (dq_w dwm_336 1 rfl) rfl
theorem dX6_burn_98 : decode cX6_burn 98 = .ok (.iaload, 1) := dq_46 (dq_w dwm_336 2 rfl)
theorem dX6_burn_99 : decode cX6_burn 99 = .ok (.ifCond .le 49, 3) := dq_158 (dq_w dwm_336 3 rfl) (dq_w dwm_336 4 rfl) (dq_w dwm_336 5 rfl) (dq_p (n := 49) rfl rfl)
theorem dX6_burn_102 : decode cX6_burn 102 = .ok (.aload_n 0, 1) := dq_42 (dq_w dwm_336 6 rfl)
theorem dX6_burn_103 : decode cX6_burn 103 = .ok (.getfield 70, 3) := dq_180 (dq_w dwm_336 7 rfl) (dq_w dwm_336 8 rfl) (dq_w dwm_336 9 rfl) rfl
theorem dX6_burn_106 : decode cX6_burn 106 = .ok (.iload 6, 2) := dq_21 (dq_w dwm_336 10 rfl) (dq_w dwm_336 11 rfl) rfl
theorem dX6_burn_108 : decode cX6_burn 108 = .ok (.dup2, 1) := dq_92 (dq_w dwm_336 12 rfl)
theorem dX6_burn_109 : decode cX6_burn 109 = .ok (.iaload, 1) := dq_46 (dq_w dwm_336 13 rfl)
theorem dX6_burn_110 : decode cX6_burn 110 = .ok (.aload_n 0, 1) := dq_42 (dq_w dwm_336 14 rfl)
theorem dX6_burn_111 : decode cX6_burn 111 = .ok (.getfield 22, 3) := dq_180 (dq_w dwm_336 15 rfl) (dq_w dwm_337 0 rfl) (dq_w dwm_337 1 rfl) rfl
theorem dX6_burn_114 : decode cX6_burn 114 = .ok (.iload 5, 2) := dq_21 (dq_w dwm_337 2 rfl) (dq_w dwm_337 3 rfl) rfl
theorem dX6_burn_116 : decode cX6_burn 116 = .ok (.iaload, 1) := dq_46 (dq_w dwm_337 4 rfl)
theorem dX6_burn_117 : decode cX6_burn 117 = .ok (.iload 6, 2) := dq_21 (dq_w dwm_337 5 rfl) (dq_w dwm_337 6 rfl) rfl
theorem dX6_burn_119 : decode cX6_burn 119 = .ok (.invokestatic 103, 3) := dq_184 (dq_w dwm_337 7 rfl) (dq_w dwm_337 8 rfl) (dq_w dwm_337 9 rfl) rfl
theorem dX6_burn_122 : decode cX6_burn 122 = .ok (.aload_n 0, 1) := dq_42 (dq_w dwm_337 10 rfl)
theorem dX6_burn_123 : decode cX6_burn 123 = .ok (.getfield 28, 3) := dq_180 (dq_w dwm_337 11 rfl) (dq_w dwm_337 12 rfl) (dq_w dwm_337 13 rfl) rfl
theorem dX6_burn_126 : decode cX6_burn 126 = .ok (.iload 5, 2) := dq_21 (dq_w dwm_337 14 rfl) (dq_w dwm_337 15 rfl) rfl
theorem dX6_burn_128 : decode cX6_burn 128 = .ok (.iaload, 1) := dq_46 (dq_w dwm_338 0 rfl)
theorem dX6_burn_129 : decode cX6_burn 129 = .ok (.if_icmp .gt 10, 3) := dq_163 (dq_w dwm_338 1 rfl) (dq_w dwm_338 2 rfl) (dq_w dwm_338 3 rfl) (dq_p (n := 10) rfl rfl)
theorem dX6_burn_132 : decode cX6_burn 132 = .ok (.iconst 1, 1) := dq_4 (dq_w dwm_338 4 rfl)
theorem dX6_burn_133 : decode cX6_burn 133 = .ok (.iload 5, 2) := dq_21 (dq_w dwm_338 5 rfl) (dq_w dwm_338 6 rfl) rfl
theorem dX6_burn_135 : decode cX6_burn 135 = .ok (.ishl, 1) := dq_120 (dq_w dwm_338 7 rfl)
theorem dX6_burn_136 : decode cX6_burn 136 = .ok (.goto 4, 3) := dq_167 (dq_w dwm_338 8 rfl) (dq_w dwm_338 9 rfl) (dq_w dwm_338 10 rfl) (dq_p (n := 4) rfl rfl)
theorem dX6_burn_139 : decode cX6_burn 139 = .ok (.iconst 0, 1) := dq_3 (dq_w dwm_338 11 rfl)
theorem dX6_burn_140 : decode cX6_burn 140 = .ok (.ior, 1) := dq_128 (dq_w dwm_338 12 rfl)
theorem dX6_burn_141 : decode cX6_burn 141 = .ok (.iastore, 1) := dq_79 (dq_w dwm_338 13 rfl)
theorem dX6_burn_142 : decode cX6_burn 142 = .ok (.iinc 6 1, 3) := dq_132 (dq_w dwm_338 14 rfl) (dq_w dwm_338 15 rfl) rfl (dq_w dwm_339 0 rfl) rfl
theorem dX6_burn_145 : decode cX6_burn 145 = .ok (.goto (-60), 3) := dq_167 (dq_w dwm_339 1 rfl) (dq_w dwm_339 2 rfl) (dq_w dwm_339 3 rfl) (dq_n (m := 60) rfl rfl)
theorem dX6_burn_148 : decode cX6_burn 148 = .ok (.iinc 5 1, 3) := dq_132 (dq_w dwm_339 4 rfl) (dq_w dwm_339 5 rfl) rfl (dq_w dwm_339 6 rfl) rfl
theorem dX6_burn_151 : decode cX6_burn 151 = .ok (.goto (-78), 3) := dq_167 (dq_w dwm_339 7 rfl) (dq_w dwm_339 8 rfl) (dq_w dwm_339 9 rfl) (dq_n (m := 78) rfl rfl)
theorem dX6_burn_154 : decode cX6_burn 154 = .ok (.iinc 4 1, 3) := dq_132 (dq_w dwm_339 10 rfl) (dq_w dwm_339 11 rfl) rfl (dq_w dwm_339 12 rfl) rfl
theorem dX6_burn_157 : decode cX6_burn 157 = .ok (.goto (-98), 3) := dq_167 (dq_w dwm_339 13 rfl) (dq_w dwm_339 14 rfl) (dq_w dwm_339 15 rfl) (dq_n (m := 98) rfl rfl)
theorem dX6_burn_160 : decode cX6_burn 160 = .ok (.aload_n 0, 1) := dq_42 (dq_w dwm_340 0 rfl)
theorem dX6_burn_161 : decode cX6_burn 161 = .ok (.invokevirtual 202, 3) := dq_182 (dq_w dwm_340 1 rfl) (dq_w dwm_340 2 rfl) (dq_w dwm_340 3 rfl) rfl
theorem dX6_burn_164 : decode cX6_burn 164 = .ok (.iconst 0, 1) := dq_3 (dq_w dwm_340 4 rfl)
theorem dX6_burn_165 : decode cX6_burn 165 = .ok (.istore 4, 2) := dq_54 (dq_w dwm_340 5 rfl) (dq_w dwm_340 6 rfl) rfl
theorem dX6_burn_167 : decode cX6_burn 167 = .ok (.iconst 1, 1) := dq_4 (dq_w dwm_340 7 rfl)
theorem dX6_burn_168 : decode cX6_burn 168 = .ok (.istore 5, 2) := dq_54 (dq_w dwm_340 8 rfl) (dq_w dwm_340 9 rfl) rfl
theorem dX6_burn_170 : decode cX6_burn 170 = .ok (.iload 5, 2) := dq_21 (dq_w dwm_340 10 rfl) (dq_w dwm_340 11 rfl) rfl
theorem dX6_burn_172 : decode cX6_burn 172 = .ok (.bipush 49, 2) := dq_16 (dq_w dwm_340 12 rfl) (dq_w dwm_340 13 rfl) rfl
theorem dX6_burn_174 : decode cX6_burn 174 = .ok (.if_icmp .ge 41, 3) := dq_162 (dq_w dwm_340 14 rfl) (dq_w dwm_340 15 rfl) (dq_w dwm_341 0 rfl) (dq_p (n := 41) rfl rfl)
theorem dX6_burn_177 : decode cX6_burn 177 = .ok (.aload_n 0, 1) := dq_42 (dq_w dwm_341 1 rfl)
theorem dX6_burn_178 : decode cX6_burn 178 = .ok (.getfield 70, 3) := dq_180 (dq_w dwm_341 2 rfl) (dq_w dwm_341 3 rfl) (dq_w dwm_341 4 rfl) rfl
theorem dX6_burn_181 : decode cX6_burn 181 = .ok (.iload 5, 2) := dq_21 (dq_w dwm_341 5 rfl) (dq_w dwm_341 6 rfl) rfl
theorem dX6_burn_183 : decode cX6_burn 183 = .ok (.iaload, 1) := dq_46 (dq_w dwm_341 7 rfl)
theorem dX6_burn_184 : decode cX6_burn 184 = .ok (.invokestatic 119, 3) := dq_184 (dq_w dwm_341 8 rfl) (dq_w dwm_341 9 rfl) (dq_w dwm_341 10 rfl) rfl
theorem dX6_burn_187 : decode cX6_burn 187 = .ok (.aload_n 0, 1) := dq_42 (dq_w dwm_341 11 rfl)
theorem dX6_burn_188 : decode cX6_burn 188 = .ok (.getfield 70, 3) := dq_180 (dq_w dwm_341 12 rfl) (dq_w dwm_341 13 rfl) (dq_w dwm_341 14 rfl) rfl
theorem dX6_burn_191 : decode cX6_burn 191 = .ok (.iload 4, 2) := dq_21 (dq_w dwm_341 15 rfl) (dq_w dwm_342 0 rfl) rfl
theorem dX6_burn_193 : decode cX6_burn 193 = .ok (.iaload, 1) := dq_46 (dq_w dwm_342 1 rfl)
theorem dX6_burn_194 : decode cX6_burn 194 = .ok (.invokestatic 119, 3) := dq_184 (dq_w dwm_342 2 rfl) (dq_w dwm_342 3 rfl) (dq_w dwm_342 4 rfl) rfl
theorem dX6_burn_197 : decode cX6_burn 197 = .ok (.if_icmp .le 8, 3) := dq_164 (dq_w dwm_342 5 rfl) (dq_w dwm_342 6 rfl) (dq_w dwm_342 7 rfl) (dq_p (n := 8) rfl rfl)
theorem dX6_burn_200 : decode cX6_burn 200 = .ok (.iload 5, 2) := dq_21 (dq_w dwm_342 8 rfl) (dq_w dwm_342 9 rfl) rfl
theorem dX6_burn_202 : decode cX6_burn 202 = .ok (.goto 5, 3) := dq_167 (dq_w dwm_342 10 rfl) (dq_w dwm_342 11 rfl) (dq_w dwm_342 12 rfl) (dq_p (n := 5) rfl rfl)
theorem dX6_burn_205 : decode cX6_burn 205 = .ok (.iload 4, 2) := dq_21 (dq_w dwm_342 13 rfl) (dq_w dwm_342 14 rfl) rfl
theorem dX6_burn_207 : decode cX6_burn 207 = .ok (.istore 4, 2) := dq_54 (dq_w dwm_342 15 rfl) (dq_w dwm_343 0 rfl) rfl
theorem dX6_burn_209 : decode cX6_burn 209 = .ok (.iinc 5 1, 3) := dq_132 (dq_w dwm_343 1 rfl) (dq_w dwm_343 2 rfl) rfl (dq_w dwm_343 3 rfl) rfl
theorem dX6_burn_212 : decode cX6_burn 212 = .ok (.goto (-42), 3) := dq_167 (dq_w dwm_343 4 rfl) (dq_w dwm_343 5 rfl) (dq_w dwm_343 6 rfl) (dq_n (m := 42) rfl rfl)
theorem dX6_burn_215 : decode cX6_burn 215 = .ok (.iload_n 2, 1) := dq_28 (dq_w dwm_343 7 rfl)
theorem dX6_burn_216 : decode cX6_burn 216 = .ok (.ifCond .ne 8, 3) := dq_154 (dq_w dwm_343 8 rfl) (dq_w dwm_343 9 rfl) (dq_w dwm_343 10 rfl) (dq_p (n := 8) rfl rfl)
theorem dX6_burn_219 : decode cX6_burn 219 = .ok (.iload 4, 2) := dq_21 (dq_w dwm_343 11 rfl) (dq_w dwm_343 12 rfl) rfl
theorem dX6_burn_221 : decode cX6_burn 221 = .ok (.goto 13, 3) := dq_167 (dq_w dwm_343 13 rfl) (dq_w dwm_343 14 rfl) (dq_w dwm_343 15 rfl) (dq_p (n := 13) rfl rfl)
theorem dX6_burn_224 : decode cX6_burn 224 = .ok (.aload_n 0, 1) := dq_42 (dq_w dwm_344 0 rfl)
theorem dX6_burn_225 : decode cX6_burn 225 = .ok (.getfield 70, 3) := dq_180 (dq_w dwm_344 1 rfl) (dq_w dwm_344 2 rfl) (dq_w dwm_344 3 rfl) rfl
theorem dX6_burn_228 : decode cX6_burn 228 = .ok (.iload 4, 2) := dq_21 (dq_w dwm_344 4 rfl) (dq_w dwm_344 5 rfl) rfl
theorem dX6_burn_230 : decode cX6_burn 230 = .ok (.iaload, 1) := dq_46 (dq_w dwm_344 6 rfl)
theorem dX6_burn_231 : decode cX6_burn 231 = .ok (.invokestatic 119, 3) := dq_184 (dq_w dwm_344 7 rfl) (dq_w dwm_344 8 rfl) (dq_w dwm_344 9 rfl) rfl
theorem dX6_burn_234 : decode cX6_burn 234 = .ok (.ireturn, 1) := dq_172 (dq_w dwm_344 10 rfl)
theorem dwm_345 : (cX6_shut.data.toList.drop 0).take 16 = [42, 3, 181, 0, 79, 27, 3, 16, 60, 184, 0, 240, 61, 28, 156, 0] := by decide +kernel
theorem dwm_346 : (cX6_shut.data.toList.drop 16).take 16 = [9, 42, 28, 182, 0, 143, 172, 16, 247, 62, 42, 182, 0, 196, 42, 27] := by decide +kernel
theorem dwm_347 : (cX6_shut.data.toList.drop 32).take 16 = [182, 0, 189, 42, 182, 0, 253, 54, 4, 42, 182, 0, 202, 3, 54, 5] := by decide +kernel
theorem dwm_348 : (cX6_shut.data.toList.drop 48).take 16 = [21, 5, 42, 180, 0, 89, 162, 0, 62, 42, 180, 0, 19, 21, 5, 3] := by decide +kernel
theorem dwm_349 : (cX6_shut.data.toList.drop 64).take 16 = [79, 42, 27, 182, 0, 189, 42, 182, 0, 253, 54, 6, 42, 182, 0, 202] := by decide +kernel
theorem dwm_350 : (cX6_shut.data.toList.drop 80).take 16 = [21, 6, 21, 4, 162, 0, 8, 21, 5, 167, 0, 4, 29, 62, 21, 6] := by decide +kernel
theorem dwm_351 : (cX6_shut.data.toList.drop 96).take 16 = [21, 4, 162, 0, 8, 21, 6, 167, 0, 5, 21, 4, 54, 4, 132, 5] := by decide +kernel
theorem dwm_352 : (cX6_shut.data.toList.drop 112).take 16 = [1, 167, 255, 191, 29, 172] := by decide +kernel
theorem dX6_shut_0 : decode cX6_shut 0 = .ok (.aload_n 0, 1) := dq_42 (dq_w dwm_345 0 rfl)
theorem dX6_shut_1 : decode cX6_shut 1 = .ok (.iconst 0, 1) := dq_3 (dq_w dwm_345 1 rfl)
theorem dX6_shut_2 : decode cX6_shut 2 = .ok (.putfield 79, 3) := dq_181 (dq_w dwm_345 2 rfl) (dq_w dwm_345 3 rfl) (dq_w dwm_345 4 rfl) rfl
theorem dX6_shut_5 : decode cX6_shut 5 = .ok (.iload_n 1, 1) := dq_27 (dq_w dwm_345 5 rfl)
theorem dX6_shut_6 : decode cX6_shut 6 = .ok (.iconst 0, 1) := dq_3 (dq_w dwm_345 6 rfl)
theorem dX6_shut_7 : decode cX6_shut 7 = .ok (.bipush 60, 2) := dq_16 (dq_w dwm_345 7 rfl) (dq_w dwm_345 8 rfl) rfl
theorem dX6_shut_9 : decode cX6_shut 9 = .ok (.invokestatic 240, 3) := dq_184 (dq_w dwm_345 9 rfl) (dq_w dwm_345 10 rfl) (dq_w dwm_345 11 rfl) rfl
theorem dX6_shut_12 : decode cX6_shut 12 = .ok (.istore_n 2, 1) := dq_61 (dq_w dwm_345 12 rfl)
theorem dX6_shut_13 : decode cX6_shut 13 = .ok (.iload_n 2, 1) := dq_28 (dq_w dwm_345 13 rfl)
theorem dX6_shut_14 : decode cX6_shut 14 = .ok (.ifCond .ge 9, 3) := dq_156 (dq_w dwm_345 14 rfl) (dq_w dwm_345 15 rfl) (dq_w dwm_346 0 rfl) (dq_p (n := 9) rfl rfl)
theorem dX6_shut_17 : decode cX6_shut 17 = .ok (.aload_n 0, 1) := dq_42 (dq_w dwm_346 1 rfl)
theorem dX6_shut_18 : decode cX6_shut 18 = .ok (.iload_n 2, 1) := dq_28 (dq_w dwm_346 2 rfl)
theorem dX6_shut_19 : decode cX6_shut 19 = .ok (.invokevirtual 143, 3) := dq_182 (dq_w dwm_346 3 rfl) (dq_w dwm_346 4 rfl) (dq_w dwm_346 5 rfl) rfl
theorem dX6_shut_22 : decode cX6_shut 22 = .ok (.ireturn, 1) := dq_172 (dq_w dwm_346 6 rfl)
theorem dX6_shut_23 : decode cX6_shut 23 = .ok (.bipush (-9), 2) := dq_16 (dq_w dwm_346 7 rfl) (dq_w dwm_346 8 rfl) rfl
theorem dX6_shut_25 : decode cX6_shut 25 = .ok (.istore_n 3, 1) := dq_62 (dq_w dwm_346 9 rfl)
theorem dX6_shut_26 : decode cX6_shut 26 = .ok (.aload_n 0, 1) := dq_42 (dq_w dwm_346 10 rfl)
theorem dX6_shut_27 : decode cX6_shut 27 = .ok (.invokevirtual 196, 3) := dq_182 (dq_w dwm_346 11 rfl) (dq_w dwm_346 12 rfl) (dq_w dwm_346 13 rfl) rfl
theorem dX6_shut_30 : decode cX6_shut 30 = .ok (.aload_n 0, 1) := dq_42 (dq_w dwm_346 14 rfl)
theorem dX6_shut_31 : decode cX6_shut 31 = .ok (.iload_n 1, 1) := dq_27 (dq_w dwm_346 15 rfl)
theorem dX6_shut_32 : decode cX6_shut 32 = .ok (.invokevirtual 189, 3) := dq_182 (dq_w dwm_347 0 rfl) (dq_w dwm_347 1 rfl) (dq_w dwm_347 2 rfl) rfl
theorem dX6_shut_35 : decode cX6_shut 35 = .ok (.aload_n 0, 1) := dq_42 (dq_w dwm_347 3 rfl)
theorem dX6_shut_36 : decode cX6_shut 36 = .ok (.invokevirtual 253, 3) := dq_182 (dq_w dwm_347 4 rfl) (dq_w dwm_347 5 rfl) (dq_w dwm_347 6 rfl) rfl
theorem dX6_shut_39 : decode cX6_shut 39 = .ok (.istore 4, 2) := dq_54 (dq_w dwm_347 7 rfl) (dq_w dwm_347 8 rfl) rfl
theorem dX6_shut_41 : decode cX6_shut 41 = .ok (.aload_n 0, 1) := dq_42 (dq_w dwm_347 9 rfl)
theorem dX6_shut_42 : decode cX6_shut 42 = .ok (.invokevirtual 202, 3) := dq_182 (dq_w dwm_347 10 rfl) (dq_w dwm_347 11 rfl) (dq_w dwm_347 12 rfl) rfl
theorem dX6_shut_45 : decode cX6_shut 45 = .ok (.iconst 0, 1) := dq_3 (dq_w dwm_347 13 rfl)
theorem dX6_shut_46 : decode cX6_shut 46 = .ok (.istore 5, 2) := dq_54 (dq_w dwm_347 14 rfl) (dq_w dwm_347 15 rfl) rfl
theorem dX6_shut_48 : decode cX6_shut 48 = .ok (.iload 5, 2) := dq_21 (dq_w dwm_348 0 rfl) (dq_w dwm_348 1 rfl) rfl
theorem dX6_shut_50 : decode cX6_shut 50 = .ok (.aload_n 0, 1) := dq_42 (dq_w dwm_348 2 rfl)
theorem dX6_shut_51 : decode cX6_shut 51 = .ok (.getfield 89, 3) := dq_180 (dq_w dwm_348 3 rfl) (dq_w dwm_348 4 rfl) (dq_w dwm_348 5 rfl) rfl
theorem dX6_shut_54 : decode cX6_shut 54 = .ok (.if_icmp .ge 62, 3) := dq_162 (dq_w dwm_348 6 rfl) (dq_w dwm_348 7 rfl) (dq_w dwm_348 8 rfl) (dq_p (n := 62) rfl rfl)
theorem dX6_shut_57 : decode cX6_shut 57 = .ok (.aload_n 0, 1) := dq_42 (dq_w dwm_348 9 rfl)
theorem dX6_shut_58 : decode cX6_shut 58 = .ok (.getfield 19, 3) := dq_180 (dq_w dwm_348 10 rfl) (dq_w dwm_348 11 rfl) (dq_w dwm_348 12 rfl) rfl
theorem dX6_shut_61 : decode cX6_shut 61 = .ok (.iload 5, 2) := dq_21 (dq_w dwm_348 13 rfl) (dq_w dwm_348 14 rfl) rfl
theorem dX6_shut_63 : decode cX6_shut 63 = .ok (.iconst 0, 1) := dq_3 (dq_w dwm_348 15 rfl)
theorem dX6_shut_64 : decode cX6_shut 64 = .ok (.iastore, 1) := dq_79 (dq_w dwm_349 0 rfl)
theorem dX6_shut_65 : decode cX6_shut 65 = .ok (.aload_n 0, 1) := dq_42 (dq_w dwm_349 1 rfl)
theorem dX6_shut_66 : decode cX6_shut 66 = .ok (.iload_n 1, 1) := dq_27 (dq_w dwm_349 2 rfl)
theorem dX6_shut_67 : decode cX6_shut 67 = .ok (.invokevirtual 189, 3) := dq_182 (dq_w dwm_349 3 rfl) (dq_w dwm_349 4 rfl) (dq_w dwm_349 5 rfl) rfl
theorem dX6_shut_70 : decode cX6_shut 70 = .ok (.aload_n 0, 1) := dq_42 (dq_w dwm_349 6 rfl)
theorem dX6_shut_71 : decode cX6_shut 71 = .ok (.invokevirtual 253, 3) := dq_182 (dq_w dwm_349 7 rfl) (dq_w dwm_349 8 rfl) (dq_w dwm_349 9 rfl) rfl
theorem dX6_shut_74 : decode cX6_shut 74 = .ok (.istore 6, 2) := dq_54 (dq_w dwm_349 10 rfl) (dq_w dwm_349 11 rfl) rfl
theorem dX6_shut_76 : decode cX6_shut 76 = .ok (.aload_n 0, 1) := dq_42 (dq_w dwm_349 12 rfl)
theorem dX6_shut_77 : decode cX6_shut 77 = .ok (.invokevirtual 202, 3) := dq_182 (dq_w dwm_349 13 rfl) (dq_w dwm_349 14 rfl) (dq_w dwm_349 15 rfl) rfl
theorem dX6_shut_80 : decode cX6_shut 80 = .ok (.iload 6, 2) := dq_21 (dq_w dwm_350 0 rfl) (dq_w dwm_350 1 rfl) rfl
theorem dX6_shut_82 : decode cX6_shut 82 = .ok (.iload 4, 2) := dq_21 (dq_w dwm_350 2 rfl) (dq_w dwm_350 3 rfl) rfl
theorem dX6_shut_84 : decode cX6_shut 84 = .ok (.if_icmp .ge 8, 3) := dq_162 (dq_w dwm_350 4 rfl) (dq_w dwm_350 5 rfl) (dq_w dwm_350 6 rfl) (dq_p (n := 8) rfl rfl)
theorem dX6_shut_87 : decode cX6_shut 87 = .ok (.iload 5, 2) := dq_21 (dq_w dwm_350 7 rfl) (dq_w dwm_350 8 rfl) rfl
theorem dX6_shut_89 : decode cX6_shut 89 = .ok (.goto 4, 3) := dq_167 (dq_w dwm_350 9 rfl) (dq_w dwm_350 10 rfl) (dq_w dwm_350 11 rfl) (dq_p (n := 4) rfl rfl)
theorem dX6_shut_92 : decode cX6_shut 92 = .ok (.iload_n 3, 1) := dq_29 (dq_w dwm_350 12 rfl)
theorem dX6_shut_93 : decode cX6_shut 93 = .ok (.istore_n 3, 1) := dq_62 (dq_w dwm_350 13 rfl)
theorem dX6_shut_94 : decode cX6_shut 94 = .ok (.iload 6, 2) := dq_21 (dq_w dwm_350 14 rfl) (dq_w dwm_350 15 rfl) rfl
theorem dX6_shut_96 : decode cX6_shut 96 = .ok (.iload 4, 2) := dq_21 (dq_w dwm_351 0 rfl) (dq_w dwm_351 1 rfl) rfl
theorem dX6_shut_98 : decode cX6_shut 98 = .ok (.if_icmp .ge 8, 3) := dq_162 (dq_w dwm_351 2 rfl) (dq_w dwm_351 3 rfl) (dq_w dwm_351 4 rfl) (dq_p (n := 8) rfl rfl)
theorem dX6_shut_101 : decode cX6_shut 101 = .ok (.iload 6, 2) := dq_21 (dq_w dwm_351 5 rfl) (dq_w dwm_351 6 rfl) rfl
theorem dX6_shut_103 : decode cX6_shut 103 = .ok (.goto 5, 3) := dq_167 (dq_w dwm_351 7 rfl) (dq_w dwm_351 8 rfl) (dq_w dwm_351 9 rfl) (dq_p (n := 5) rfl rfl)
theorem dX6_shut_106 : decode cX6_shut 106 = .ok (.iload 4, 2) := dq_21 (dq_w dwm_351 10 rfl) (dq_w dwm_351 11 rfl) rfl
theorem dX6_shut_108 : decode cX6_shut 108 = .ok (.istore 4, 2) := dq_54 (dq_w dwm_351 12 rfl) (dq_w dwm_351 13 rfl) rfl
theorem dX6_shut_110 : decode cX6_shut 110 = .ok (.iinc 5 1, 3) := dq_132 (dq_w dwm_351 14 rfl) (dq_w dwm_351 15 rfl) rfl (dq_w dwm_352 0 rfl) rfl
theorem dX6_shut_113 : decode cX6_shut 113 = .ok (.goto (-65), 3) := dq_167 (dq_w dwm_352 1 rfl) (dq_w dwm_352 2 rfl) (dq_w dwm_352 3 rfl) (dq_n (m := 65) rfl rfl)
theorem dX6_shut_116 : decode cX6_shut 116 = .ok (.iload_n 3, 1) := dq_29 (dq_w dwm_352 4 rfl)
theorem dX6_shut_117 : decode cX6_shut 117 = .ok (.ireturn, 1) := dq_172 (dq_w dwm_352 5 rfl)
theorem dwm_353 : (cX6_heavyPrices.data.toList.drop 0).take 16 = [3, 60, 3, 61, 28, 42, 180, 0, 92, 162, 0, 31, 42, 28, 182, 0] := by decide +kernel
theorem dwm_354 : (cX6_heavyPrices.data.toList.drop 16).take 16 = [113, 62, 27, 29, 16, 30, 164, 0, 9, 5, 29, 104, 167, 0, 4, 29] := by decide +kernel
theorem dwm_355 : (cX6_heavyPrices.data.toList.drop 32).take 16 = [96, 60, 132, 2, 1, 167, 255, 223, 27, 172] := by decide +kernel
theorem dX6_heavyPrices_0 : decode cX6_heavyPrices 0 = .ok (.iconst 0, 1) := dq_3 (dq_w dwm_353 0 rfl)
theorem dX6_heavyPrices_1 : decode cX6_heavyPrices 1 = .ok (.istore_n 1, 1) := dq_60 (dq_w dwm_353 1 rfl)
theorem dX6_heavyPrices_2 : decode cX6_heavyPrices 2 = .ok (.iconst 0, 1) := dq_3 (dq_w dwm_353 2 rfl)
theorem dX6_heavyPrices_3 : decode cX6_heavyPrices 3 = .ok (.istore_n 2, 1) := dq_61 (dq_w dwm_353 3 rfl)
theorem dX6_heavyPrices_4 : decode cX6_heavyPrices 4 = .ok (.iload_n 2, 1) := dq_28 (dq_w dwm_353 4 rfl)
theorem dX6_heavyPrices_5 : decode cX6_heavyPrices 5 = .ok (.aload_n 0, 1) := dq_42 (dq_w dwm_353 5 rfl)
theorem dX6_heavyPrices_6 : decode cX6_heavyPrices 6 = .ok (.getfield 92, 3) := dq_180 (dq_w dwm_353 6 rfl) (dq_w dwm_353 7 rfl) (dq_w dwm_353 8 rfl) rfl
theorem dX6_heavyPrices_9 : decode cX6_heavyPrices 9 = .ok (.if_icmp .ge 31, 3) := dq_162 (dq_w dwm_353 9 rfl) (dq_w dwm_353 10 rfl) (dq_w dwm_353 11 rfl) (dq_p (n := 31) rfl rfl)
theorem dX6_heavyPrices_12 : decode cX6_heavyPrices 12 = .ok (.aload_n 0, 1) := dq_42 (dq_w dwm_353 12 rfl)
theorem dX6_heavyPrices_13 : decode cX6_heavyPrices 13 = .ok (.iload_n 2, 1) := dq_28 (dq_w dwm_353 13 rfl)
theorem dX6_heavyPrices_14 : decode cX6_heavyPrices 14 = .ok (.invokevirtual 113, 3) := dq_182 (dq_w dwm_353 14 rfl) (dq_w dwm_353 15 rfl) (dq_w dwm_354 0 rfl) rfl
theorem dX6_heavyPrices_17 : decode cX6_heavyPrices 17 = .ok (.istore_n 3, 1) := dq_62 (dq_w dwm_354 1 rfl)
theorem dX6_heavyPrices_18 : decode cX6_heavyPrices 18 = .ok (.iload_n 1, 1) := dq_27 (dq_w dwm_354 2 rfl)
theorem dX6_heavyPrices_19 : decode cX6_heavyPrices 19 = .ok (.iload_n 3, 1) := dq_29 (dq_w dwm_354 3 rfl)
theorem dX6_heavyPrices_20 : decode cX6_heavyPrices 20 = .ok (.bipush 30, 2) := dq_16 (dq_w dwm_354 4 rfl) (dq_w dwm_354 5 rfl) rfl
theorem dX6_heavyPrices_22 : decode cX6_heavyPrices 22 = .ok (.if_icmp .le 9, 3) := dq_164 (dq_w dwm_354 6 rfl) (dq_w dwm_354 7 rfl) (dq_w dwm_354 8 rfl) (dq_p (n := 9) rfl rfl)
theorem dX6_heavyPrices_25 : decode cX6_heavyPrices 25 = .ok (.iconst 2, 1) := dq_5 (dq_w dwm_354 9 rfl)
theorem dX6_heavyPrices_26 : decode cX6_heavyPrices 26 = .ok (.iload_n 3, 1) := dq_29 (dq_w dwm_354 10 rfl)
theorem dX6_heavyPrices_27 : decode cX6_heavyPrices 27 = .ok (.imul, 1) := dq_104 (dq_w dwm_354 11 rfl)
theorem dX6_heavyPrices_28 : decode cX6_heavyPrices 28 = .ok (.goto 4, 3) := dq_167 (dq_w dwm_354 12 rfl) (dq_w dwm_354 13 rfl) (dq_w dwm_354 14 rfl) (dq_p (n := 4) rfl rfl)
theorem dX6_heavyPrices_31 : decode cX6_heavyPrices 31 = .ok (.iload_n 3, 1) := dq_29 (dq_w dwm_354 15 rfl)
theorem dX6_heavyPrices_32 : decode cX6_heavyPrices 32 = .ok (.iadd, 1) := dq_96 (dq_w dwm_355 0 rfl)
theorem dX6_heavyPrices_33 : decode cX6_heavyPrices 33 = .ok (.istore_n 1, 1) := dq_60 (dq_w dwm_355 1 rfl)
theorem dX6_heavyPrices_34 : decode cX6_heavyPrices 34 = .ok (.iinc 2 1, 3) := dq_132 (dq_w dwm_355 2 rfl) (dq_w dwm_355 3 rfl) rfl (dq_w dwm_355 4 rfl) rfl
theorem dX6_heavyPrices_37 : decode cX6_heavyPrices 37 = .ok (.goto (-33), 3) := dq_167 (dq_w dwm_355 5 rfl) (dq_w dwm_355 6 rfl) (dq_w dwm_355 7 rfl) (dq_n (m := 33) rfl rfl)
theorem dX6_heavyPrices_40 : decode cX6_heavyPrices 40 = .ok (.iload_n 1, 1) := dq_27 (dq_w dwm_355 8 rfl)
theorem dX6_heavyPrices_41 : decode cX6_heavyPrices 41 = .ok (.ireturn, 1) := dq_172 (dq_w dwm_355 9 rfl)
theorem dwm_356 : (cX6_trade.data.toList.drop 0).take 16 = [42, 3, 181, 0, 79, 42, 27, 28, 182, 0, 237, 62, 29, 154, 0, 22] := by decide +kernel
theorem dwm_357 : (cX6_trade.data.toList.drop 16).take 16 = [42, 180, 0, 31, 16, 7, 27, 104, 28, 96, 46, 154, 0, 8, 16, 253] := by decide +kernel
theorem dwm_358 : (cX6_trade.data.toList.drop 32).take 16 = [167, 0, 4, 29, 62, 29, 156, 0, 9, 42, 29, 182, 0, 143, 172, 16] := by decide +kernel
theorem dwm_359 : (cX6_trade.data.toList.drop 48).take 16 = [247, 54, 4, 42, 182, 1, 16, 54, 5, 42, 182, 0, 196, 3, 54, 6] := by decide +kernel
theorem dwm_360 : (cX6_trade.data.toList.drop 64).take 16 = [21, 6, 42, 180, 0, 92, 162, 0, 101, 42, 180, 0, 31, 16, 7, 21] := by decide +kernel
theorem dwm_361 : (cX6_trade.data.toList.drop 80).take 16 = [6, 104, 28, 96, 46, 154, 0, 80, 42, 180, 0, 31, 16, 7, 21, 6] := by decide +kernel
theorem dwm_362 : (cX6_trade.data.toList.drop 96).take 16 = [104, 28, 96, 42, 180, 0, 31, 16, 7, 27, 104, 28, 96, 46, 79, 42] := by decide +kernel
theorem dwm_363 : (cX6_trade.data.toList.drop 112).take 16 = [180, 0, 31, 16, 7, 27, 104, 28, 96, 3, 79, 42, 182, 1, 16, 54] := by decide +kernel
theorem dwm_364 : (cX6_trade.data.toList.drop 128).take 16 = [7, 42, 182, 0, 202, 21, 7, 21, 5, 162, 0, 8, 21, 6, 167, 0] := by decide +kernel
theorem dwm_365 : (cX6_trade.data.toList.drop 144).take 16 = [5, 21, 4, 54, 4, 21, 7, 21, 5, 162, 0, 8, 21, 7, 167, 0] := by decide +kernel
theorem dwm_366 : (cX6_trade.data.toList.drop 160).take 16 = [5, 21, 5, 54, 5, 132, 6, 1, 167, 255, 152, 21, 4, 172] := by decide +kernel
theorem dX6_trade_0 : decode cX6_trade 0 = .ok (.aload_n 0, 1) := dq_42 (dq_w dwm_356 0 rfl)
theorem dX6_trade_1 : decode cX6_trade 1 = .ok (.iconst 0, 1) := dq_3 (dq_w dwm_356 1 rfl)
theorem dX6_trade_2 : decode cX6_trade 2 = .ok (.putfield 79, 3) := dq_181 (dq_w dwm_356 2 rfl) (dq_w dwm_356 3 rfl) (dq_w dwm_356 4 rfl) rfl
theorem dX6_trade_5 : decode cX6_trade 5 = .ok (.aload_n 0, 1) := dq_42 (dq_w dwm_356 5 rfl)
theorem dX6_trade_6 : decode cX6_trade 6 = .ok (.iload_n 1, 1) := dq_27 (dq_w dwm_356 6 rfl)
theorem dX6_trade_7 : decode cX6_trade 7 = .ok (.iload_n 2, 1) := dq_28 (dq_w dwm_356 7 rfl)
theorem dX6_trade_8 : decode cX6_trade 8 = .ok (.invokevirtual 237, 3) := dq_182 (dq_w dwm_356 8 rfl) (dq_w dwm_356 9 rfl) (dq_w dwm_356 10 rfl) rfl
theorem dX6_trade_11 : decode cX6_trade 11 = .ok (.istore_n 3, 1) := dq_62 (dq_w dwm_356 11 rfl)
theorem dX6_trade_12 : decode cX6_trade 12 = .ok (.iload_n 3, 1) := dq_29 (dq_w dwm_356 12 rfl)
theorem dX6_trade_13 : decode cX6_trade 13 = .ok (.ifCond .ne 22, 3) := dq_154 (dq_w dwm_356 13 rfl) (dq_w dwm_356 14 rfl) (dq_w dwm_356 15 rfl) (dq_p (n := 22) rfl rfl)
theorem dX6_trade_16 : decode cX6_trade 16 = .ok (.aload_n 0, 1) := dq_42 (dq_w dwm_357 0 rfl)
theorem dX6_trade_17 : decode cX6_trade 17 = .ok (.getfield 31, 3) := dq_180 (dq_w dwm_357 1 rfl) (dq_w dwm_357 2 rfl) (dq_w dwm_357 3 rfl) rfl
theorem dX6_trade_20 : decode cX6_trade 20 = .ok (.bipush 7, 2) := dq_16 (dq_w dwm_357 4 rfl) (dq_w dwm_357 5 rfl) rfl
theorem dX6_trade_22 : decode cX6_trade 22 = .ok (.iload_n 1, 1) := dq_27 (dq_w dwm_357 6 rfl)
theorem dX6_trade_23 : decode cX6_trade 23 = .ok (.imul, 1) := dq_104 (dq_w dwm_357 7 rfl)
theorem dX6_trade_24 : decode cX6_trade 24 = .ok (.iload_n 2, 1) := dq_28 (dq_w dwm_357 8 rfl)
theorem dX6_trade_25 : decode cX6_trade 25 = .ok (.iadd, 1) := dq_96 (dq_w dwm_357 9 rfl)
theorem dX6_trade_26 : decode cX6_trade 26 = .ok (.iaload, 1) := dq_46 (dq_w dwm_357 10 rfl)
theorem dX6_trade_27 : decode cX6_trade 27 = .ok (.ifCond .ne 8, 3) := dq_154 (dq_w dwm_357 11 rfl) (dq_w dwm_357 12 rfl) (dq_w dwm_357 13 rfl) (dq_p (n := 8) rfl rfl)
theorem dX6_trade_30 : decode cX6_trade 30 = .ok (.bipush (-3), 2) := dq_16 (dq_w dwm_357 14 rfl) (dq_w dwm_357 15 rfl) rfl
theorem dX6_trade_32 : decode cX6_trade 32 = .ok (.goto 4, 3) := dq_167 (dq_w dwm_358 0 rfl) (dq_w dwm_358 1 rfl) (dq_w dwm_358 2 rfl) (dq_p (n := 4) rfl rfl)
theorem dX6_trade_35 : decode cX6_trade 35 = .ok (.iload_n 3, 1) := dq_29 (dq_w dwm_358 3 rfl)
theorem dX6_trade_36 : decode cX6_trade 36 = .ok (.istore_n 3, 1) := dq_62 (dq_w dwm_358 4 rfl)
theorem dX6_trade_37 : decode cX6_trade 37 = .ok (.iload_n 3, 1) := dq_29 (dq_w dwm_358 5 rfl)
theorem dX6_trade_38 : decode cX6_trade 38 = .ok (.ifCond .ge 9, 3) := dq_156 (dq_w dwm_358 6 rfl) (dq_w dwm_358 7 rfl) (dq_w dwm_358 8 rfl) (dq_p (n := 9) rfl rfl)
theorem dX6_trade_41 : decode cX6_trade 41 = .ok (.aload_n 0, 1) := dq_42 (dq_w dwm_358 9 rfl)
theorem dX6_trade_42 : decode cX6_trade 42 = .ok (.iload_n 3, 1) := dq_29 (dq_w dwm_358 10 rfl)
theorem dX6_trade_43 : decode cX6_trade 43 = .ok (.invokevirtual 143, 3) := dq_182 (dq_w dwm_358 11 rfl) (dq_w dwm_358 12 rfl) (dq_w dwm_358 13 rfl) rfl
theorem dX6_trade_46 : decode cX6_trade 46 = .ok (.ireturn, 1) := dq_172 (dq_w dwm_358 14 rfl)
theorem dX6_trade_47 : decode cX6_trade 47 = .ok (.bipush (-9), 2) := dq_16 (dq_w dwm_358 15 rfl) (dq_w dwm_359 0 rfl) rfl
theorem dX6_trade_49 : decode cX6_trade 49 = .ok (.istore 4, 2) := dq_54 (dq_w dwm_359 1 rfl) (dq_w dwm_359 2 rfl) rfl
theorem dX6_trade_51 : decode cX6_trade 51 = .ok (.aload_n 0, 1) := dq_42 (dq_w dwm_359 3 rfl)
theorem dX6_trade_52 : decode cX6_trade 52 = .ok (.invokevirtual 272, 3) := dq_182 (dq_w dwm_359 4 rfl) (dq_w dwm_359 5 rfl) (dq_w dwm_359 6 rfl) rfl
theorem dX6_trade_55 : decode cX6_trade 55 = .ok (.istore 5, 2) := dq_54 (dq_w dwm_359 7 rfl) (dq_w dwm_359 8 rfl) rfl
theorem dX6_trade_57 : decode cX6_trade 57 = .ok (.aload_n 0, 1) := dq_42 (dq_w dwm_359 9 rfl)
theorem dX6_trade_58 : decode cX6_trade 58 = .ok (.invokevirtual 196, 3) := dq_182 (dq_w dwm_359 10 rfl) (dq_w dwm_359 11 rfl) (dq_w dwm_359 12 rfl) rfl
theorem dX6_trade_61 : decode cX6_trade 61 = .ok (.iconst 0, 1) := dq_3 (dq_w dwm_359 13 rfl)
theorem dX6_trade_62 : decode cX6_trade 62 = .ok (.istore 6, 2) := dq_54 (dq_w dwm_359 14 rfl) (dq_w dwm_359 15 rfl) rfl
theorem dX6_trade_64 : decode cX6_trade 64 = .ok (.iload 6, 2) := dq_21 (dq_w dwm_360 0 rfl) (dq_w dwm_360 1 rfl) rfl
theorem dX6_trade_66 : decode cX6_trade 66 = .ok (.aload_n 0, 1) := dq_42 (dq_w dwm_360 2 rfl)
theorem dX6_trade_67 : decode cX6_trade 67 = .ok (.getfield 92, 3) := dq_180 (dq_w dwm_360 3 rfl) (dq_w dwm_360 4 rfl) (dq_w dwm_360 5 rfl) rfl
theorem dX6_trade_70 : decode cX6_trade 70 = .ok (.if_icmp .ge 101, 3) := dq_162 (dq_w dwm_360 6 rfl) (dq_w dwm_360 7 rfl) (dq_w dwm_360 8 rfl) (dq_p (n := 101) rfl rfl)
theorem dX6_trade_73 : decode cX6_trade 73 = .ok (.aload_n 0, 1) := dq_42 (dq_w dwm_360 9 rfl)
theorem dX6_trade_74 : decode cX6_trade 74 = .ok (.getfield 31, 3) := dq_180 (dq_w dwm_360 10 rfl) (dq_w dwm_360 11 rfl) (dq_w dwm_360 12 rfl) rfl
theorem dX6_trade_77 : decode cX6_trade 77 = .ok (.bipush 7, 2) := dq_16 (dq_w dwm_360 13 rfl) (dq_w dwm_360 14 rfl) rfl
theorem dX6_trade_79 : decode cX6_trade 79 = .ok (.iload 6, 2) := dq_21 (dq_w dwm_360 15 rfl) (dq_w dwm_361 0 rfl) rfl
theorem dX6_trade_81 : decode cX6_trade 81 = .ok (.imul, 1) := dq_104 (dq_w dwm_361 1 rfl)
theorem dX6_trade_82 : decode cX6_trade 82 = .ok (.iload_n 2, 1) := dq_28 (dq_w dwm_361 2 rfl)
theorem dX6_trade_83 : decode cX6_trade 83 = .ok (.iadd, 1) := dq_96 (dq_w dwm_361 3 rfl)
theorem dX6_trade_84 : decode cX6_trade 84 = .ok (.iaload, 1) := dq_46 (dq_w dwm_361 4 rfl)
theorem dX6_trade_85 : decode cX6_trade 85 = .ok (.ifCond .ne 80, 3) := dq_154 (dq_w dwm_361 5 rfl) (dq_w dwm_361 6 rfl) (dq_w dwm_361 7 rfl) (dq_p (n := 80) rfl rfl)
theorem dX6_trade_88 : decode cX6_trade 88 = .ok (.aload_n 0, 1) := dq_42 (dq_w dwm_361 8 rfl)
theorem dX6_trade_89 : decode cX6_trade 89 = .ok (.getfield 31, 3) := dq_180 (dq_w dwm_361 9 rfl) (dq_w dwm_361 10 rfl) (dq_w dwm_361 11 rfl) rfl
theorem dX6_trade_92 : decode cX6_trade 92 = .ok (.bipush 7, 2) := dq_16 (dq_w dwm_361 12 rfl) (dq_w dwm_361 13 rfl) rfl
theorem dX6_trade_94 : decode cX6_trade 94 = .ok (.iload 6, 2) := dq_21 (dq_w dwm_361 14 rfl) (dq_w dwm_361 15 rfl) rfl
theorem dX6_trade_96 : decode cX6_trade 96 = .ok (.imul, 1) := dq_104 (dq_w dwm_362 0 rfl)
theorem dX6_trade_97 : decode cX6_trade 97 = .ok (.iload_n 2, 1) := dq_28 (dq_w dwm_362 1 rfl)
theorem dX6_trade_98 : decode cX6_trade 98 = .ok (.iadd, 1) := dq_96 (dq_w dwm_362 2 rfl)
theorem dX6_trade_99 : decode cX6_trade 99 = .ok (.aload_n 0, 1) := dq_42 (dq_w dwm_362 3 rfl)
theorem dX6_trade_100 : decode cX6_trade 100 = .ok (.getfield 31, 3) := dq_180 (dq_w dwm_362 4 rfl) (dq_w dwm_362 5 rfl) (dq_w dwm_362 6 rfl) rfl
theorem dX6_trade_103 : decode cX6_trade 103 = .ok (.bipush 7, 2) := dq_16 (dq_w dwm_362 7 rfl) (dq_w dwm_362 8 rfl) rfl
theorem dX6_trade_105 : decode cX6_trade 105 = .ok (.iload_n 1, 1) := dq_27 (dq_w dwm_362 9 rfl)
theorem dX6_trade_106 : decode cX6_trade 106 = .ok (.imul, 1) := dq_104 (dq_w dwm_362 10 rfl)
theorem dX6_trade_107 : decode cX6_trade 107 = .ok (.iload_n 2, 1) := dq_28 (dq_w dwm_362 11 rfl)
theorem dX6_trade_108 : decode cX6_trade 108 = .ok (.iadd, 1) := dq_96 (dq_w dwm_362 12 rfl)
theorem dX6_trade_109 : decode cX6_trade 109 = .ok (.iaload, 1) := dq_46 (dq_w dwm_362 13 rfl)
theorem dX6_trade_110 : decode cX6_trade 110 = .ok (.iastore, 1) := dq_79 (dq_w dwm_362 14 rfl)
theorem dX6_trade_111 : decode cX6_trade 111 = .ok (.aload_n 0, 1) := dq_42 (dq_w dwm_362 15 rfl)
theorem dX6_trade_112 : decode cX6_trade 112 = .ok (.getfield 31, 3) := dq_180 (dq_w dwm_363 0 rfl) (dq_w dwm_363 1 rfl) (dq_w dwm_363 2 rfl) rfl
theorem dX6_trade_115 : decode cX6_trade 115 = .ok (.bipush 7, 2) := dq_16 (dq_w dwm_363 3 rfl) (dq_w dwm_363 4 rfl) rfl
theorem dX6_trade_117 : decode cX6_trade 117 = .ok (.iload_n 1, 1) := dq_27 (dq_w dwm_363 5 rfl)
theorem dX6_trade_118 : decode cX6_trade 118 = .ok (.imul, 1) := dq_104 (dq_w dwm_363 6 rfl)
theorem dX6_trade_119 : decode cX6_trade 119 = .ok (.iload_n 2, 1) := dq_28 (dq_w dwm_363 7 rfl)
theorem dX6_trade_120 : decode cX6_trade 120 = .ok (.iadd, 1) := dq_96 (dq_w dwm_363 8 rfl)
theorem dX6_trade_121 : decode cX6_trade 121 = .ok (.iconst 0, 1) := dq_3 (dq_w dwm_363 9 rfl)
theorem dX6_trade_122 : decode cX6_trade 122 = .ok (.iastore, 1) := dq_79 (dq_w dwm_363 10 rfl)
theorem dX6_trade_123 : decode cX6_trade 123 = .ok (.aload_n 0, 1) := dq_42 (dq_w dwm_363 11 rfl)
theorem dX6_trade_124 : decode cX6_trade 124 = .ok (.invokevirtual 272, 3) := dq_182 (dq_w dwm_363 12 rfl) (dq_w dwm_363 13 rfl) (dq_w dwm_363 14 rfl) rfl
theorem dX6_trade_127 : decode cX6_trade 127 = .ok (.istore 7, 2) := dq_54 (dq_w dwm_363 15 rfl) (dq_w dwm_364 0 rfl) rfl
theorem dX6_trade_129 : decode cX6_trade 129 = .ok (.aload_n 0, 1) := dq_42 (dq_w dwm_364 1 rfl)
theorem dX6_trade_130 : decode cX6_trade 130 = .ok (.invokevirtual 202, 3) := dq_182 (dq_w dwm_364 2 rfl) (dq_w dwm_364 3 rfl) (dq_w dwm_364 4 rfl) rfl
theorem dX6_trade_133 : decode cX6_trade 133 = .ok (.iload 7, 2) := dq_21 (dq_w dwm_364 5 rfl) (dq_w dwm_364 6 rfl) rfl
theorem dX6_trade_135 : decode cX6_trade 135 = .ok (.iload 5, 2) := dq_21 (dq_w dwm_364 7 rfl) (dq_w dwm_364 8 rfl) rfl
theorem dX6_trade_137 : decode cX6_trade 137 = .ok (.if_icmp .ge 8, 3) := dq_162 (dq_w dwm_364 9 rfl) (dq_w dwm_364 10 rfl) (dq_w dwm_364 11 rfl) (dq_p (n := 8) rfl rfl)
theorem dX6_trade_140 : decode cX6_trade 140 = .ok (.iload 6, 2) := dq_21 (dq_w dwm_364 12 rfl) (dq_w dwm_364 13 rfl) rfl
theorem dX6_trade_142 : decode cX6_trade 142 = .ok (.goto 5, 3) := dq_167 (dq_w dwm_364 14 rfl) (dq_w dwm_364 15 rfl) (dq_w dwm_365 0 rfl) (dq_p (n := 5) rfl rfl)
theorem dX6_trade_145 : decode cX6_trade 145 = .ok (.iload 4, 2) := dq_21 (dq_w dwm_365 1 rfl) (dq_w dwm_365 2 rfl) rfl
theorem dX6_trade_147 : decode cX6_trade 147 = .ok (.istore 4, 2) := dq_54 (dq_w dwm_365 3 rfl) (dq_w dwm_365 4 rfl) rfl
theorem dX6_trade_149 : decode cX6_trade 149 = .ok (.iload 7, 2) := dq_21 (dq_w dwm_365 5 rfl) (dq_w dwm_365 6 rfl) rfl
theorem dX6_trade_151 : decode cX6_trade 151 = .ok (.iload 5, 2) := dq_21 (dq_w dwm_365 7 rfl) (dq_w dwm_365 8 rfl) rfl
theorem dX6_trade_153 : decode cX6_trade 153 = .ok (.if_icmp .ge 8, 3) := dq_162 (dq_w dwm_365 9 rfl) (dq_w dwm_365 10 rfl) (dq_w dwm_365 11 rfl) (dq_p (n := 8) rfl rfl)
theorem dX6_trade_156 : decode cX6_trade 156 = .ok (.iload 7, 2) := dq_21 (dq_w dwm_365 12 rfl) (dq_w dwm_365 13 rfl) rfl
theorem dX6_trade_158 : decode cX6_trade 158 = .ok (.goto 5, 3) := dq_167 (dq_w dwm_365 14 rfl) (dq_w dwm_365 15 rfl) (dq_w dwm_366 0 rfl) (dq_p (n := 5) rfl rfl)
theorem dX6_trade_161 : decode cX6_trade 161 = .ok (.iload 5, 2) := dq_21 (dq_w dwm_366 1 rfl) (dq_w dwm_366 2 rfl) rfl
theorem dX6_trade_163 : decode cX6_trade 163 = .ok (.istore 5, 2) := dq_54 (dq_w dwm_366 3 rfl) (dq_w dwm_366 4 rfl) rfl
theorem dX6_trade_165 : decode cX6_trade 165 = .ok (.iinc 6 1, 3) := dq_132 (dq_w dwm_366 5 rfl) (dq_w dwm_366 6 rfl) rfl (dq_w dwm_366 7 rfl) rfl
theorem dX6_trade_168 : decode cX6_trade 168 = .ok (.goto (-104), 3) := dq_167 (dq_w dwm_366 8 rfl) (dq_w dwm_366 9 rfl) (dq_w dwm_366 10 rfl) (dq_n (m := 104) rfl rfl)
theorem dX6_trade_171 : decode cX6_trade 171 = .ok (.iload 4, 2) := dq_21 (dq_w dwm_366 11 rfl) (dq_w dwm_366 12 rfl) rfl
theorem dX6_trade_173 : decode cX6_trade 173 = .ok (.ireturn, 1) := dq_172 (dq_w dwm_366 13 rfl)
theorem dwm_367 : (cX6_whoWent.data.toList.drop 0).take 16 = [42, 3, 181, 0, 79, 42, 27, 182, 0, 181, 154, 0, 9, 42, 2, 182] := by decide +kernel
theorem dwm_368 : (cX6_whoWent.data.toList.drop 16).take 16 = [0, 143, 172, 3, 61, 3, 62, 29, 42, 180, 0, 92, 162, 0, 48, 28] := by decide +kernel
theorem dwm_369 : (cX6_whoWent.data.toList.drop 32).take 16 = [42, 180, 0, 31, 16, 7, 29, 104, 27, 96, 46, 158, 0, 24, 42, 180] := by decide +kernel
theorem dwm_370 : (cX6_whoWent.data.toList.drop 48).take 16 = [0, 22, 29, 46, 42, 180, 0, 16, 27, 46, 160, 0, 9, 4, 29, 120] := by decide +kernel
theorem dwm_371 : (cX6_whoWent.data.toList.drop 64).take 16 = [167, 0, 4, 3, 128, 61, 132, 3, 1, 167, 255, 206, 28, 172] := by decide +kernel
theorem dX6_whoWent_0 : decode cX6_whoWent 0 = .ok (.aload_n 0, 1) := dq_42 (dq_w dwm_367 0 rfl)
theorem dX6_whoWent_1 : decode cX6_whoWent 1 = .ok (.iconst 0, 1) := dq_3 (dq_w dwm_367 1 rfl)
theorem dX6_whoWent_2 : decode cX6_whoWent 2 = .ok (.putfield 79, 3) := dq_181 (dq_w dwm_367 2 rfl) (dq_w dwm_367 3 rfl) (dq_w dwm_367 4 rfl) rfl
theorem dX6_whoWent_5 : decode cX6_whoWent 5 = .ok (.aload_n 0, 1) := dq_42 (dq_w dwm_367 5 rfl)
theorem dX6_whoWent_6 : decode cX6_whoWent 6 = .ok (.iload_n 1, 1) := dq_27 (dq_w dwm_367 6 rfl)
theorem dX6_whoWent_7 : decode cX6_whoWent 7 = .ok (.invokevirtual 181, 3) := dq_182 (dq_w dwm_367 7 rfl) (dq_w dwm_367 8 rfl) (dq_w dwm_367 9 rfl) rfl
theorem dX6_whoWent_10 : decode cX6_whoWent 10 = .ok (.ifCond .ne 9, 3) := dq_154 (dq_w dwm_367 10 rfl) (dq_w dwm_367 11 rfl) (dq_w dwm_367 12 rfl) (dq_p (n := 9) rfl rfl)
theorem dX6_whoWent_13 : decode cX6_whoWent 13 = .ok (.aload_n 0, 1) := dq_42 (dq_w dwm_367 13 rfl)
theorem dX6_whoWent_14 : decode cX6_whoWent 14 = .ok (.iconst (-1), 1) := dq_2 (dq_w dwm_367 14 rfl)
theorem dX6_whoWent_15 : decode cX6_whoWent 15 = .ok (.invokevirtual 143, 3) := dq_182 (dq_w dwm_367 15 rfl) (dq_w dwm_368 0 rfl) (dq_w dwm_368 1 rfl) rfl
theorem dX6_whoWent_18 : decode cX6_whoWent 18 = .ok (.ireturn, 1) := dq_172 (dq_w dwm_368 2 rfl)
theorem dX6_whoWent_19 : decode cX6_whoWent 19 = .ok (.iconst 0, 1) := dq_3 (dq_w dwm_368 3 rfl)
theorem dX6_whoWent_20 : decode cX6_whoWent 20 = .ok (.istore_n 2, 1) := dq_61 (dq_w dwm_368 4 rfl)
theorem dX6_whoWent_21 : decode cX6_whoWent 21 = .ok (.iconst 0, 1) := dq_3 (dq_w dwm_368 5 rfl)
theorem dX6_whoWent_22 : decode cX6_whoWent 22 = .ok (.istore_n 3, 1) := dq_62 (dq_w dwm_368 6 rfl)
theorem dX6_whoWent_23 : decode cX6_whoWent 23 = .ok (.iload_n 3, 1) := dq_29 (dq_w dwm_368 7 rfl)
theorem dX6_whoWent_24 : decode cX6_whoWent 24 = .ok (.aload_n 0, 1) := dq_42 (dq_w dwm_368 8 rfl)
theorem dX6_whoWent_25 : decode cX6_whoWent 25 = .ok (.getfield 92, 3) := dq_180 (dq_w dwm_368 9 rfl) (dq_w dwm_368 10 rfl) (dq_w dwm_368 11 rfl) rfl
theorem dX6_whoWent_28 : decode cX6_whoWent 28 = .ok (.if_icmp .ge 48, 3) := dq_162 (dq_w dwm_368 12 rfl) (dq_w dwm_368 13 rfl) (dq_w dwm_368 14 rfl) (dq_p (n := 48) rfl rfl)
theorem dX6_whoWent_31 : decode cX6_whoWent 31 = .ok (.iload_n 2, 1) := dq_28 (dq_w dwm_368 15 rfl)
theorem dX6_whoWent_32 : decode cX6_whoWent 32 = .ok (.aload_n 0, 1) := dq_42 (dq_w dwm_369 0 rfl)
theorem dX6_whoWent_33 : decode cX6_whoWent 33 = .ok (.getfield 31, 3) := dq_180 (dq_w dwm_369 1 rfl) (dq_w dwm_369 2 rfl) (dq_w dwm_369 3 rfl) rfl
theorem dX6_whoWent_36 : decode cX6_whoWent 36 = .ok (.bipush 7, 2) := dq_16 (dq_w dwm_369 4 rfl) (dq_w dwm_369 5 rfl) rfl
theorem dX6_whoWent_38 : decode cX6_whoWent 38 = .ok (.iload_n 3, 1) := dq_29 (dq_w dwm_369 6 rfl)
theorem dX6_whoWent_39 : decode cX6_whoWent 39 = .ok (.imul, 1) := dq_104 (dq_w dwm_369 7 rfl)
theorem dX6_whoWent_40 : decode cX6_whoWent 40 = .ok (.iload_n 1, 1) := dq_27 (dq_w dwm_369 8 rfl)
theorem dX6_whoWent_41 : decode cX6_whoWent 41 = .ok (.iadd, 1) := dq_96 (dq_w dwm_369 9 rfl)
theorem dX6_whoWent_42 : decode cX6_whoWent 42 = .ok (.iaload, 1) := dq_46 (dq_w dwm_369 10 rfl)
theorem dX6_whoWent_43 : decode cX6_whoWent 43 = .ok (.ifCond .le 24, 3) := dq_158 (dq_w dwm_369 11 rfl) (dq_w dwm_369 12 rfl) (dq_w dwm_369 13 rfl) (dq_p (n := 24) rfl rfl)
theorem dX6_whoWent_46 : decode cX6_whoWent 46 = .ok (.aload_n 0, 1) := dq_42 (dq_w dwm_369 14 rfl)
theorem dX6_whoWent_47 : decode cX6_whoWent 47 = .ok (.getfield 22, 3) := dq_180 (dq_w dwm_369 15 rfl) (dq_w dwm_370 0 rfl) (dq_w dwm_370 1 rfl) rfl
theorem dX6_whoWent_50 : decode cX6_whoWent 50 = .ok (.iload_n 3, 1) := dq_29 (dq_w dwm_370 2 rfl)
theorem dX6_whoWent_51 : decode cX6_whoWent 51 = .ok (.iaload, 1) := dq_46 (dq_w dwm_370 3 rfl)
theorem dX6_whoWent_52 : decode cX6_whoWent 52 = .ok (.aload_n 0, 1) := dq_42 (dq_w dwm_370 4 rfl)
theorem dX6_whoWent_53 : decode cX6_whoWent 53 = .ok (.getfield 16, 3) := dq_180 (dq_w dwm_370 5 rfl) (dq_w dwm_370 6 rfl) (dq_w dwm_370 7 rfl) rfl
theorem dX6_whoWent_56 : decode cX6_whoWent 56 = .ok (.iload_n 1, 1) := dq_27 (dq_w dwm_370 8 rfl)
theorem dX6_whoWent_57 : decode cX6_whoWent 57 = .ok (.iaload, 1) := dq_46 (dq_w dwm_370 9 rfl)
theorem dX6_whoWent_58 : decode cX6_whoWent 58 = .ok (.if_icmp .ne 9, 3) := dq_160 (dq_w dwm_370 10 rfl) (dq_w dwm_370 11 rfl) (dq_w dwm_370 12 rfl) (dq_p (n := 9) rfl rfl)
theorem dX6_whoWent_61 : decode cX6_whoWent 61 = .ok (.iconst 1, 1) := dq_4 (dq_w dwm_370 13 rfl)
theorem dX6_whoWent_62 : decode cX6_whoWent 62 = .ok (.iload_n 3, 1) := dq_29 (dq_w dwm_370 14 rfl)
theorem dX6_whoWent_63 : decode cX6_whoWent 63 = .ok (.ishl, 1) := dq_120 (dq_w dwm_370 15 rfl)
theorem dX6_whoWent_64 : decode cX6_whoWent 64 = .ok (.goto 4, 3) := dq_167 (dq_w dwm_371 0 rfl) (dq_w dwm_371 1 rfl) (dq_w dwm_371 2 rfl) (dq_p (n := 4) rfl rfl)
theorem dX6_whoWent_67 : decode cX6_whoWent 67 = .ok (.iconst 0, 1) := dq_3 (dq_w dwm_371 3 rfl)
theorem dX6_whoWent_68 : decode cX6_whoWent 68 = .ok (.ior, 1) := dq_128 (dq_w dwm_371 4 rfl)
theorem dX6_whoWent_69 : decode cX6_whoWent 69 = .ok (.istore_n 2, 1) := dq_61 (dq_w dwm_371 5 rfl)
theorem dX6_whoWent_70 : decode cX6_whoWent 70 = .ok (.iinc 3 1, 3) := dq_132 (dq_w dwm_371 6 rfl) (dq_w dwm_371 7 rfl) rfl (dq_w dwm_371 8 rfl) rfl
theorem dX6_whoWent_73 : decode cX6_whoWent 73 = .ok (.goto (-50), 3) := dq_167 (dq_w dwm_371 9 rfl) (dq_w dwm_371 10 rfl) (dq_w dwm_371 11 rfl) (dq_n (m := 50) rfl rfl)
theorem dX6_whoWent_76 : decode cX6_whoWent 76 = .ok (.iload_n 2, 1) := dq_28 (dq_w dwm_371 12 rfl)
theorem dX6_whoWent_77 : decode cX6_whoWent 77 = .ok (.ireturn, 1) := dq_172 (dq_w dwm_371 13 rfl)
theorem dwm_372 : (cX6_spread.data.toList.drop 0).take 16 = [42, 3, 181, 0, 79, 27, 133, 9, 10, 184, 0, 85, 154, 0, 10, 42] := by decide +kernel
theorem dwm_373 : (cX6_spread.data.toList.drop 16).take 16 = [16, 254, 182, 0, 143, 172, 3, 61, 3, 62, 29, 42, 180, 0, 92, 162] := by decide +kernel
theorem dwm_374 : (cX6_spread.data.toList.drop 32).take 16 = [0, 31, 27, 154, 0, 27, 28, 42, 29, 182, 0, 116, 154, 0, 9, 4] := by decide +kernel
theorem dwm_375 : (cX6_spread.data.toList.drop 48).take 16 = [29, 120, 167, 0, 4, 3, 128, 61, 132, 3, 1, 167, 255, 223, 3, 62] := by decide +kernel
theorem dwm_376 : (cX6_spread.data.toList.drop 64).take 16 = [29, 42, 180, 0, 89, 162, 0, 36, 27, 4, 160, 0, 31, 28, 42, 29] := by decide +kernel
theorem dwm_377 : (cX6_spread.data.toList.drop 80).take 16 = [182, 0, 229, 184, 0, 119, 4, 160, 0, 9, 4, 29, 120, 167, 0, 4] := by decide +kernel
theorem dwm_378 : (cX6_spread.data.toList.drop 96).take 16 = [3, 128, 61, 132, 3, 1, 167, 255, 218, 28, 172] := by decide +kernel
theorem dX6_spread_0 : decode cX6_spread 0 = .ok (.aload_n 0, 1) := dq_42 (dq_w dwm_372 0 rfl)
theorem dX6_spread_1 : decode cX6_spread 1 = .ok (.iconst 0, 1) := dq_3 (dq_w dwm_372 1 rfl)
theorem dX6_spread_2 : decode cX6_spread 2 = .ok (.putfield 79, 3) := dq_181 (dq_w dwm_372 2 rfl) (dq_w dwm_372 3 rfl) (dq_w dwm_372 4 rfl) rfl
theorem dX6_spread_5 : decode cX6_spread 5 = .ok (.iload_n 1, 1) := dq_27 (dq_w dwm_372 5 rfl)
theorem dX6_spread_6 : decode cX6_spread 6 = .ok (.i2l, 1) := dq_133 (dq_w dwm_372 6 rfl)
theorem dX6_spread_7 : decode cX6_spread 7 = .ok (.lconst 0, 1) := dq_9 (dq_w dwm_372 7 rfl)
theorem dX6_spread_8 : decode cX6_spread 8 = .ok (.lconst 1, 1) := dq_10 (dq_w dwm_372 8 rfl)
theorem dX6_spread_9 : decode cX6_spread 9 = .ok (.invokestatic 85, 3) := dq_184 (dq_w dwm_372 9 rfl) (dq_w dwm_372 10 rfl) (dq_w dwm_372 11 rfl) rfl
theorem dX6_spread_12 : decode cX6_spread 12 = .ok (.ifCond .ne 10, 3) := dq_154 (dq_w dwm_372 12 rfl) (dq_w dwm_372 13 rfl) (dq_w dwm_372 14 rfl) (dq_p (n := 10) rfl rfl)
theorem dX6_spread_15 : decode cX6_spread 15 = .ok (.aload_n 0, 1) := dq_42 (dq_w dwm_372 15 rfl)
theorem dX6_spread_16 : decode cX6_spread 16 = .ok (.bipush (-2), 2) := dq_16 (dq_w dwm_373 0 rfl) (dq_w dwm_373 1 rfl) rfl
theorem dX6_spread_18 : decode cX6_spread 18 = .ok (.invokevirtual 143, 3) := dq_182 (dq_w dwm_373 2 rfl) (dq_w dwm_373 3 rfl) (dq_w dwm_373 4 rfl) rfl
theorem dX6_spread_21 : decode cX6_spread 21 = .ok (.ireturn, 1) := dq_172 (dq_w dwm_373 5 rfl)
theorem dX6_spread_22 : decode cX6_spread 22 = .ok (.iconst 0, 1) := dq_3 (dq_w dwm_373 6 rfl)
theorem dX6_spread_23 : decode cX6_spread 23 = .ok (.istore_n 2, 1) := dq_61 (dq_w dwm_373 7 rfl)
theorem dX6_spread_24 : decode cX6_spread 24 = .ok (.iconst 0, 1) := dq_3 (dq_w dwm_373 8 rfl)
theorem dX6_spread_25 : decode cX6_spread 25 = .ok (.istore_n 3, 1) := dq_62 (dq_w dwm_373 9 rfl)
theorem dX6_spread_26 : decode cX6_spread 26 = .ok (.iload_n 3, 1) := dq_29 (dq_w dwm_373 10 rfl)
theorem dX6_spread_27 : decode cX6_spread 27 = .ok (.aload_n 0, 1) := dq_42 (dq_w dwm_373 11 rfl)
theorem dX6_spread_28 : decode cX6_spread 28 = .ok (.getfield 92, 3) := dq_180 (dq_w dwm_373 12 rfl) (dq_w dwm_373 13 rfl) (dq_w dwm_373 14 rfl) rfl
theorem dX6_spread_31 : decode cX6_spread 31 = .ok (.if_icmp .ge 31, 3) := dq_162 (dq_w dwm_373 15 rfl) (dq_w dwm_374 0 rfl) (dq_w dwm_374 1 rfl) (dq_p (n := 31) rfl rfl)
theorem dX6_spread_34 : decode cX6_spread 34 = .ok (.iload_n 1, 1) := dq_27 (dq_w dwm_374 2 rfl)
theorem dX6_spread_35 : decode cX6_spread 35 = .ok (.ifCond .ne 27, 3) := dq_154 (dq_w dwm_374 3 rfl) (dq_w dwm_374 4 rfl) (dq_w dwm_374 5 rfl) (dq_p (n := 27) rfl rfl)
theorem dX6_spread_38 : decode cX6_spread 38 = .ok (.iload_n 2, 1) := dq_28 (dq_w dwm_374 6 rfl)
theorem dX6_spread_39 : decode cX6_spread 39 = .ok (.aload_n 0, 1) := dq_42 (dq_w dwm_374 7 rfl)
theorem dX6_spread_40 : decode cX6_spread 40 = .ok (.iload_n 3, 1) := dq_29 (dq_w dwm_374 8 rfl)
theorem dX6_spread_41 : decode cX6_spread 41 = .ok (.invokevirtual 116, 3) := dq_182 (dq_w dwm_374 9 rfl) (dq_w dwm_374 10 rfl) (dq_w dwm_374 11 rfl) rfl
theorem dX6_spread_44 : decode cX6_spread 44 = .ok (.ifCond .ne 9, 3) := dq_154 (dq_w dwm_374 12 rfl) (dq_w dwm_374 13 rfl) (dq_w dwm_374 14 rfl) (dq_p (n := 9) rfl rfl)
theorem dX6_spread_47 : decode cX6_spread 47 = .ok (.iconst 1, 1) := dq_4 (dq_w dwm_374 15 rfl)
theorem dX6_spread_48 : decode cX6_spread 48 = .ok (.iload_n 3, 1) := dq_29 (dq_w dwm_375 0 rfl)
theorem dX6_spread_49 : decode cX6_spread 49 = .ok (.ishl, 1) := dq_120 (dq_w dwm_375 1 rfl)
theorem dX6_spread_50 : decode cX6_spread 50 = .ok (.goto 4, 3) := dq_167 (dq_w dwm_375 2 rfl) (dq_w dwm_375 3 rfl) (dq_w dwm_375 4 rfl) (dq_p (n := 4) rfl rfl)
theorem dX6_spread_53 : decode cX6_spread 53 = .ok (.iconst 0, 1) := dq_3 (dq_w dwm_375 5 rfl)
theorem dX6_spread_54 : decode cX6_spread 54 = .ok (.ior, 1) := dq_128 (dq_w dwm_375 6 rfl)
theorem dX6_spread_55 : decode cX6_spread 55 = .ok (.istore_n 2, 1) := dq_61 (dq_w dwm_375 7 rfl)
theorem dX6_spread_56 : decode cX6_spread 56 = .ok (.iinc 3 1, 3) := dq_132 (dq_w dwm_375 8 rfl) (dq_w dwm_375 9 rfl) rfl (dq_w dwm_375 10 rfl) rfl
theorem dX6_spread_59 : decode cX6_spread 59 = .ok (.goto (-33), 3) := dq_167 (dq_w dwm_375 11 rfl) (dq_w dwm_375 12 rfl) (dq_w dwm_375 13 rfl) (dq_n (m := 33) rfl rfl)
theorem dX6_spread_62 : decode cX6_spread 62 = .ok (.iconst 0, 1) := dq_3 (dq_w dwm_375 14 rfl)
theorem dX6_spread_63 : decode cX6_spread 63 = .ok (.istore_n 3, 1) := dq_62 (dq_w dwm_375 15 rfl)
theorem dX6_spread_64 : decode cX6_spread 64 = .ok (.iload_n 3, 1) := dq_29 (dq_w dwm_376 0 rfl)
theorem dX6_spread_65 : decode cX6_spread 65 = .ok (.aload_n 0, 1) := dq_42 (dq_w dwm_376 1 rfl)
theorem dX6_spread_66 : decode cX6_spread 66 = .ok (.getfield 89, 3) := dq_180 (dq_w dwm_376 2 rfl) (dq_w dwm_376 3 rfl) (dq_w dwm_376 4 rfl) rfl
theorem dX6_spread_69 : decode cX6_spread 69 = .ok (.if_icmp .ge 36, 3) := dq_162 (dq_w dwm_376 5 rfl) (dq_w dwm_376 6 rfl) (dq_w dwm_376 7 rfl) (dq_p (n := 36) rfl rfl)
theorem dX6_spread_72 : decode cX6_spread 72 = .ok (.iload_n 1, 1) := dq_27 (dq_w dwm_376 8 rfl)
theorem dX6_spread_73 : decode cX6_spread 73 = .ok (.iconst 1, 1) := dq_4 (dq_w dwm_376 9 rfl)
theorem dX6_spread_74 : decode cX6_spread 74 = .ok (.if_icmp .ne 31, 3) := dq_160 (dq_w dwm_376 10 rfl) (dq_w dwm_376 11 rfl) (dq_w dwm_376 12 rfl) (dq_p (n := 31) rfl rfl)
theorem dX6_spread_77 : decode cX6_spread 77 = .ok (.iload_n 2, 1) := dq_28 (dq_w dwm_376 13 rfl)
theorem dX6_spread_78 : decode cX6_spread 78 = .ok (.aload_n 0, 1) := dq_42 (dq_w dwm_376 14 rfl)
theorem dX6_spread_79 : decode cX6_spread 79 = .ok (.iload_n 3, 1) := dq_29 (dq_w dwm_376 15 rfl)
theorem dX6_spread_80 : decode cX6_spread 80 = .ok (.invokevirtual 229, 3) := dq_182 (dq_w dwm_377 0 rfl) (dq_w dwm_377 1 rfl) (dq_w dwm_377 2 rfl) rfl
theorem dX6_spread_83 : decode cX6_spread 83 = .ok (.invokestatic 119, 3) := dq_184 (dq_w dwm_377 3 rfl) (dq_w dwm_377 4 rfl) (dq_w dwm_377 5 rfl) rfl
theorem dX6_spread_86 : decode cX6_spread 86 = .ok (.iconst 1, 1) := dq_4 (dq_w dwm_377 6 rfl)
theorem dX6_spread_87 : decode cX6_spread 87 = .ok (.if_icmp .ne 9, 3) := dq_160 (dq_w dwm_377 7 rfl) (dq_w dwm_377 8 rfl) (dq_w dwm_377 9 rfl) (dq_p (n := 9) rfl rfl)
theorem dX6_spread_90 : decode cX6_spread 90 = .ok (.iconst 1, 1) := dq_4 (dq_w dwm_377 10 rfl)
theorem dX6_spread_91 : decode cX6_spread 91 = .ok (.iload_n 3, 1) := dq_29 (dq_w dwm_377 11 rfl)
theorem dX6_spread_92 : decode cX6_spread 92 = .ok (.ishl, 1) := dq_120 (dq_w dwm_377 12 rfl)
theorem dX6_spread_93 : decode cX6_spread 93 = .ok (.goto 4, 3) := dq_167 (dq_w dwm_377 13 rfl) (dq_w dwm_377 14 rfl) (dq_w dwm_377 15 rfl) (dq_p (n := 4) rfl rfl)
theorem dX6_spread_96 : decode cX6_spread 96 = .ok (.iconst 0, 1) := dq_3 (dq_w dwm_378 0 rfl)
theorem dX6_spread_97 : decode cX6_spread 97 = .ok (.ior, 1) := dq_128 (dq_w dwm_378 1 rfl)
theorem dX6_spread_98 : decode cX6_spread 98 = .ok (.istore_n 2, 1) := dq_61 (dq_w dwm_378 2 rfl)
theorem dX6_spread_99 : decode cX6_spread 99 = .ok (.iinc 3 1, 3) := dq_132 (dq_w dwm_378 3 rfl) (dq_w dwm_378 4 rfl) rfl (dq_w dwm_378 5 rfl) rfl
theorem dX6_spread_102 : decode cX6_spread 102 = .ok (.goto (-38), 3) := dq_167 (dq_w dwm_378 6 rfl) (dq_w dwm_378 7 rfl) (dq_w dwm_378 8 rfl) (dq_n (m := 38) rfl rfl)
theorem dX6_spread_105 : decode cX6_spread 105 = .ok (.iload_n 2, 1) := dq_28 (dq_w dwm_378 9 rfl)
theorem dX6_spread_106 : decode cX6_spread 106 = .ok (.ireturn, 1) := dq_172 (dq_w dwm_378 10 rfl)
theorem dwm_379 : (cX6_isRow.data.toList.drop 0).take 16 = [4, 62, 3, 54, 4, 21, 4, 42, 180, 1, 19, 162, 0, 61, 29, 153] := by decide +kernel
theorem dwm_380 : (cX6_isRow.data.toList.drop 16).take 16 = [0, 57, 42, 180, 0, 31, 16, 7, 27, 104, 28, 96, 46, 54, 5, 42] := by decide +kernel
theorem dwm_381 : (cX6_isRow.data.toList.drop 32).take 16 = [180, 0, 73, 21, 4, 46, 21, 5, 154, 0, 8, 16, 99, 167, 0, 7] := by decide +kernel
theorem dwm_382 : (cX6_isRow.data.toList.drop 48).take 16 = [21, 5, 4, 100, 160, 0, 7, 4, 167, 0, 4, 3, 62, 42, 3, 182] := by decide +kernel
theorem dwm_383 : (cX6_isRow.data.toList.drop 64).take 16 = [0, 135, 132, 4, 1, 167, 255, 192, 42, 182, 0, 202, 29, 172] := by decide +kernel
theorem dX6_isRow_0 : decode cX6_isRow 0 = .ok (.iconst 1, 1) := dq_4 (dq_w dwm_379 0 rfl)
theorem dX6_isRow_1 : decode cX6_isRow 1 = .ok (.istore_n 3, 1) := dq_62 (dq_w dwm_379 1 rfl)
theorem dX6_isRow_2 : decode cX6_isRow 2 = .ok (.iconst 0, 1) := dq_3 (dq_w dwm_379 2 rfl)
theorem dX6_isRow_3 : decode cX6_isRow 3 = .ok (.istore 4, 2) := dq_54 (dq_w dwm_379 3 rfl) (dq_w dwm_379 4 rfl) rfl
theorem dX6_isRow_5 : decode cX6_isRow 5 = .ok (.iload 4, 2) := dq_21 (dq_w dwm_379 5 rfl) (dq_w dwm_379 6 rfl) rfl
theorem dX6_isRow_7 : decode cX6_isRow 7 = .ok (.aload_n 0, 1) := dq_42 (dq_w dwm_379 7 rfl)
theorem dX6_isRow_8 : decode cX6_isRow 8 = .ok (.getfield 275, 3) := dq_180 (dq_w dwm_379 8 rfl) (dq_w dwm_379 9 rfl) (dq_w dwm_379 10 rfl) rfl
theorem dX6_isRow_11 : decode cX6_isRow 11 = .ok (.if_icmp .ge 61, 3) := dq_162 (dq_w dwm_379 11 rfl) (dq_w dwm_379 12 rfl) (dq_w dwm_379 13 rfl) (dq_p (n := 61) rfl rfl)
theorem dX6_isRow_14 : decode cX6_isRow 14 = .ok (.iload_n 3, 1) := dq_29 (dq_w dwm_379 14 rfl)
theorem dX6_isRow_15 : decode cX6_isRow 15 = .ok (.ifCond .eq 57, 3) := dq_153 (dq_w dwm_379 15 rfl) (dq_w dwm_380 0 rfl) (dq_w dwm_380 1 rfl) (dq_p (n := 57) rfl rfl)
theorem dX6_isRow_18 : decode cX6_isRow 18 = .ok (.aload_n 0, 1) := dq_42 (dq_w dwm_380 2 rfl)
theorem dX6_isRow_19 : decode cX6_isRow 19 = .ok (.getfield 31, 3) := dq_180 (dq_w dwm_380 3 rfl) (dq_w dwm_380 4 rfl) (dq_w dwm_380 5 rfl) rfl
theorem dX6_isRow_22 : decode cX6_isRow 22 = .ok (.bipush 7, 2) := dq_16 (dq_w dwm_380 6 rfl) (dq_w dwm_380 7 rfl) rfl
theorem dX6_isRow_24 : decode cX6_isRow 24 = .ok (.iload_n 1, 1) := dq_27 (dq_w dwm_380 8 rfl)
theorem dX6_isRow_25 : decode cX6_isRow 25 = .ok (.imul, 1) := dq_104 (dq_w dwm_380 9 rfl)
theorem dX6_isRow_26 : decode cX6_isRow 26 = .ok (.iload_n 2, 1) := dq_28 (dq_w dwm_380 10 rfl)
theorem dX6_isRow_27 : decode cX6_isRow 27 = .ok (.iadd, 1) := dq_96 (dq_w dwm_380 11 rfl)
theorem dX6_isRow_28 : decode cX6_isRow 28 = .ok (.iaload, 1) := dq_46 (dq_w dwm_380 12 rfl)
theorem dX6_isRow_29 : decode cX6_isRow 29 = .ok (.istore 5, 2) := dq_54 (dq_w dwm_380 13 rfl) (dq_w dwm_380 14 rfl) rfl
theorem dX6_isRow_31 : decode cX6_isRow 31 = .ok (.aload_n 0, 1) := dq_42 (dq_w dwm_380 15 rfl)
theorem dX6_isRow_32 : decode cX6_isRow 32 = .ok (.getfield 73, 3) := dq_180 (dq_w dwm_381 0 rfl) (dq_w dwm_381 1 rfl) (dq_w dwm_381 2 rfl) rfl
theorem dX6_isRow_35 : decode cX6_isRow 35 = .ok (.iload 4, 2) := dq_21 (dq_w dwm_381 3 rfl) (dq_w dwm_381 4 rfl) rfl
theorem dX6_isRow_37 : decode cX6_isRow 37 = .ok (.iaload, 1) := dq_46 (dq_w dwm_381 5 rfl)
theorem dX6_isRow_38 : decode cX6_isRow 38 = .ok (.iload 5, 2) := dq_21 (dq_w dwm_381 6 rfl) (dq_w dwm_381 7 rfl) rfl
theorem dX6_isRow_40 : decode cX6_isRow 40 = .ok (.ifCond .ne 8, 3) := dq_154 (dq_w dwm_381 8 rfl) (dq_w dwm_381 9 rfl) (dq_w dwm_381 10 rfl) (dq_p (n := 8) rfl rfl)
theorem dX6_isRow_43 : decode cX6_isRow 43 = .ok (.bipush 99, 2) := dq_16 (dq_w dwm_381 11 rfl) (dq_w dwm_381 12 rfl) rfl
theorem dX6_isRow_45 : decode cX6_isRow 45 = .ok (.goto 7, 3) := dq_167 (dq_w dwm_381 13 rfl) (dq_w dwm_381 14 rfl) (dq_w dwm_381 15 rfl) (dq_p (n := 7) rfl rfl)
theorem dX6_isRow_48 : decode cX6_isRow 48 = .ok (.iload 5, 2) := dq_21 (dq_w dwm_382 0 rfl) (dq_w dwm_382 1 rfl) rfl
theorem dX6_isRow_50 : decode cX6_isRow 50 = .ok (.iconst 1, 1) := dq_4 (dq_w dwm_382 2 rfl)
theorem dX6_isRow_51 : decode cX6_isRow 51 = .ok (.isub, 1) := dq_100 (dq_w dwm_382 3 rfl)
theorem dX6_isRow_52 : decode cX6_isRow 52 = .ok (.if_icmp .ne 7, 3) := dq_160 (dq_w dwm_382 4 rfl) (dq_w dwm_382 5 rfl) (dq_w dwm_382 6 rfl) (dq_p (n := 7) rfl rfl)
theorem dX6_isRow_55 : decode cX6_isRow 55 = .ok (.iconst 1, 1) := dq_4 (dq_w dwm_382 7 rfl)
theorem dX6_isRow_56 : decode cX6_isRow 56 = .ok (.goto 4, 3) := dq_167 (dq_w dwm_382 8 rfl) (dq_w dwm_382 9 rfl) (dq_w dwm_382 10 rfl) (dq_p (n := 4) rfl rfl)
theorem dX6_isRow_59 : decode cX6_isRow 59 = .ok (.iconst 0, 1) := dq_3 (dq_w dwm_382 11 rfl)
theorem dX6_isRow_60 : decode cX6_isRow 60 = .ok (.istore_n 3, 1) := dq_62 (dq_w dwm_382 12 rfl)
theorem dX6_isRow_61 : decode cX6_isRow 61 = .ok (.aload_n 0, 1) := dq_42 (dq_w dwm_382 13 rfl)
theorem dX6_isRow_62 : decode cX6_isRow 62 = .ok (.iconst 0, 1) := dq_3 (dq_w dwm_382 14 rfl)
theorem dX6_isRow_63 : decode cX6_isRow 63 = .ok (.invokevirtual 135, 3) := dq_182 (dq_w dwm_382 15 rfl) (dq_w dwm_383 0 rfl) (dq_w dwm_383 1 rfl) rfl
theorem dX6_isRow_66 : decode cX6_isRow 66 = .ok (.iinc 4 1, 3) := dq_132 (dq_w dwm_383 2 rfl) (dq_w dwm_383 3 rfl) rfl (dq_w dwm_383 4 rfl) rfl
theorem dX6_isRow_69 : decode cX6_isRow 69 = .ok (.goto (-64), 3) := dq_167 (dq_w dwm_383 5 rfl) (dq_w dwm_383 6 rfl) (dq_w dwm_383 7 rfl) (dq_n (m := 64) rfl rfl)
theorem dX6_isRow_72 : decode cX6_isRow 72 = .ok (.aload_n 0, 1) := dq_42 (dq_w dwm_383 8 rfl)
theorem dX6_isRow_73 : decode cX6_isRow 73 = .ok (.invokevirtual 202, 3) := dq_182 (dq_w dwm_383 9 rfl) (dq_w dwm_383 10 rfl) (dq_w dwm_383 11 rfl) rfl
theorem dX6_isRow_76 : decode cX6_isRow 76 = .ok (.iload_n 3, 1) := dq_29 (dq_w dwm_383 12 rfl)
theorem dX6_isRow_77 : decode cX6_isRow 77 = .ok (.ireturn, 1) := dq_172 (dq_w dwm_383 13 rfl)
theorem dwm_384 : (cX6_whatKind.data.toList.drop 0).take 16 = [42, 3, 181, 0, 79, 42, 27, 28, 182, 0, 237, 29, 4, 184, 0, 250] := by decide +kernel
theorem dwm_385 : (cX6_whatKind.data.toList.drop 16).take 16 = [54, 4, 21, 4, 156, 0, 10, 42, 21, 4, 182, 0, 143, 172, 3, 54] := by decide +kernel
theorem dwm_386 : (cX6_whatKind.data.toList.drop 32).take 16 = [5, 42, 182, 0, 196, 3, 54, 6, 21, 6, 29, 154, 0, 8, 16, 6] := by decide +kernel
theorem dwm_387 : (cX6_whatKind.data.toList.drop 48).take 16 = [167, 0, 5, 16, 10, 162, 0, 74, 42, 180, 0, 7, 28, 29, 154, 0] := by decide +kernel
theorem dwm_388 : (cX6_whatKind.data.toList.drop 64).take 16 = [8, 21, 6, 167, 0, 9, 42, 180, 0, 7, 28, 46, 79, 42, 180, 0] := by decide +kernel
theorem dwm_389 : (cX6_whatKind.data.toList.drop 80).take 16 = [13, 28, 29, 4, 160, 0, 8, 21, 6, 167, 0, 9, 42, 180, 0, 13] := by decide +kernel
theorem dwm_390 : (cX6_whatKind.data.toList.drop 96).take 16 = [28, 46, 79, 21, 5, 42, 27, 28, 182, 1, 22, 153, 0, 10, 4, 21] := by decide +kernel
theorem dwm_391 : (cX6_whatKind.data.toList.drop 112).take 16 = [6, 120, 167, 0, 4, 3, 128, 54, 5, 132, 6, 1, 167, 255, 172, 21] := by decide +kernel
theorem dwm_392 : (cX6_whatKind.data.toList.drop 128).take 16 = [5, 172] := by decide +kernel
theorem dX6_whatKind_0 : decode cX6_whatKind 0 = .ok (.aload_n 0, 1) := dq_42 (dq_w dwm_384 0 rfl)
theorem dX6_whatKind_1 : decode cX6_whatKind 1 = .ok (.iconst 0, 1) := dq_3 (dq_w dwm_384 1 rfl)
theorem dX6_whatKind_2 : decode cX6_whatKind 2 = .ok (.putfield 79, 3) := dq_181 (dq_w dwm_384 2 rfl) (dq_w dwm_384 3 rfl) (dq_w dwm_384 4 rfl) rfl
theorem dX6_whatKind_5 : decode cX6_whatKind 5 = .ok (.aload_n 0, 1) := dq_42 (dq_w dwm_384 5 rfl)
theorem dX6_whatKind_6 : decode cX6_whatKind 6 = .ok (.iload_n 1, 1) := dq_27 (dq_w dwm_384 6 rfl)
theorem dX6_whatKind_7 : decode cX6_whatKind 7 = .ok (.iload_n 2, 1) := dq_28 (dq_w dwm_384 7 rfl)
theorem dX6_whatKind_8 : decode cX6_whatKind 8 = .ok (.invokevirtual 237, 3) := dq_182 (dq_w dwm_384 8 rfl) (dq_w dwm_384 9 rfl) (dq_w dwm_384 10 rfl) rfl
theorem dX6_whatKind_11 : decode cX6_whatKind 11 = .ok (.iload_n 3, 1) := dq_29 (dq_w dwm_384 11 rfl)
theorem dX6_whatKind_12 : decode cX6_whatKind 12 = .ok (.iconst 1, 1) := dq_4 (dq_w dwm_384 12 rfl)
theorem dX6_whatKind_13 : decode cX6_whatKind 13 = .ok (.invokestatic 250, 3) := dq_184 (dq_w dwm_384 13 rfl) (dq_w dwm_384 14 rfl) (dq_w dwm_384 15 rfl) rfl
theorem dX6_whatKind_16 : decode cX6_whatKind 16 = .ok (.istore 4, 2) := dq_54 (dq_w dwm_385 0 rfl) (dq_w dwm_385 1 rfl) rfl
theorem dX6_whatKind_18 : decode cX6_whatKind 18 = .ok (.iload 4, 2) := dq_21 (dq_w dwm_385 2 rfl) (dq_w dwm_385 3 rfl) rfl
theorem dX6_whatKind_20 : decode cX6_whatKind 20 = .ok (.ifCond .ge 10, 3) := dq_156 (dq_w dwm_385 4 rfl) (dq_w dwm_385 5 rfl) (dq_w dwm_385 6 rfl) (dq_p (n := 10) rfl rfl)
theorem dX6_whatKind_23 : decode cX6_whatKind 23 = .ok (.aload_n 0, 1) := dq_42 (dq_w dwm_385 7 rfl)
theorem dX6_whatKind_24 : decode cX6_whatKind 24 = .ok (.iload 4, 2) := dq_21 (dq_w dwm_385 8 rfl) (dq_w dwm_385 9 rfl) rfl
theorem dX6_whatKind_26 : decode cX6_whatKind 26 = .ok (.invokevirtual 143, 3) := dq_182 (dq_w dwm_385 10 rfl) (dq_w dwm_385 11 rfl) (dq_w dwm_385 12 rfl) rfl
theorem dX6_whatKind_29 : decode cX6_whatKind 29 = .ok (.ireturn, 1) := dq_172 (dq_w dwm_385 13 rfl)
theorem dX6_whatKind_30 : decode cX6_whatKind 30 = .ok (.iconst 0, 1) := dq_3 (dq_w dwm_385 14 rfl)
theorem dX6_whatKind_31 : decode cX6_whatKind 31 = .ok (.istore 5, 2) := dq_54 (dq_w dwm_385 15 rfl) (dq_w dwm_386 0 rfl) rfl
theorem dX6_whatKind_33 : decode cX6_whatKind 33 = .ok (.aload_n 0, 1) := dq_42 (dq_w dwm_386 1 rfl)
theorem dX6_whatKind_34 : decode cX6_whatKind 34 = .ok (.invokevirtual 196, 3) := dq_182 (dq_w dwm_386 2 rfl) (dq_w dwm_386 3 rfl) (dq_w dwm_386 4 rfl) rfl
theorem dX6_whatKind_37 : decode cX6_whatKind 37 = .ok (.iconst 0, 1) := dq_3 (dq_w dwm_386 5 rfl)
theorem dX6_whatKind_38 : decode cX6_whatKind 38 = .ok (.istore 6, 2) := dq_54 (dq_w dwm_386 6 rfl) (dq_w dwm_386 7 rfl) rfl
theorem dX6_whatKind_40 : decode cX6_whatKind 40 = .ok (.iload 6, 2) := dq_21 (dq_w dwm_386 8 rfl) (dq_w dwm_386 9 rfl) rfl
theorem dX6_whatKind_42 : decode cX6_whatKind 42 = .ok (.iload_n 3, 1) := dq_29 (dq_w dwm_386 10 rfl)
theorem dX6_whatKind_43 : decode cX6_whatKind 43 = .ok (.ifCond .ne 8, 3) := dq_154 (dq_w dwm_386 11 rfl) (dq_w dwm_386 12 rfl) (dq_w dwm_386 13 rfl) (dq_p (n := 8) rfl rfl)
theorem dX6_whatKind_46 : decode cX6_whatKind 46 = .ok (.bipush 6, 2) := dq_16 (dq_w dwm_386 14 rfl) (dq_w dwm_386 15 rfl) rfl
theorem dX6_whatKind_48 : decode cX6_whatKind 48 = .ok (.goto 5, 3) := dq_167 (dq_w dwm_387 0 rfl) (dq_w dwm_387 1 rfl) (dq_w dwm_387 2 rfl) (dq_p (n := 5) rfl rfl)
theorem dX6_whatKind_51 : decode cX6_whatKind 51 = .ok (.bipush 10, 2) := dq_16 (dq_w dwm_387 3 rfl) (dq_w dwm_387 4 rfl) rfl
theorem dX6_whatKind_53 : decode cX6_whatKind 53 = .ok (.if_icmp .ge 74, 3) := dq_162 (dq_w dwm_387 5 rfl) (dq_w dwm_387 6 rfl) (dq_w dwm_387 7 rfl) (dq_p (n := 74) rfl rfl)
theorem dX6_whatKind_56 : decode cX6_whatKind 56 = .ok (.aload_n 0, 1) := dq_42 (dq_w dwm_387 8 rfl)
theorem dX6_whatKind_57 : decode cX6_whatKind 57 = .ok (.getfield 7, 3) := dq_180 (dq_w dwm_387 9 rfl) (dq_w dwm_387 10 rfl) (dq_w dwm_387 11 rfl) rfl
theorem dX6_whatKind_60 : decode cX6_whatKind 60 = .ok (.iload_n 2, 1) := dq_28 (dq_w dwm_387 12 rfl)
theorem dX6_whatKind_61 : decode cX6_whatKind 61 = .ok (.iload_n 3, 1) := dq_29 (dq_w dwm_387 13 rfl)
theorem dX6_whatKind_62 : decode cX6_whatKind 62 = .ok (.ifCond .ne 8, 3) := dq_154 (dq_w dwm_387 14 rfl) (dq_w dwm_387 15 rfl) (dq_w dwm_388 0 rfl) (dq_p (n := 8) rfl rfl)
theorem dX6_whatKind_65 : decode cX6_whatKind 65 = .ok (.iload 6, 2) := dq_21 (dq_w dwm_388 1 rfl) (dq_w dwm_388 2 rfl) rfl
theorem dX6_whatKind_67 : decode cX6_whatKind 67 = .ok (.goto 9, 3) := dq_167 (dq_w dwm_388 3 rfl) (dq_w dwm_388 4 rfl) (dq_w dwm_388 5 rfl) (dq_p (n := 9) rfl rfl)
theorem dX6_whatKind_70 : decode cX6_whatKind 70 = .ok (.aload_n 0, 1) := dq_42 (dq_w dwm_388 6 rfl)
theorem dX6_whatKind_71 : decode cX6_whatKind 71 = .ok (.getfield 7, 3) := dq_180 (dq_w dwm_388 7 rfl) (dq_w dwm_388 8 rfl) (dq_w dwm_388 9 rfl) rfl
theorem dX6_whatKind_74 : decode cX6_whatKind 74 = .ok (.iload_n 2, 1) := dq_28 (dq_w dwm_388 10 rfl)
theorem dX6_whatKind_75 : decode cX6_whatKind 75 = .ok (.iaload, 1) := dq_46 (dq_w dwm_388 11 rfl)
theorem dX6_whatKind_76 : decode cX6_whatKind 76 = .ok (.iastore, 1) := dq_79 (dq_w dwm_388 12 rfl)
theorem dX6_whatKind_77 : decode cX6_whatKind 77 = .ok (.aload_n 0, 1) := dq_42 (dq_w dwm_388 13 rfl)
theorem dX6_whatKind_78 : decode cX6_whatKind 78 = .ok (.getfield 13, 3) := dq_180 (dq_w dwm_388 14 rfl) (dq_w dwm_388 15 rfl) (dq_w dwm_389 0 rfl) rfl
theorem dX6_whatKind_81 : decode cX6_whatKind 81 = .ok (.iload_n 2, 1) := dq_28 (dq_w dwm_389 1 rfl)
theorem dX6_whatKind_82 : decode cX6_whatKind 82 = .ok (.iload_n 3, 1) := dq_29 (dq_w dwm_389 2 rfl)
theorem dX6_whatKind_83 : decode cX6_whatKind 83 = .ok (.iconst 1, 1) := dq_4 (dq_w dwm_389 3 rfl)
theorem dX6_whatKind_84 : decode cX6_whatKind 84 = .ok (.if_icmp .ne 8, 3) := dq_160 (dq_w dwm_389 4 rfl) (dq_w dwm_389 5 rfl) (dq_w dwm_389 6 rfl) (dq_p (n := 8) rfl rfl)
theorem dX6_whatKind_87 : decode cX6_whatKind 87 = .ok (.iload 6, 2) := dq_21 (dq_w dwm_389 7 rfl) (dq_w dwm_389 8 rfl) rfl
theorem dX6_whatKind_89 : decode cX6_whatKind 89 = .ok (.goto 9, 3) := dq_167 (dq_w dwm_389 9 rfl) (dq_w dwm_389 10 rfl) (dq_w dwm_389 11 rfl) (dq_p (n := 9) rfl rfl)
theorem dX6_whatKind_92 : decode cX6_whatKind 92 = .ok (.aload_n 0, 1) := dq_42 (dq_w dwm_389 12 rfl)
theorem dX6_whatKind_93 : decode cX6_whatKind 93 = .ok (.getfield 13, 3) := dq_180 (dq_w dwm_389 13 rfl) (dq_w dwm_389 14 rfl) (dq_w dwm_389 15 rfl) rfl
theorem dX6_whatKind_96 : decode cX6_whatKind 96 = .ok (.iload_n 2, 1) := dq_28 (dq_w dwm_390 0 rfl)
theorem dX6_whatKind_97 : decode cX6_whatKind 97 = .ok (.iaload, 1) := dq_46 (dq_w dwm_390 1 rfl)
theorem dX6_whatKind_98 : decode cX6_whatKind 98 = .ok (.iastore, 1) := dq_79 (dq_w dwm_390 2 rfl)
theorem dX6_whatKind_99 : decode cX6_whatKind 99 = .ok (.iload 5, 2) := dq_21 (dq_w dwm_390 3 rfl) (dq_w dwm_390 4 rfl) rfl
theorem dX6_whatKind_101 : decode cX6_whatKind 101 = .ok (.aload_n 0, 1) := dq_42 (dq_w dwm_390 5 rfl)
theorem dX6_whatKind_102 : decode cX6_whatKind 102 = .ok (.iload_n 1, 1) := dq_27 (dq_w dwm_390 6 rfl)
theorem dX6_whatKind_103 : decode cX6_whatKind 103 = .ok (.iload_n 2, 1) := dq_28 (dq_w dwm_390 7 rfl)
theorem dX6_whatKind_104 : decode cX6_whatKind 104 = .ok (.invokevirtual 278, 3) := dq_182 (dq_w dwm_390 8 rfl) (dq_w dwm_390 9 rfl) (dq_w dwm_390 10 rfl) rfl
theorem dX6_whatKind_107 : decode cX6_whatKind 107 = .ok (.ifCond .eq 10, 3) := dq_153 (dq_w dwm_390 11 rfl) (dq_w dwm_390 12 rfl) (dq_w dwm_390 13 rfl) (dq_p (n := 10) rfl rfl)
theorem dX6_whatKind_110 : decode cX6_whatKind 110 = .ok (.iconst 1, 1) := dq_4 (dq_w dwm_390 14 rfl)
theorem dX6_whatKind_111 : decode cX6_whatKind 111 = .ok (.iload 6, 2) := dq_21 (dq_w dwm_390 15 rfl) (dq_w dwm_391 0 rfl) rfl
theorem dX6_whatKind_113 : decode cX6_whatKind 113 = .ok (.ishl, 1) := dq_120 (dq_w dwm_391 1 rfl)
theorem dX6_whatKind_114 : decode cX6_whatKind 114 = .ok (.goto 4, 3) := dq_167 (dq_w dwm_391 2 rfl) (dq_w dwm_391 3 rfl) (dq_w dwm_391 4 rfl) (dq_p (n := 4) rfl rfl)
theorem dX6_whatKind_117 : decode cX6_whatKind 117 = .ok (.iconst 0, 1) := dq_3 (dq_w dwm_391 5 rfl)
theorem dX6_whatKind_118 : decode cX6_whatKind 118 = .ok (.ior, 1) := dq_128 (dq_w dwm_391 6 rfl)
theorem dX6_whatKind_119 : decode cX6_whatKind 119 = .ok (.istore 5, 2) := dq_54 (dq_w dwm_391 7 rfl) (dq_w dwm_391 8 rfl) rfl
theorem dX6_whatKind_121 : decode cX6_whatKind 121 = .ok (.iinc 6 1, 3) := dq_132 (dq_w dwm_391 9 rfl) (dq_w dwm_391 10 rfl) rfl (dq_w dwm_391 11 rfl) rfl
theorem dX6_whatKind_124 : decode cX6_whatKind 124 = .ok (.goto (-84), 3) := dq_167 (dq_w dwm_391 12 rfl) (dq_w dwm_391 13 rfl) (dq_w dwm_391 14 rfl) (dq_n (m := 84) rfl rfl)
theorem dX6_whatKind_127 : decode cX6_whatKind 127 = .ok (.iload 5, 2) := dq_21 (dq_w dwm_391 15 rfl) (dq_w dwm_392 0 rfl) rfl
theorem dX6_whatKind_129 : decode cX6_whatKind 129 = .ok (.ireturn, 1) := dq_172 (dq_w dwm_392 1 rfl)
theorem dwm_393 : (cX6_two.data.toList.drop 0).take 16 = [42, 3, 181, 0, 79, 42, 27, 182, 0, 181, 153, 0, 26, 42, 28, 182] := by decide +kernel
theorem dwm_394 : (cX6_two.data.toList.drop 16).take 16 = [0, 181, 153, 0, 18, 27, 28, 159, 0, 13, 29, 3, 16, 60, 184, 0] := by decide +kernel
theorem dwm_395 : (cX6_two.data.toList.drop 32).take 16 = [240, 167, 0, 4, 2, 54, 4, 21, 4, 156, 0, 10, 42, 21, 4, 182] := by decide +kernel
theorem dwm_396 : (cX6_two.data.toList.drop 48).take 16 = [0, 143, 172, 42, 182, 0, 196, 3, 54, 5, 21, 5, 7, 162, 0, 92] := by decide +kernel
theorem dwm_397 : (cX6_two.data.toList.drop 64).take 16 = [42, 180, 0, 19, 27, 4, 21, 5, 5, 108, 100, 79, 42, 180, 0, 19] := by decide +kernel
theorem dwm_398 : (cX6_two.data.toList.drop 80).take 16 = [28, 4, 21, 5, 5, 112, 100, 79, 42, 29, 182, 0, 189, 42, 180, 0] := by decide +kernel
theorem dwm_399 : (cX6_two.data.toList.drop 96).take 16 = [76, 5, 21, 5, 104, 42, 27, 182, 0, 229, 184, 0, 119, 4, 21, 5] := by decide +kernel
theorem dwm_400 : (cX6_two.data.toList.drop 112).take 16 = [5, 108, 100, 100, 79, 42, 180, 0, 76, 5, 21, 5, 104, 4, 96, 42] := by decide +kernel
theorem dwm_401 : (cX6_two.data.toList.drop 128).take 16 = [28, 182, 0, 229, 184, 0, 119, 4, 21, 5, 5, 112, 100, 100, 79, 42] := by decide +kernel
theorem dwm_402 : (cX6_two.data.toList.drop 144).take 16 = [182, 0, 202, 132, 5, 1, 167, 255, 164, 3, 54, 5, 21, 5, 7, 162] := by decide +kernel
theorem dwm_403 : (cX6_two.data.toList.drop 160).take 16 = [0, 98, 5, 4, 21, 5, 5, 108, 100, 104, 21, 5, 5, 112, 96, 54] := by decide +kernel
theorem dwm_404 : (cX6_two.data.toList.drop 176).take 16 = [6, 5, 21, 5, 5, 108, 104, 4, 96, 21, 5, 5, 112, 100, 54, 7] := by decide +kernel
theorem dwm_405 : (cX6_two.data.toList.drop 192).take 16 = [42, 180, 0, 76, 5, 21, 5, 104, 46, 42, 180, 0, 76, 5, 21, 6] := by decide +kernel
theorem dwm_406 : (cX6_two.data.toList.drop 208).take 16 = [104, 46, 161, 0, 41, 42, 180, 0, 76, 5, 21, 5, 104, 4, 96, 46] := by decide +kernel
theorem dwm_407 : (cX6_two.data.toList.drop 224).take 16 = [42, 180, 0, 76, 5, 21, 7, 104, 4, 96, 46, 161, 0, 16, 16, 10] := by decide +kernel
theorem dwm_408 : (cX6_two.data.toList.drop 240).take 16 = [21, 5, 5, 108, 104, 21, 5, 5, 112, 96, 172, 132, 5, 1, 167, 255] := by decide +kernel
theorem dwm_409 : (cX6_two.data.toList.drop 256).take 16 = [158, 16, 247, 172] := by decide +kernel
theorem dX6_two_0 : decode cX6_two 0 = .ok (.aload_n 0, 1) := dq_42 (dq_w dwm_393 0 rfl)
theorem dX6_two_1 : decode cX6_two 1 = .ok (.iconst 0, 1) := dq_3 (dq_w dwm_393 1 rfl)
theorem dX6_two_2 : decode cX6_two 2 = .ok (.putfield 79, 3) := dq_181 (dq_w dwm_393 2 rfl) (dq_w dwm_393 3 rfl) (dq_w dwm_393 4 rfl) rfl
theorem dX6_two_5 : decode cX6_two 5 = .ok (.aload_n 0, 1) := dq_42 (dq_w dwm_393 5 rfl)
theorem dX6_two_6 : decode cX6_two 6 = .ok (.iload_n 1, 1) := dq_27 (dq_w dwm_393 6 rfl)
theorem dX6_two_7 : decode cX6_two 7 = .ok (.invokevirtual 181, 3) := dq_182 (dq_w dwm_393 7 rfl) (dq_w dwm_393 8 rfl) (dq_w dwm_393 9 rfl) rfl
theorem dX6_two_10 : decode cX6_two 10 = .ok (.ifCond .eq 26, 3) := dq_153 (dq_w dwm_393 10 rfl) (dq_w dwm_393 11 rfl) (dq_w dwm_393 12 rfl) (dq_p (n := 26) rfl rfl)
theorem dX6_two_13 : decode cX6_two 13 = .ok (.aload_n 0, 1) := dq_42 (dq_w dwm_393 13 rfl)
theorem dX6_two_14 : decode cX6_two 14 = .ok (.iload_n 2, 1) := dq_28 (dq_w dwm_393 14 rfl)
theorem dX6_two_15 : decode cX6_two 15 = .ok (.invokevirtual 181, 3) := dq_182 (dq_w dwm_393 15 rfl) (dq_w dwm_394 0 rfl) (dq_w dwm_394 1 rfl) rfl
theorem dX6_two_18 : decode cX6_two 18 = .ok (.ifCond .eq 18, 3) := dq_153 (dq_w dwm_394 2 rfl) (dq_w dwm_394 3 rfl) (dq_w dwm_394 4 rfl) (dq_p (n := 18) rfl rfl)
theorem dX6_two_21 : decode cX6_two 21 = .ok (.iload_n 1, 1) := dq_27 (dq_w dwm_394 5 rfl)
theorem dX6_two_22 : decode cX6_two 22 = .ok (.iload_n 2, 1) := dq_28 (dq_w dwm_394 6 rfl)
theorem dX6_two_23 : decode cX6_two 23 = .ok (.if_icmp .eq 13, 3) := dq_159 (dq_w dwm_394 7 rfl) (dq_w dwm_394 8 rfl) (dq_w dwm_394 9 rfl) (dq_p (n := 13) rfl rfl)
theorem dX6_two_26 : decode cX6_two 26 = .ok (.iload_n 3, 1) := dq_29 (dq_w dwm_394 10 rfl)
theorem dX6_two_27 : decode cX6_two 27 = .ok (.iconst 0, 1) := dq_3 (dq_w dwm_394 11 rfl)
theorem dX6_two_28 : decode cX6_two 28 = .ok (.bipush 60, 2) := dq_16 (dq_w dwm_394 12 rfl) (dq_w dwm_394 13 rfl) rfl
theorem dX6_two_30 : decode cX6_two 30 = .ok (.invokestatic 240, 3) := dq_184 (dq_w dwm_394 14 rfl) (dq_w dwm_394 15 rfl) (dq_w dwm_395 0 rfl) rfl
theorem dX6_two_33 : decode cX6_two 33 = .ok (.goto 4, 3) := dq_167 (dq_w dwm_395 1 rfl) (dq_w dwm_395 2 rfl) (dq_w dwm_395 3 rfl) (dq_p (n := 4) rfl rfl)
theorem dX6_two_36 : decode cX6_two 36 = .ok (.iconst (-1), 1) := dq_2 (dq_w dwm_395 4 rfl)
theorem dX6_two_37 : decode cX6_two 37 = .ok (.istore 4, 2) := dq_54 (dq_w dwm_395 5 rfl) (dq_w dwm_395 6 rfl) rfl
theorem dX6_two_39 : decode cX6_two 39 = .ok (.iload 4, 2) := dq_21 (dq_w dwm_395 7 rfl) (dq_w dwm_395 8 rfl) rfl
theorem dX6_two_41 : decode cX6_two 41 = .ok (.ifCond .ge 10, 3) := dq_156 (dq_w dwm_395 9 rfl) (dq_w dwm_395 10 rfl) (dq_w dwm_395 11 rfl) (dq_p (n := 10) rfl rfl)
theorem dX6_two_44 : decode cX6_two 44 = .ok (.aload_n 0, 1) := dq_42 (dq_w dwm_395 12 rfl)
theorem dX6_two_45 : decode cX6_two 45 = .ok (.iload 4, 2) := dq_21 (dq_w dwm_395 13 rfl) (dq_w dwm_395 14 rfl) rfl
theorem dX6_two_47 : decode cX6_two 47 = .ok (.invokevirtual 143, 3) := dq_182 (dq_w dwm_395 15 rfl) (dq_w dwm_396 0 rfl) (dq_w dwm_396 1 rfl) rfl
theorem dX6_two_50 : decode cX6_two 50 = .ok (.ireturn, 1) := dq_172 (dq_w dwm_396 2 rfl)
theorem dX6_two_51 : decode cX6_two 51 = .ok (.aload_n 0, 1) := dq_42 (dq_w dwm_396 3 rfl)
theorem dX6_two_52 : decode cX6_two 52 = .ok (.invokevirtual 196, 3) := dq_182 (dq_w dwm_396 4 rfl) (dq_w dwm_396 5 rfl) (dq_w dwm_396 6 rfl) rfl
theorem dX6_two_55 : decode cX6_two 55 = .ok (.iconst 0, 1) := dq_3 (dq_w dwm_396 7 rfl)
theorem dX6_two_56 : decode cX6_two 56 = .ok (.istore 5, 2) := dq_54 (dq_w dwm_396 8 rfl) (dq_w dwm_396 9 rfl) rfl
theorem dX6_two_58 : decode cX6_two 58 = .ok (.iload 5, 2) := dq_21 (dq_w dwm_396 10 rfl) (dq_w dwm_396 11 rfl) rfl
theorem dX6_two_60 : decode cX6_two 60 = .ok (.iconst 4, 1) := dq_7 (dq_w dwm_396 12 rfl)
theorem dX6_two_61 : decode cX6_two 61 = .ok (.if_icmp .ge 92, 3) := dq_162 (dq_w dwm_396 13 rfl) (dq_w dwm_396 14 rfl) (dq_w dwm_396 15 rfl) (dq_p (n := 92) rfl rfl)
theorem dX6_two_64 : decode cX6_two 64 = .ok (.aload_n 0, 1) := dq_42 (dq_w dwm_397 0 rfl)
theorem dX6_two_65 : decode cX6_two 65 = .ok (.getfield 19, 3) := dq_180 (dq_w dwm_397 1 rfl) (dq_w dwm_397 2 rfl) (dq_w dwm_397 3 rfl) rfl
theorem dX6_two_68 : decode cX6_two 68 = .ok (.iload_n 1, 1) := dq_27 (dq_w dwm_397 4 rfl)
theorem dX6_two_69 : decode cX6_two 69 = .ok (.iconst 1, 1) := dq_4 (dq_w dwm_397 5 rfl)
theorem dX6_two_70 : decode cX6_two 70 = .ok (.iload 5, 2) := dq_21 (dq_w dwm_397 6 rfl) (dq_w dwm_397 7 rfl) rfl
theorem dX6_two_72 : decode cX6_two 72 = .ok (.iconst 2, 1) := dq_5 (dq_w dwm_397 8 rfl)
theorem dX6_two_73 : decode cX6_two 73 = .ok (.idiv, 1) := dq_108 (dq_w dwm_397 9 rfl)
theorem dX6_two_74 : decode cX6_two 74 = .ok (.isub, 1) := dq_100 (dq_w dwm_397 10 rfl)
theorem dX6_two_75 : decode cX6_two 75 = .ok (.iastore, 1) := dq_79 (dq_w dwm_397 11 rfl)
theorem dX6_two_76 : decode cX6_two 76 = .ok (.aload_n 0, 1) := dq_42 (dq_w dwm_397 12 rfl)
theorem dX6_two_77 : decode cX6_two 77 = .ok (.getfield 19, 3) := dq_180 (dq_w dwm_397 13 rfl) (dq_w dwm_397 14 rfl) (dq_w dwm_397 15 rfl) rfl
theorem dX6_two_80 : decode cX6_two 80 = .ok (.iload_n 2, 1) := dq_28 (dq_w dwm_398 0 rfl)
theorem dX6_two_81 : decode cX6_two 81 = .ok (.iconst 1, 1) := dq_4 (dq_w dwm_398 1 rfl)
theorem dX6_two_82 : decode cX6_two 82 = .ok (.iload 5, 2) := dq_21 (dq_w dwm_398 2 rfl) (dq_w dwm_398 3 rfl) rfl
theorem dX6_two_84 : decode cX6_two 84 = .ok (.iconst 2, 1) := dq_5 (dq_w dwm_398 4 rfl)
theorem dX6_two_85 : decode cX6_two 85 = .ok (.irem, 1) := dq_112 (dq_w dwm_398 5 rfl)
theorem dX6_two_86 : decode cX6_two 86 = .ok (.isub, 1) := dq_100 (dq_w dwm_398 6 rfl)
theorem dX6_two_87 : decode cX6_two 87 = .ok (.iastore, 1) := dq_79 (dq_w dwm_398 7 rfl)
theorem dX6_two_88 : decode cX6_two 88 = .ok (.aload_n 0, 1) := dq_42 (dq_w dwm_398 8 rfl)
theorem dX6_two_89 : decode cX6_two 89 = .ok (.iload_n 3, 1) := dq_29 (dq_w dwm_398 9 rfl)
theorem dX6_two_90 : decode cX6_two 90 = .ok (.invokevirtual 189, 3) := dq_182 (dq_w dwm_398 10 rfl) (dq_w dwm_398 11 rfl) (dq_w dwm_398 12 rfl) rfl
theorem dX6_two_93 : decode cX6_two 93 = .ok (.aload_n 0, 1) := dq_42 (dq_w dwm_398 13 rfl)
theorem dX6_two_94 : decode cX6_two 94 = .ok (.getfield 76, 3) := dq_180 (dq_w dwm_398 14 rfl) (dq_w dwm_398 15 rfl) (dq_w dwm_399 0 rfl) rfl
theorem dX6_two_97 : decode cX6_two 97 = .ok (.iconst 2, 1) := dq_5 (dq_w dwm_399 1 rfl)
theorem dX6_two_98 : decode cX6_two 98 = .ok (.iload 5, 2) := dq_21 (dq_w dwm_399 2 rfl) (dq_w dwm_399 3 rfl) rfl
theorem dX6_two_100 : decode cX6_two 100 = .ok (.imul, 1) := dq_104 (dq_w dwm_399 4 rfl)
theorem dX6_two_101 : decode cX6_two 101 = .ok (.aload_n 0, 1) := dq_42 (dq_w dwm_399 5 rfl)
theorem dX6_two_102 : decode cX6_two 102 = .ok (.iload_n 1, 1) := dq_27 (dq_w dwm_399 6 rfl)
theorem dX6_two_103 : decode cX6_two 103 = .ok (.invokevirtual 229, 3) := dq_182 (dq_w dwm_399 7 rfl) (dq_w dwm_399 8 rfl) (dq_w dwm_399 9 rfl) rfl
theorem dX6_two_106 : decode cX6_two 106 = .ok (.invokestatic 119, 3) := dq_184 (dq_w dwm_399 10 rfl) (dq_w dwm_399 11 rfl) (dq_w dwm_399 12 rfl) rfl
theorem dX6_two_109 : decode cX6_two 109 = .ok (.iconst 1, 1) := dq_4 (dq_w dwm_399 13 rfl)
theorem dX6_two_110 : decode cX6_two 110 = .ok (.iload 5, 2) := dq_21 (dq_w dwm_399 14 rfl) (dq_w dwm_399 15 rfl) rfl
theorem dX6_two_112 : decode cX6_two 112 = .ok (.iconst 2, 1) := dq_5 (dq_w dwm_400 0 rfl)
theorem dX6_two_113 : decode cX6_two 113 = .ok (.idiv, 1) := dq_108 (dq_w dwm_400 1 rfl)
theorem dX6_two_114 : decode cX6_two 114 = .ok (.isub, 1) := dq_100 (dq_w dwm_400 2 rfl)
theorem dX6_two_115 : decode cX6_two 115 = .ok (.isub, 1) := dq_100 (dq_w dwm_400 3 rfl)
theorem dX6_two_116 : decode cX6_two 116 = .ok (.iastore, 1) := dq_79 (dq_w dwm_400 4 rfl)
theorem dX6_two_117 : decode cX6_two 117 = .ok (.aload_n 0, 1) := dq_42 (dq_w dwm_400 5 rfl)
theorem dX6_two_118 : decode cX6_two 118 = .ok (.getfield 76, 3) := dq_180 (dq_w dwm_400 6 rfl) (dq_w dwm_400 7 rfl) (dq_w dwm_400 8 rfl) rfl
theorem dX6_two_121 : decode cX6_two 121 = .ok (.iconst 2, 1) := dq_5 (dq_w dwm_400 9 rfl)
theorem dX6_two_122 : decode cX6_two 122 = .ok (.iload 5, 2) := dq_21 (dq_w dwm_400 10 rfl) (dq_w dwm_400 11 rfl) rfl
theorem dX6_two_124 : decode cX6_two 124 = .ok (.imul, 1) := dq_104 (dq_w dwm_400 12 rfl)
theorem dX6_two_125 : decode cX6_two 125 = .ok (.iconst 1, 1) := dq_4 (dq_w dwm_400 13 rfl)
theorem dX6_two_126 : decode cX6_two 126 = .ok (.iadd, 1) := dq_96 (dq_w dwm_400 14 rfl)
theorem dX6_two_127 : decode cX6_two 127 = .ok (.aload_n 0, 1) := dq_42 (dq_w dwm_400 15 rfl)
theorem dX6_two_128 : decode cX6_two 128 = .ok (.iload_n 2, 1) := dq_28 (dq_w dwm_401 0 rfl)
theorem dX6_two_129 : decode cX6_two 129 = .ok (.invokevirtual 229, 3) := dq_182 (dq_w dwm_401 1 rfl) (dq_w dwm_401 2 rfl) (dq_w dwm_401 3 rfl) rfl
theorem dX6_two_132 : decode cX6_two 132 = .ok (.invokestatic 119, 3) := dq_184 (dq_w dwm_401 4 rfl) (dq_w dwm_401 5 rfl) (dq_w dwm_401 6 rfl) rfl
theorem dX6_two_135 : decode cX6_two 135 = .ok (.iconst 1, 1) := dq_4 (dq_w dwm_401 7 rfl)
theorem dX6_two_136 : decode cX6_two 136 = .ok (.iload 5, 2) := dq_21 (dq_w dwm_401 8 rfl) (dq_w dwm_401 9 rfl) rfl
theorem dX6_two_138 : decode cX6_two 138 = .ok (.iconst 2, 1) := dq_5 (dq_w dwm_401 10 rfl)
theorem dX6_two_139 : decode cX6_two 139 = .ok (.irem, 1) := dq_112 (dq_w dwm_401 11 rfl)
theorem dX6_two_140 : decode cX6_two 140 = .ok (.isub, 1) := dq_100 (dq_w dwm_401 12 rfl)
theorem dX6_two_141 : decode cX6_two 141 = .ok (.isub, 1) := dq_100 (dq_w dwm_401 13 rfl)
theorem dX6_two_142 : decode cX6_two 142 = .ok (.iastore, 1) := dq_79 (dq_w dwm_401 14 rfl)
theorem dX6_two_143 : decode cX6_two 143 = .ok (.aload_n 0, 1) := dq_42 (dq_w dwm_401 15 rfl)
theorem dX6_two_144 : decode cX6_two 144 = .ok (.invokevirtual 202, 3) := dq_182 (dq_w dwm_402 0 rfl) (dq_w dwm_402 1 rfl) (dq_w dwm_402 2 rfl) rfl
theorem dX6_two_147 : decode cX6_two 147 = .ok (.iinc 5 1, 3) := dq_132 (dq_w dwm_402 3 rfl) (dq_w dwm_402 4 rfl) rfl (dq_w dwm_402 5 rfl) rfl
theorem dX6_two_150 : decode cX6_two 150 = .ok (.goto (-92), 3) := dq_167 (dq_w dwm_402 6 rfl) (dq_w dwm_402 7 rfl) (dq_w dwm_402 8 rfl) (dq_n (m := 92) rfl rfl)
theorem dX6_two_153 : decode cX6_two 153 = .ok (.iconst 0, 1) := dq_3 (dq_w dwm_402 9 rfl)
theorem dX6_two_154 : decode cX6_two 154 = .ok (.istore 5, 2) := dq_54 (dq_w dwm_402 10 rfl) (dq_w dwm_402 11 rfl) rfl
theorem dX6_two_156 : decode cX6_two 156 = .ok (.iload 5, 2) := dq_21 (dq_w dwm_402 12 rfl) (dq_w dwm_402 13 rfl) rfl
theorem dX6_two_158 : decode cX6_two 158 = .ok (.iconst 4, 1) := dq_7 (dq_w dwm_402 14 rfl)
theorem dX6_two_159 : decode cX6_two 159 = .ok (.if_icmp .ge 98, 3) := dq_162 (dq_w dwm_402 15 rfl) (dq_w dwm_403 0 rfl) (dq_w dwm_403 1 rfl) (dq_p (n := 98) rfl rfl)
theorem dX6_two_162 : decode cX6_two 162 = .ok (.iconst 2, 1) := dq_5 (dq_w dwm_403 2 rfl)
theorem dX6_two_163 : decode cX6_two 163 = .ok (.iconst 1, 1) := dq_4 (dq_w dwm_403 3 rfl)
theorem dX6_two_164 : decode cX6_two 164 = .ok (.iload 5, 2) := dq_21 (dq_w dwm_403 4 rfl) (dq_w dwm_403 5 rfl) rfl
theorem dX6_two_166 : decode cX6_two 166 = .ok (.iconst 2, 1) := dq_5 (dq_w dwm_403 6 rfl)
theorem dX6_two_167 : decode cX6_two 167 = .ok (.idiv, 1) := dq_108 (dq_w dwm_403 7 rfl)
theorem dX6_two_168 : decode cX6_two 168 = .ok (.isub, 1) := dq_100 (dq_w dwm_403 8 rfl)
theorem dX6_two_169 : decode cX6_two 169 = .ok (.imul, 1) := dq_104 (dq_w dwm_403 9 rfl)
theorem dX6_two_170 : decode cX6_two 170 = .ok (.iload 5, 2) := dq_21 (dq_w dwm_403 10 rfl) (dq_w dwm_403 11 rfl) rfl
theorem dX6_two_172 : decode cX6_two 172 = .ok (.iconst 2, 1) := dq_5 (dq_w dwm_403 12 rfl)
theorem dX6_two_173 : decode cX6_two 173 = .ok (.irem, 1) := dq_112 (dq_w dwm_403 13 rfl)
theorem dX6_two_174 : decode cX6_two 174 = .ok (.iadd, 1) := dq_96 (dq_w dwm_403 14 rfl)
theorem dX6_two_175 : decode cX6_two 175 = .ok (.istore 6, 2) := dq_54 (dq_w dwm_403 15 rfl) (dq_w dwm_404 0 rfl) rfl
theorem dX6_two_177 : decode cX6_two 177 = .ok (.iconst 2, 1) := dq_5 (dq_w dwm_404 1 rfl)
theorem dX6_two_178 : decode cX6_two 178 = .ok (.iload 5, 2) := dq_21 (dq_w dwm_404 2 rfl) (dq_w dwm_404 3 rfl) rfl
theorem dX6_two_180 : decode cX6_two 180 = .ok (.iconst 2, 1) := dq_5 (dq_w dwm_404 4 rfl)
theorem dX6_two_181 : decode cX6_two 181 = .ok (.idiv, 1) := dq_108 (dq_w dwm_404 5 rfl)
theorem dX6_two_182 : decode cX6_two 182 = .ok (.imul, 1) := dq_104 (dq_w dwm_404 6 rfl)
theorem dX6_two_183 : decode cX6_two 183 = .ok (.iconst 1, 1) := dq_4 (dq_w dwm_404 7 rfl)
theorem dX6_two_184 : decode cX6_two 184 = .ok (.iadd, 1) := dq_96 (dq_w dwm_404 8 rfl)
theorem dX6_two_185 : decode cX6_two 185 = .ok (.iload 5, 2) := dq_21 (dq_w dwm_404 9 rfl) (dq_w dwm_404 10 rfl) rfl
theorem dX6_two_187 : decode cX6_two 187 = .ok (.iconst 2, 1) := dq_5 (dq_w dwm_404 11 rfl)
theorem dX6_two_188 : decode cX6_two 188 = .ok (.irem, 1) := dq_112 (dq_w dwm_404 12 rfl)
theorem dX6_two_189 : decode cX6_two 189 = .ok (.isub, 1) := dq_100 (dq_w dwm_404 13 rfl)
theorem dX6_two_190 : decode cX6_two 190 = .ok (.istore 7, 2) := dq_54 (dq_w dwm_404 14 rfl) (dq_w dwm_404 15 rfl) rfl
theorem dX6_two_192 : decode cX6_two 192 = .ok (.aload_n 0, 1) := dq_42 (dq_w dwm_405 0 rfl)
theorem dX6_two_193 : decode cX6_two 193 = .ok (.getfield 76, 3) := dq_180 (dq_w dwm_405 1 rfl) (dq_w dwm_405 2 rfl) (dq_w dwm_405 3 rfl) rfl
theorem dX6_two_196 : decode cX6_two 196 = .ok (.iconst 2, 1) := dq_5 (dq_w dwm_405 4 rfl)
theorem dX6_two_197 : decode cX6_two 197 = .ok (.iload 5, 2) := dq_21 (dq_w dwm_405 5 rfl) (dq_w dwm_405 6 rfl) rfl
theorem dX6_two_199 : decode cX6_two 199 = .ok (.imul, 1) := dq_104 (dq_w dwm_405 7 rfl)
theorem dX6_two_200 : decode cX6_two 200 = .ok (.iaload, 1) := dq_46 (dq_w dwm_405 8 rfl)
theorem dX6_two_201 : decode cX6_two 201 = .ok (.aload_n 0, 1) := dq_42 (dq_w dwm_405 9 rfl)
theorem dX6_two_202 : decode cX6_two 202 = .ok (.getfield 76, 3) := dq_180 (dq_w dwm_405 10 rfl) (dq_w dwm_405 11 rfl) (dq_w dwm_405 12 rfl) rfl
theorem dX6_two_205 : decode cX6_two 205 = .ok (.iconst 2, 1) := dq_5 (dq_w dwm_405 13 rfl)
theorem dX6_two_206 : decode cX6_two 206 = .ok (.iload 6, 2) := dq_21 (dq_w dwm_405 14 rfl) (dq_w dwm_405 15 rfl) rfl
theorem dX6_two_208 : decode cX6_two 208 = .ok (.imul, 1) := dq_104 (dq_w dwm_406 0 rfl)
theorem dX6_two_209 : decode cX6_two 209 = .ok (.iaload, 1) := dq_46 (dq_w dwm_406 1 rfl)
theorem dX6_two_210 : decode cX6_two 210 = .ok (.if_icmp .lt 41, 3) := dq_161 (dq_w dwm_406 2 rfl) (dq_w dwm_406 3 rfl) (dq_w dwm_406 4 rfl) (dq_p (n := 41) rfl rfl)
theorem dX6_two_213 : decode cX6_two 213 = .ok (.aload_n 0, 1) := dq_42 (dq_w dwm_406 5 rfl)
theorem dX6_two_214 : decode cX6_two 214 = .ok (.getfield 76, 3) := dq_180 (dq_w dwm_406 6 rfl) (dq_w dwm_406 7 rfl) (dq_w dwm_406 8 rfl) rfl
theorem dX6_two_217 : decode cX6_two 217 = .ok (.iconst 2, 1) := dq_5 (dq_w dwm_406 9 rfl)
theorem dX6_two_218 : decode cX6_two 218 = .ok (.iload 5, 2) := dq_21 (dq_w dwm_406 10 rfl) (dq_w dwm_406 11 rfl) rfl
theorem dX6_two_220 : decode cX6_two 220 = .ok (.imul, 1) := dq_104 (dq_w dwm_406 12 rfl)
theorem dX6_two_221 : decode cX6_two 221 = .ok (.iconst 1, 1) := dq_4 (dq_w dwm_406 13 rfl)
theorem dX6_two_222 : decode cX6_two 222 = .ok (.iadd, 1) := dq_96 (dq_w dwm_406 14 rfl)
theorem dX6_two_223 : decode cX6_two 223 = .ok (.iaload, 1) := dq_46 (dq_w dwm_406 15 rfl)
theorem dX6_two_224 : decode cX6_two 224 = .ok (.aload_n 0, 1) := dq_42 (dq_w dwm_407 0 rfl)
theorem dX6_two_225 : decode cX6_two 225 = .ok (.getfield 76, 3) := dq_180 (dq_w dwm_407 1 rfl) (dq_w dwm_407 2 rfl) (dq_w dwm_407 3 rfl) rfl
theorem dX6_two_228 : decode cX6_two 228 = .ok (.iconst 2, 1) := dq_5 (dq_w dwm_407 4 rfl)
theorem dX6_two_229 : decode cX6_two 229 = .ok (.iload 7, 2) := dq_21 (dq_w dwm_407 5 rfl) (dq_w dwm_407 6 rfl) rfl
theorem dX6_two_231 : decode cX6_two 231 = .ok (.imul, 1) := dq_104 (dq_w dwm_407 7 rfl)
theorem dX6_two_232 : decode cX6_two 232 = .ok (.iconst 1, 1) := dq_4 (dq_w dwm_407 8 rfl)
theorem dX6_two_233 : decode cX6_two 233 = .ok (.iadd, 1) := dq_96 (dq_w dwm_407 9 rfl)
theorem dX6_two_234 : decode cX6_two 234 = .ok (.iaload, 1) := dq_46 (dq_w dwm_407 10 rfl)
theorem dX6_two_235 : decode cX6_two 235 = .ok (.if_icmp .lt 16, 3) := dq_161 (dq_w dwm_407 11 rfl) (dq_w dwm_407 12 rfl) (dq_w dwm_407 13 rfl) (dq_p (n := 16) rfl rfl)
theorem dX6_two_238 : decode cX6_two 238 = .ok (.bipush 10, 2) := dq_16 (dq_w dwm_407 14 rfl) (dq_w dwm_407 15 rfl) rfl
theorem dX6_two_240 : decode cX6_two 240 = .ok (.iload 5, 2) := dq_21 (dq_w dwm_408 0 rfl) (dq_w dwm_408 1 rfl) rfl
theorem dX6_two_242 : decode cX6_two 242 = .ok (.iconst 2, 1) := dq_5 (dq_w dwm_408 2 rfl)
theorem dX6_two_243 : decode cX6_two 243 = .ok (.idiv, 1) := dq_108 (dq_w dwm_408 3 rfl)
theorem dX6_two_244 : decode cX6_two 244 = .ok (.imul, 1) := dq_104 (dq_w dwm_408 4 rfl)
theorem dX6_two_245 : decode cX6_two 245 = .ok (.iload 5, 2) := dq_21 (dq_w dwm_408 5 rfl) (dq_w dwm_408 6 rfl) rfl
theorem dX6_two_247 : decode cX6_two 247 = .ok (.iconst 2, 1) := dq_5 (dq_w dwm_408 7 rfl)
theorem dX6_two_248 : decode cX6_two 248 = .ok (.irem, 1) := dq_112 (dq_w dwm_408 8 rfl)
theorem dX6_two_249 : decode cX6_two 249 = .ok (.iadd, 1) := dq_96 (dq_w dwm_408 9 rfl)
theorem dX6_two_250 : decode cX6_two 250 = .ok (.ireturn, 1) := dq_172 (dq_w dwm_408 10 rfl)
theorem dX6_two_251 : decode cX6_two 251 = .ok (.iinc 5 1, 3) := dq_132 (dq_w dwm_408 11 rfl) (dq_w dwm_408 12 rfl) rfl (dq_w dwm_408 13 rfl) rfl
theorem dX6_two_254 : decode cX6_two 254 = .ok (.goto (-98), 3) := dq_167 (dq_w dwm_408 14 rfl) (dq_w dwm_408 15 rfl) (dq_w dwm_409 0 rfl) (dq_n (m := 98) rfl rfl)
theorem dX6_two_257 : decode cX6_two 257 = .ok (.bipush (-9), 2) := dq_16 (dq_w dwm_409 1 rfl) (dq_w dwm_409 2 rfl) rfl
theorem dX6_two_259 : decode cX6_two 259 = .ok (.ireturn, 1) := dq_172 (dq_w dwm_409 3 rfl)
theorem dwm_410 : (cX6_divisor.data.toList.drop 0).take 16 = [30, 55, 4, 32, 55, 6, 22, 6, 9, 148, 153, 0, 21, 22, 4, 22] := by decide +kernel
theorem dwm_411 : (cX6_divisor.data.toList.drop 16).take 16 = [6, 113, 55, 8, 22, 6, 55, 4, 22, 8, 55, 6, 167, 255, 234, 22] := by decide +kernel
theorem dwm_412 : (cX6_divisor.data.toList.drop 32).take 16 = [4, 173] := by decide +kernel
theorem dX6_divisor_0 : decode cX6_divisor 0 = .ok (.lload_n 0, 1) := dq_30 (dq_w dwm_410 0 rfl)
theorem dX6_divisor_1 : decode cX6_divisor 1 = .ok (.lstore 4, 2) := dq_55 (dq_w dwm_410 1 rfl) (dq_w dwm_410 2 rfl) rfl
theorem dX6_divisor_3 : decode cX6_divisor 3 = .ok (.lload_n 2, 1) := dq_32 (dq_w dwm_410 3 rfl)
theorem dX6_divisor_4 : decode cX6_divisor 4 = .ok (.lstore 6, 2) := dq_55 (dq_w dwm_410 4 rfl) (dq_w dwm_410 5 rfl) rfl
theorem dX6_divisor_6 : decode cX6_divisor 6 = .ok (.lload 6, 2) := dq_22 (dq_w dwm_410 6 rfl) (dq_w dwm_410 7 rfl) rfl
theorem dX6_divisor_8 : decode cX6_divisor 8 = .ok (.lconst 0, 1) := dq_9 (dq_w dwm_410 8 rfl)
theorem dX6_divisor_9 : decode cX6_divisor 9 = .ok (.lcmp, 1) := dq_148 (dq_w dwm_410 9 rfl)
theorem dX6_divisor_10 : decode cX6_divisor 10 = .ok (.ifCond .eq 21, 3) := dq_153 (dq_w dwm_410 10 rfl) (dq_w dwm_410 11 rfl) (dq_w dwm_410 12 rfl) (dq_p (n := 21) rfl rfl)
theorem dX6_divisor_13 : decode cX6_divisor 13 = .ok (.lload 4, 2) := dq_22 (dq_w dwm_410 13 rfl) (dq_w dwm_410 14 rfl) rfl
theorem dX6_divisor_15 : decode cX6_divisor 15 = .ok (.lload 6, 2) := dq_22 (dq_w dwm_410 15 rfl) (dq_w dwm_411 0 rfl) rfl
theorem dX6_divisor_17 : decode cX6_divisor 17 = .ok (.lrem, 1) := dq_113 (dq_w dwm_411 1 rfl)
theorem dX6_divisor_18 : decode cX6_divisor 18 = .ok (.lstore 8, 2) := dq_55 (dq_w dwm_411 2 rfl) (dq_w dwm_411 3 rfl) rfl
theorem dX6_divisor_20 : decode cX6_divisor 20 = .ok (.lload 6, 2) := dq_22 (dq_w dwm_411 4 rfl) (dq_w dwm_411 5 rfl) rfl
theorem dX6_divisor_22 : decode cX6_divisor 22 = .ok (.lstore 4, 2) := dq_55 (dq_w dwm_411 6 rfl) (dq_w dwm_411 7 rfl) rfl
theorem dX6_divisor_24 : decode cX6_divisor 24 = .ok (.lload 8, 2) := dq_22 (dq_w dwm_411 8 rfl) (dq_w dwm_411 9 rfl) rfl
theorem dX6_divisor_26 : decode cX6_divisor 26 = .ok (.lstore 6, 2) := dq_55 (dq_w dwm_411 10 rfl) (dq_w dwm_411 11 rfl) rfl
theorem dX6_divisor_28 : decode cX6_divisor 28 = .ok (.goto (-22), 3) := dq_167 (dq_w dwm_411 12 rfl) (dq_w dwm_411 13 rfl) (dq_w dwm_411 14 rfl) (dq_n (m := 22) rfl rfl)
theorem dX6_divisor_31 : decode cX6_divisor 31 = .ok (.lload 4, 2) := dq_22 (dq_w dwm_411 15 rfl) (dq_w dwm_412 0 rfl) rfl
theorem dX6_divisor_33 : decode cX6_divisor 33 = .ok (.lreturn, 1) := dq_173 (dq_w dwm_412 1 rfl)
theorem dwm_413 : (cX6_partOf.data.toList.drop 0).take 16 = [30, 9, 148, 154, 0, 7, 21, 4, 133, 173, 30, 32, 184, 1, 25, 55] := by decide +kernel
theorem dwm_414 : (cX6_partOf.data.toList.drop 16).take 16 = [5, 21, 4, 154, 0, 10, 30, 22, 5, 109, 167, 0, 7, 32, 22, 5] := by decide +kernel
theorem dwm_415 : (cX6_partOf.data.toList.drop 32).take 16 = [109, 173] := by decide +kernel
theorem dX6_partOf_0 : decode cX6_partOf 0 = .ok (.lload_n 0, 1) := dq_30 (dq_w dwm_413 0 rfl)
theorem dX6_partOf_1 : decode cX6_partOf 1 = .ok (.lconst 0, 1) := dq_9 (dq_w dwm_413 1 rfl)
theorem dX6_partOf_2 : decode cX6_partOf 2 = .ok (.lcmp, 1) := dq_148 (dq_w dwm_413 2 rfl)
theorem dX6_partOf_3 : decode cX6_partOf 3 = .ok (.ifCond .ne 7, 3) := dq_154 (dq_w dwm_413 3 rfl) (dq_w dwm_413 4 rfl) (dq_w dwm_413 5 rfl) (dq_p (n := 7) rfl rfl)
theorem dX6_partOf_6 : decode cX6_partOf 6 = .ok (.iload 4, 2) := dq_21 (dq_w dwm_413 6 rfl) (dq_w dwm_413 7 rfl) rfl
theorem dX6_partOf_8 : decode cX6_partOf 8 = .ok (.i2l, 1) := dq_133 (dq_w dwm_413 8 rfl)
theorem dX6_partOf_9 : decode cX6_partOf 9 = .ok (.lreturn, 1) := dq_173 (dq_w dwm_413 9 rfl)
theorem dX6_partOf_10 : decode cX6_partOf 10 = .ok (.lload_n 0, 1) := dq_30 (dq_w dwm_413 10 rfl)
theorem dX6_partOf_11 : decode cX6_partOf 11 = .ok (.lload_n 2, 1) := dq_32 (dq_w dwm_413 11 rfl)
theorem dX6_partOf_12 : decode cX6_partOf 12 = .ok (.invokestatic 281, 3) := dq_184 (dq_w dwm_413 12 rfl) (dq_w dwm_413 13 rfl) (dq_w dwm_413 14 rfl) rfl
theorem dX6_partOf_15 : decode cX6_partOf 15 = .ok (.lstore 5, 2) := dq_55 (dq_w dwm_413 15 rfl) (dq_w dwm_414 0 rfl) rfl
theorem dX6_partOf_17 : decode cX6_partOf 17 = .ok (.iload 4, 2) := dq_21 (dq_w dwm_414 1 rfl) (dq_w dwm_414 2 rfl) rfl
theorem dX6_partOf_19 : decode cX6_partOf 19 = .ok (.ifCond .ne 10, 3) := dq_154 (dq_w dwm_414 3 rfl) (dq_w dwm_414 4 rfl) (dq_w dwm_414 5 rfl) (dq_p (n := 10) rfl rfl)
theorem dX6_partOf_22 : decode cX6_partOf 22 = .ok (.lload_n 0, 1) := dq_30 (dq_w dwm_414 6 rfl)
theorem dX6_partOf_23 : decode cX6_partOf 23 = .ok (.lload 5, 2) := dq_22 (dq_w dwm_414 7 rfl) (dq_w dwm_414 8 rfl) rfl
theorem dX6_partOf_25 : decode cX6_partOf 25 = .ok (.ldiv, 1) := dq_109 (dq_w dwm_414 9 rfl)
theorem dX6_partOf_26 : decode cX6_partOf 26 = .ok (.goto 7, 3) := dq_167 (dq_w dwm_414 10 rfl) (dq_w dwm_414 11 rfl) (dq_w dwm_414 12 rfl) (dq_p (n := 7) rfl rfl)
theorem dX6_partOf_29 : decode cX6_partOf 29 = .ok (.lload_n 2, 1) := dq_32 (dq_w dwm_414 13 rfl)
theorem dX6_partOf_30 : decode cX6_partOf 30 = .ok (.lload 5, 2) := dq_22 (dq_w dwm_414 14 rfl) (dq_w dwm_414 15 rfl) rfl
theorem dX6_partOf_32 : decode cX6_partOf 32 = .ok (.ldiv, 1) := dq_109 (dq_w dwm_415 0 rfl)
theorem dX6_partOf_33 : decode cX6_partOf 33 = .ok (.lreturn, 1) := dq_173 (dq_w dwm_415 1 rfl)
theorem dwm_416 : (cX6_mist.data.toList.drop 0).take 16 = [42, 3, 181, 0, 79, 3, 54, 6, 42, 27, 28, 182, 0, 237, 156, 0] := by decide +kernel
theorem dwm_417 : (cX6_mist.data.toList.drop 16).take 16 = [9, 2, 54, 6, 167, 0, 37, 29, 155, 0, 9, 21, 4, 5, 162, 0] := by decide +kernel
theorem dwm_418 : (cX6_mist.data.toList.drop 32).take 16 = [10, 16, 252, 54, 6, 167, 0, 20, 29, 16, 7, 163, 0, 10, 21, 4] := by decide +kernel
theorem dwm_419 : (cX6_mist.data.toList.drop 48).take 16 = [16, 20, 164, 0, 7, 16, 250, 54, 6, 21, 6, 21, 5, 4, 184, 0] := by decide +kernel
theorem dwm_420 : (cX6_mist.data.toList.drop 64).take 16 = [250, 54, 6, 21, 6, 156, 0, 15, 20, 1, 29, 42, 21, 6, 182, 0] := by decide +kernel
theorem dwm_421 : (cX6_mist.data.toList.drop 80).take 16 = [143, 133, 101, 173, 9, 55, 7, 10, 55, 9, 3, 54, 11, 21, 11, 29] := by decide +kernel
theorem dwm_422 : (cX6_mist.data.toList.drop 96).take 16 = [162, 0, 17, 22, 9, 21, 4, 133, 105, 55, 9, 132, 11, 1, 167, 255] := by decide +kernel
theorem dwm_423 : (cX6_mist.data.toList.drop 112).take 16 = [239, 42, 182, 0, 196, 3, 54, 11, 21, 11, 4, 29, 120, 162, 0, 91] := by decide +kernel
theorem dwm_424 : (cX6_mist.data.toList.drop 128).take 16 = [10, 55, 12, 3, 54, 14, 21, 14, 29, 162, 0, 44, 22, 12, 21, 11] := by decide +kernel
theorem dwm_425 : (cX6_mist.data.toList.drop 144).take 16 = [21, 14, 184, 0, 131, 153, 0, 7, 10, 167, 0, 8, 21, 4, 4, 100] := by decide +kernel
theorem dwm_426 : (cX6_mist.data.toList.drop 160).take 16 = [133, 105, 55, 12, 42, 21, 11, 21, 14, 184, 0, 131, 182, 0, 135, 132] := by decide +kernel
theorem dwm_427 : (cX6_mist.data.toList.drop 176).take 16 = [14, 1, 167, 255, 212, 22, 7, 42, 180, 0, 31, 16, 7, 27, 104, 28] := by decide +kernel
theorem dwm_428 : (cX6_mist.data.toList.drop 192).take 16 = [96, 46, 158, 0, 8, 22, 12, 167, 0, 4, 9, 97, 55, 7, 42, 182] := by decide +kernel
theorem dwm_429 : (cX6_mist.data.toList.drop 208).take 16 = [0, 202, 132, 11, 1, 167, 255, 163, 22, 7, 22, 9, 21, 5, 184, 1] := by decide +kernel
theorem dwm_430 : (cX6_mist.data.toList.drop 224).take 16 = [31, 173] := by decide +kernel
theorem dX6_mist_0 : decode cX6_mist 0 = .ok (.aload_n 0, 1) := dq_42 (dq_w dwm_416 0 rfl)
theorem dX6_mist_1 : decode cX6_mist 1 = .ok (.iconst 0, 1) := dq_3 (dq_w dwm_416 1 rfl)
theorem dX6_mist_2 : decode cX6_mist 2 = .ok (.putfield 79, 3) := dq_181 (dq_w dwm_416 2 rfl) (dq_w dwm_416 3 rfl) (dq_w dwm_416 4 rfl) rfl
theorem dX6_mist_5 : decode cX6_mist 5 = .ok (.iconst 0, 1) := dq_3 (dq_w dwm_416 5 rfl)
theorem dX6_mist_6 : decode cX6_mist 6 = .ok (.istore 6, 2) := dq_54 (dq_w dwm_416 6 rfl) (dq_w dwm_416 7 rfl) rfl
theorem dX6_mist_8 : decode cX6_mist 8 = .ok (.aload_n 0, 1) := dq_42 (dq_w dwm_416 8 rfl)
theorem dX6_mist_9 : decode cX6_mist 9 = .ok (.iload_n 1, 1) := dq_27 (dq_w dwm_416 9 rfl)
theorem dX6_mist_10 : decode cX6_mist 10 = .ok (.iload_n 2, 1) := dq_28 (dq_w dwm_416 10 rfl)
theorem dX6_mist_11 : decode cX6_mist 11 = .ok (.invokevirtual 237, 3) := dq_182 (dq_w dwm_416 11 rfl) (dq_w dwm_416 12 rfl) (dq_w dwm_416 13 rfl) rfl
theorem dX6_mist_14 : decode cX6_mist 14 = .ok (.ifCond .ge 9, 3) := dq_156 (dq_w dwm_416 14 rfl) (dq_w dwm_416 15 rfl) (dq_w dwm_417 0 rfl) (dq_p (n := 9) rfl rfl)
theorem dX6_mist_17 : decode cX6_mist 17 = .ok (.iconst (-1), 1) := dq_2 (dq_w dwm_417 1 rfl)
theorem dX6_mist_18 : decode cX6_mist 18 = .ok (.istore 6, 2) := dq_54 (dq_w dwm_417 2 rfl) (dq_w dwm_417 3 rfl) rfl
theorem dX6_mist_20 : decode cX6_mist 20 = .ok (.goto 37, 3) := dq_167 (dq_w dwm_417 4 rfl) (dq_w dwm_417 5 rfl) (dq_w dwm_417 6 rfl) (dq_p (n := 37) rfl rfl)
theorem dX6_mist_23 : decode cX6_mist 23 = .ok (.iload_n 3, 1) := dq_29 (dq_w dwm_417 7 rfl)
theorem dX6_mist_24 : decode cX6_mist 24 = .ok (.ifCond .lt 9, 3) := dq_155 (dq_w dwm_417 8 rfl) (dq_w dwm_417 9 rfl) (dq_w dwm_417 10 rfl) (dq_p (n := 9) rfl rfl)
theorem dX6_mist_27 : decode cX6_mist 27 = .ok (.iload 4, 2) := dq_21 (dq_w dwm_417 11 rfl) (dq_w dwm_417 12 rfl) rfl
theorem dX6_mist_29 : decode cX6_mist 29 = .ok (.iconst 2, 1) := dq_5 (dq_w dwm_417 13 rfl)
theorem dX6_mist_30 : decode cX6_mist 30 = .ok (.if_icmp .ge 10, 3) := dq_162 (dq_w dwm_417 14 rfl) (dq_w dwm_417 15 rfl) (dq_w dwm_418 0 rfl) (dq_p (n := 10) rfl rfl)
theorem dX6_mist_33 : decode cX6_mist 33 = .ok (.bipush (-4), 2) := dq_16 (dq_w dwm_418 1 rfl) (dq_w dwm_418 2 rfl) rfl
theorem dX6_mist_35 : decode cX6_mist 35 = .ok (.istore 6, 2) := dq_54 (dq_w dwm_418 3 rfl) (dq_w dwm_418 4 rfl) rfl
theorem dX6_mist_37 : decode cX6_mist 37 = .ok (.goto 20, 3) := dq_167 (dq_w dwm_418 5 rfl) (dq_w dwm_418 6 rfl) (dq_w dwm_418 7 rfl) (dq_p (n := 20) rfl rfl)
theorem dX6_mist_40 : decode cX6_mist 40 = .ok (.iload_n 3, 1) := dq_29 (dq_w dwm_418 8 rfl)
theorem dX6_mist_41 : decode cX6_mist 41 = .ok (.bipush 7, 2) := dq_16 (dq_w dwm_418 9 rfl) (dq_w dwm_418 10 rfl) rfl
theorem dX6_mist_43 : decode cX6_mist 43 = .ok (.if_icmp .gt 10, 3) := dq_163 (dq_w dwm_418 11 rfl) (dq_w dwm_418 12 rfl) (dq_w dwm_418 13 rfl) (dq_p (n := 10) rfl rfl)
theorem dX6_mist_46 : decode cX6_mist 46 = .ok (.iload 4, 2) := dq_21 (dq_w dwm_418 14 rfl) (dq_w dwm_418 15 rfl) rfl
theorem dX6_mist_48 : decode cX6_mist 48 = .ok (.bipush 20, 2) := dq_16 (dq_w dwm_419 0 rfl) (dq_w dwm_419 1 rfl) rfl
theorem dX6_mist_50 : decode cX6_mist 50 = .ok (.if_icmp .le 7, 3) := dq_164 (dq_w dwm_419 2 rfl) (dq_w dwm_419 3 rfl) (dq_w dwm_419 4 rfl) (dq_p (n := 7) rfl rfl)
theorem dX6_mist_53 : decode cX6_mist 53 = .ok (.bipush (-6), 2) := dq_16 (dq_w dwm_419 5 rfl) (dq_w dwm_419 6 rfl) rfl
theorem dX6_mist_55 : decode cX6_mist 55 = .ok (.istore 6, 2) := dq_54 (dq_w dwm_419 7 rfl) (dq_w dwm_419 8 rfl) rfl
theorem dX6_mist_57 : decode cX6_mist 57 = .ok (.iload 6, 2) := dq_21 (dq_w dwm_419 9 rfl) (dq_w dwm_419 10 rfl) rfl
theorem dX6_mist_59 : decode cX6_mist 59 = .ok (.iload 5, 2) := dq_21 (dq_w dwm_419 11 rfl) (dq_w dwm_419 12 rfl) rfl
theorem dX6_mist_61 : decode cX6_mist 61 = .ok (.iconst 1, 1) := dq_4 (dq_w dwm_419 13 rfl)
theorem dX6_mist_62 : decode cX6_mist 62 = .ok (.invokestatic 250, 3) := dq_184 (dq_w dwm_419 14 rfl) (dq_w dwm_419 15 rfl) (dq_w dwm_420 0 rfl) rfl
theorem dX6_mist_65 : decode cX6_mist 65 = .ok (.istore 6, 2) := dq_54 (dq_w dwm_420 1 rfl) (dq_w dwm_420 2 rfl) rfl
theorem dX6_mist_67 : decode cX6_mist 67 = .ok (.iload 6, 2) := dq_21 (dq_w dwm_420 3 rfl) (dq_w dwm_420 4 rfl) rfl
theorem dX6_mist_69 : decode cX6_mist 69 = .ok (.ifCond .ge 15, 3) := dq_156 (dq_w dwm_420 5 rfl) (dq_w dwm_420 6 rfl) (dq_w dwm_420 7 rfl) (dq_p (n := 15) rfl rfl)
theorem dX6_mist_72 : decode cX6_mist 72 = .ok (.ldc2_w 285, 3) := dq_20 (dq_w dwm_420 8 rfl) (dq_w dwm_420 9 rfl) (dq_w dwm_420 10 rfl) rfl
theorem dX6_mist_75 : decode cX6_mist 75 = .ok (.aload_n 0, 1) := dq_42 (dq_w dwm_420 11 rfl)
theorem dX6_mist_76 : decode cX6_mist 76 = .ok (.iload 6, 2) := dq_21 (dq_w dwm_420 12 rfl) (dq_w dwm_420 13 rfl) rfl
theorem dX6_mist_78 : decode cX6_mist 78 = .ok (.invokevirtual 143, 3) := dq_182 (dq_w dwm_420 14 rfl) (dq_w dwm_420 15 rfl) (dq_w dwm_421 0 rfl) rfl
theorem dX6_mist_81 : decode cX6_mist 81 = .ok (.i2l, 1) := dq_133 (dq_w dwm_421 1 rfl)
theorem dX6_mist_82 : decode cX6_mist 82 = .ok (.lsub, 1) := dq_101 (dq_w dwm_421 2 rfl)
theorem dX6_mist_83 : decode cX6_mist 83 = .ok (.lreturn, 1) := dq_173 (dq_w dwm_421 3 rfl)
theorem dX6_mist_84 : decode cX6_mist 84 = .ok (.lconst 0, 1) := dq_9 (dq_w dwm_421 4 rfl)
theorem dX6_mist_85 : decode cX6_mist 85 = .ok (.lstore 7, 2) := dq_55 (dq_w dwm_421 5 rfl) (dq_w dwm_421 6 rfl) rfl
theorem dX6_mist_87 : decode cX6_mist 87 = .ok (.lconst 1, 1) := dq_10 (dq_w dwm_421 7 rfl)
theorem dX6_mist_88 : decode cX6_mist 88 = .ok (.lstore 9, 2) := dq_55 (dq_w dwm_421 8 rfl) (dq_w dwm_421 9 rfl) rfl
theorem dX6_mist_90 : decode cX6_mist 90 = .ok (.iconst 0, 1) := dq_3 (dq_w dwm_421 10 rfl)
theorem dX6_mist_91 : decode cX6_mist 91 = .ok (.istore 11, 2) := dq_54 (dq_w dwm_421 11 rfl) (dq_w dwm_421 12 rfl) rfl
theorem dX6_mist_93 : decode cX6_mist 93 = .ok (.iload 11, 2) := dq_21 (dq_w dwm_421 13 rfl) (dq_w dwm_421 14 rfl) rfl
theorem dX6_mist_95 : decode cX6_mist 95 = .ok (.iload_n 3, 1) := dq_29 (dq_w dwm_421 15 rfl)
theorem dX6_mist_96 : decode cX6_mist 96 = .ok (.if_icmp .ge 17, 3) := dq_162 (dq_w dwm_422 0 rfl) (dq_w dwm_422 1 rfl) (dq_w dwm_422 2 rfl) (dq_p (n := 17) rfl rfl)
theorem dX6_mist_99 : decode cX6_mist 99 = .ok (.lload 9, 2) := dq_22 (dq_w dwm_422 3 rfl) (dq_w dwm_422 4 rfl) rfl
theorem dX6_mist_101 : decode cX6_mist 101 = .ok (.iload 4, 2) := dq_21 (dq_w dwm_422 5 rfl) (dq_w dwm_422 6 rfl) rfl
theorem dX6_mist_103 : decode cX6_mist 103 = .ok (.i2l, 1) := dq_133 (dq_w dwm_422 7 rfl)
theorem dX6_mist_104 : decode cX6_mist 104 = .ok (.lmul, 1) := dq_105 (dq_w dwm_422 8 rfl)
theorem dX6_mist_105 : decode cX6_mist 105 = .ok (.lstore 9, 2) := dq_55 (dq_w dwm_422 9 rfl) (dq_w dwm_422 10 rfl) rfl
theorem dX6_mist_107 : decode cX6_mist 107 = .ok (.iinc 11 1, 3) := dq_132 (dq_w dwm_422 11 rfl) (dq_w dwm_422 12 rfl) rfl (dq_w dwm_422 13 rfl) rfl
theorem dX6_mist_110 : decode cX6_mist 110 = .ok (.goto (-17), 3) := dq_167 (dq_w dwm_422 14 rfl) (dq_w dwm_422 15 rfl) (dq_w dwm_423 0 rfl) (dq_n (m := 17) rfl rfl)
theorem dX6_mist_113 : decode cX6_mist 113 = .ok (.aload_n 0, 1) := dq_42 (dq_w dwm_423 1 rfl)
theorem dX6_mist_114 : decode cX6_mist 114 = .ok (.invokevirtual 196, 3) := dq_182 (dq_w dwm_423 2 rfl) (dq_w dwm_423 3 rfl) (dq_w dwm_423 4 rfl) rfl
theorem dX6_mist_117 : decode cX6_mist 117 = .ok (.iconst 0, 1) := dq_3 (dq_w dwm_423 5 rfl)
theorem dX6_mist_118 : decode cX6_mist 118 = .ok (.istore 11, 2) := dq_54 (dq_w dwm_423 6 rfl) (dq_w dwm_423 7 rfl) rfl
theorem dX6_mist_120 : decode cX6_mist 120 = .ok (.iload 11, 2) := dq_21 (dq_w dwm_423 8 rfl) (dq_w dwm_423 9 rfl) rfl
theorem dX6_mist_122 : decode cX6_mist 122 = .ok (.iconst 1, 1) := dq_4 (dq_w dwm_423 10 rfl)
theorem dX6_mist_123 : decode cX6_mist 123 = .ok (.iload_n 3, 1) := dq_29 (dq_w dwm_423 11 rfl)
theorem dX6_mist_124 : decode cX6_mist 124 = .ok (.ishl, 1) := dq_120 (dq_w dwm_423 12 rfl)
theorem dX6_mist_125 : decode cX6_mist 125 = .ok (.if_icmp .ge 91, 3) := dq_162 (dq_w dwm_423 13 rfl) (dq_w dwm_423 14 rfl) (dq_w dwm_423 15 rfl) (dq_p (n := 91) rfl rfl)
theorem dX6_mist_128 : decode cX6_mist 128 = .ok (.lconst 1, 1) := dq_10 (dq_w dwm_424 0 rfl)
theorem dX6_mist_129 : decode cX6_mist 129 = .ok (.lstore 12, 2) := dq_55 (dq_w dwm_424 1 rfl) (dq_w dwm_424 2 rfl) rfl
theorem dX6_mist_131 : decode cX6_mist 131 = .ok (.iconst 0, 1) := dq_3 (dq_w dwm_424 3 rfl)
theorem dX6_mist_132 : decode cX6_mist 132 = .ok (.istore 14, 2) := dq_54 (dq_w dwm_424 4 rfl) (dq_w dwm_424 5 rfl) rfl
theorem dX6_mist_134 : decode cX6_mist 134 = .ok (.iload 14, 2) := dq_21 (dq_w dwm_424 6 rfl) (dq_w dwm_424 7 rfl) rfl
theorem dX6_mist_136 : decode cX6_mist 136 = .ok (.iload_n 3, 1) := dq_29 (dq_w dwm_424 8 rfl)
theorem dX6_mist_137 : decode cX6_mist 137 = .ok (.if_icmp .ge 44, 3) := dq_162 (dq_w dwm_424 9 rfl) (dq_w dwm_424 10 rfl) (dq_w dwm_424 11 rfl) (dq_p (n := 44) rfl rfl)
theorem dX6_mist_140 : decode cX6_mist 140 = .ok (.lload 12, 2) := dq_22 (dq_w dwm_424 12 rfl) (dq_w dwm_424 13 rfl) rfl
theorem dX6_mist_142 : decode cX6_mist 142 = .ok (.iload 11, 2) := dq_21 (dq_w dwm_424 14 rfl) (dq_w dwm_424 15 rfl) rfl
theorem dX6_mist_144 : decode cX6_mist 144 = .ok (.iload 14, 2) := dq_21 (dq_w dwm_425 0 rfl) (dq_w dwm_425 1 rfl) rfl
theorem dX6_mist_146 : decode cX6_mist 146 = .ok (.invokestatic 131, 3) := dq_184 (dq_w dwm_425 2 rfl) (dq_w dwm_425 3 rfl) (dq_w dwm_425 4 rfl) rfl
theorem dX6_mist_149 : decode cX6_mist 149 = .ok (.ifCond .eq 7, 3) := dq_153 (dq_w dwm_425 5 rfl) (dq_w dwm_425 6 rfl) (dq_w dwm_425 7 rfl) (dq_p (n := 7) rfl rfl)
theorem dX6_mist_152 : decode cX6_mist 152 = .ok (.lconst 1, 1) := dq_10 (dq_w dwm_425 8 rfl)
theorem dX6_mist_153 : decode cX6_mist 153 = .ok (.goto 8, 3) := dq_167 (dq_w dwm_425 9 rfl) (dq_w dwm_425 10 rfl) (dq_w dwm_425 11 rfl) (dq_p (n := 8) rfl rfl)
theorem dX6_mist_156 : decode cX6_mist 156 = .ok (.iload 4, 2) := dq_21 (dq_w dwm_425 12 rfl) (dq_w dwm_425 13 rfl) rfl
theorem dX6_mist_158 : decode cX6_mist 158 = .ok (.iconst 1, 1) := dq_4 (dq_w dwm_425 14 rfl)
theorem dX6_mist_159 : decode cX6_mist 159 = .ok (.isub, 1) := dq_100 (dq_w dwm_425 15 rfl)
theorem dX6_mist_160 : decode cX6_mist 160 = .ok (.i2l, 1) := dq_133 (dq_w dwm_426 0 rfl)
theorem dX6_mist_161 : decode cX6_mist 161 = .ok (.lmul, 1) := dq_105 (dq_w dwm_426 1 rfl)
theorem dX6_mist_162 : decode cX6_mist 162 = .ok (.lstore 12, 2) := dq_55 (dq_w dwm_426 2 rfl) (dq_w dwm_426 3 rfl) rfl
theorem dX6_mist_164 : decode cX6_mist 164 = .ok (.aload_n 0, 1) := dq_42 (dq_w dwm_426 4 rfl)
theorem dX6_mist_165 : decode cX6_mist 165 = .ok (.iload 11, 2) := dq_21 (dq_w dwm_426 5 rfl) (dq_w dwm_426 6 rfl) rfl
theorem dX6_mist_167 : decode cX6_mist 167 = .ok (.iload 14, 2) := dq_21 (dq_w dwm_426 7 rfl) (dq_w dwm_426 8 rfl) rfl
theorem dX6_mist_169 : decode cX6_mist 169 = .ok (.invokestatic 131, 3) := dq_184 (dq_w dwm_426 9 rfl) (dq_w dwm_426 10 rfl) (dq_w dwm_426 11 rfl) rfl
theorem dX6_mist_172 : decode cX6_mist 172 = .ok (.invokevirtual 135, 3) := dq_182 (dq_w dwm_426 12 rfl) (dq_w dwm_426 13 rfl) (dq_w dwm_426 14 rfl) rfl
theorem dX6_mist_175 : decode cX6_mist 175 = .ok (.iinc 14 1, 3) := dq_132 (dq_w dwm_426 15 rfl) (dq_w dwm_427 0 rfl) rfl (dq_w dwm_427 1 rfl) rfl
theorem dX6_mist_178 : decode cX6_mist 178 = .ok (.goto (-44), 3) := dq_167 (dq_w dwm_427 2 rfl) (dq_w dwm_427 3 rfl) (dq_w dwm_427 4 rfl) (dq_n (m := 44) rfl rfl)
theorem dX6_mist_181 : decode cX6_mist 181 = .ok (.lload 7, 2) := dq_22 (dq_w dwm_427 5 rfl) (dq_w dwm_427 6 rfl) rfl
theorem dX6_mist_183 : decode cX6_mist 183 = .ok (.aload_n 0, 1) := dq_42 (dq_w dwm_427 7 rfl)
theorem dX6_mist_184 : decode cX6_mist 184 = .ok (.getfield 31, 3) := dq_180 (dq_w dwm_427 8 rfl) (dq_w dwm_427 9 rfl) (dq_w dwm_427 10 rfl) rfl
theorem dX6_mist_187 : decode cX6_mist 187 = .ok (.bipush 7, 2) := dq_16 (dq_w dwm_427 11 rfl) (dq_w dwm_427 12 rfl) rfl
theorem dX6_mist_189 : decode cX6_mist 189 = .ok (.iload_n 1, 1) := dq_27 (dq_w dwm_427 13 rfl)
theorem dX6_mist_190 : decode cX6_mist 190 = .ok (.imul, 1) := dq_104 (dq_w dwm_427 14 rfl)
theorem dX6_mist_191 : decode cX6_mist 191 = .ok (.iload_n 2, 1) := dq_28 (dq_w dwm_427 15 rfl)
theorem dX6_mist_192 : decode cX6_mist 192 = .ok (.iadd, 1) := dq_96 (dq_w dwm_428 0 rfl)
theorem dX6_mist_193 : decode cX6_mist 193 = .ok (.iaload, 1) := dq_46 (dq_w dwm_428 1 rfl)
theorem dX6_mist_194 : decode cX6_mist 194 = .ok (.ifCond .le 8, 3) := dq_158 (dq_w dwm_428 2 rfl) (dq_w dwm_428 3 rfl) (dq_w dwm_428 4 rfl) (dq_p (n := 8) rfl rfl)
theorem dX6_mist_197 : decode cX6_mist 197 = .ok (.lload 12, 2) := dq_22 (dq_w dwm_428 5 rfl) (dq_w dwm_428 6 rfl) rfl
theorem dX6_mist_199 : decode cX6_mist 199 = .ok (.goto 4, 3) := dq_167 (dq_w dwm_428 7 rfl) (dq_w dwm_428 8 rfl) (dq_w dwm_428 9 rfl) (dq_p (n := 4) rfl rfl)
theorem dX6_mist_202 : decode cX6_mist 202 = .ok (.lconst 0, 1) := dq_9 (dq_w dwm_428 10 rfl)
theorem dX6_mist_203 : decode cX6_mist 203 = .ok (.ladd, 1) := dq_97 (dq_w dwm_428 11 rfl)
theorem dX6_mist_204 : decode cX6_mist 204 = .ok (.lstore 7, 2) := dq_55 (dq_w dwm_428 12 rfl) (dq_w dwm_428 13 rfl) rfl
theorem dX6_mist_206 : decode cX6_mist 206 = .ok (.aload_n 0, 1) := dq_42 (dq_w dwm_428 14 rfl)
theorem dX6_mist_207 : decode cX6_mist 207 = .ok (.invokevirtual 202, 3) := dq_182 (dq_w dwm_428 15 rfl) (dq_w dwm_429 0 rfl) (dq_w dwm_429 1 rfl) rfl
theorem dX6_mist_210 : decode cX6_mist 210 = .ok (.iinc 11 1, 3) := dq_132 (dq_w dwm_429 2 rfl) (dq_w dwm_429 3 rfl) rfl (dq_w dwm_429 4 rfl) rfl
theorem dX6_mist_213 : decode cX6_mist 213 = .ok (.goto (-93), 3) := dq_167 (dq_w dwm_429 5 rfl) (dq_w dwm_429 6 rfl) (dq_w dwm_429 7 rfl) (dq_n (m := 93) rfl rfl)
theorem dX6_mist_216 : decode cX6_mist 216 = .ok (.lload 7, 2) := dq_22 (dq_w dwm_429 8 rfl) (dq_w dwm_429 9 rfl) rfl
theorem dX6_mist_218 : decode cX6_mist 218 = .ok (.lload 9, 2) := dq_22 (dq_w dwm_429 10 rfl) (dq_w dwm_429 11 rfl) rfl
theorem dX6_mist_220 : decode cX6_mist 220 = .ok (.iload 5, 2) := dq_21 (dq_w dwm_429 12 rfl) (dq_w dwm_429 13 rfl) rfl
theorem dX6_mist_222 : decode cX6_mist 222 = .ok (.invokestatic 287, 3) := dq_184 (dq_w dwm_429 14 rfl) (dq_w dwm_429 15 rfl) (dq_w dwm_430 0 rfl) rfl
theorem dX6_mist_225 : decode cX6_mist 225 = .ok (.lreturn, 1) := dq_173 (dq_w dwm_430 1 rfl)
theorem dwm_431 : (cX6_oldestAge.data.toList.drop 0).take 16 = [3, 60, 3, 61, 28, 42, 180, 0, 92, 162, 0, 56, 3, 62, 29, 42] := by decide +kernel
theorem dwm_432 : (cX6_oldestAge.data.toList.drop 16).take 16 = [180, 0, 89, 162, 0, 40, 42, 180, 0, 31, 16, 7, 28, 104, 29, 96] := by decide +kernel
theorem dwm_433 : (cX6_oldestAge.data.toList.drop 32).take 16 = [46, 27, 164, 0, 17, 42, 180, 0, 31, 16, 7, 28, 104, 29, 96, 46] := by decide +kernel
theorem dwm_434 : (cX6_oldestAge.data.toList.drop 48).take 16 = [167, 0, 4, 27, 60, 132, 3, 1, 167, 255, 214, 132, 2, 1, 167, 255] := by decide +kernel
theorem dwm_435 : (cX6_oldestAge.data.toList.drop 64).take 16 = [198, 27, 172] := by decide +kernel
theorem dX6_oldestAge_0 : decode cX6_oldestAge 0 = .ok (.iconst 0, 1) := dq_3 (dq_w dwm_431 0 rfl)
theorem dX6_oldestAge_1 : decode cX6_oldestAge 1 = .ok (.istore_n 1, 1) := dq_60 (dq_w dwm_431 1 rfl)
theorem dX6_oldestAge_2 : decode cX6_oldestAge 2 = .ok (.iconst 0, 1) := dq_3 (dq_w dwm_431 2 rfl)
theorem dX6_oldestAge_3 : decode cX6_oldestAge 3 = .ok (.istore_n 2, 1) := dq_61 (dq_w dwm_431 3 rfl)
theorem dX6_oldestAge_4 : decode cX6_oldestAge 4 = .ok (.iload_n 2, 1) := dq_28 (dq_w dwm_431 4 rfl)
theorem dX6_oldestAge_5 : decode cX6_oldestAge 5 = .ok (.aload_n 0, 1) := dq_42 (dq_w dwm_431 5 rfl)
theorem dX6_oldestAge_6 : decode cX6_oldestAge 6 = .ok (.getfield 92, 3) := dq_180 (dq_w dwm_431 6 rfl) (dq_w dwm_431 7 rfl) (dq_w dwm_431 8 rfl) rfl
theorem dX6_oldestAge_9 : decode cX6_oldestAge 9 = .ok (.if_icmp .ge 56, 3) := dq_162 (dq_w dwm_431 9 rfl) (dq_w dwm_431 10 rfl) (dq_w dwm_431 11 rfl) (dq_p (n := 56) rfl rfl)
theorem dX6_oldestAge_12 : decode cX6_oldestAge 12 = .ok (.iconst 0, 1) := dq_3 (dq_w dwm_431 12 rfl)
theorem dX6_oldestAge_13 : decode cX6_oldestAge 13 = .ok (.istore_n 3, 1) := dq_62 (dq_w dwm_431 13 rfl)
theorem dX6_oldestAge_14 : decode cX6_oldestAge 14 = .ok (.iload_n 3, 1) := dq_29 (dq_w dwm_431 14 rfl)
theorem dX6_oldestAge_15 : decode cX6_oldestAge 15 = .ok (.aload_n 0, 1) := dq_42 (dq_w dwm_431 15 rfl)
theorem dX6_oldestAge_16 : decode cX6_oldestAge 16 = .ok (.getfield 89, 3) := dq_180 (dq_w dwm_432 0 rfl) (dq_w dwm_432 1 rfl) (dq_w dwm_432 2 rfl) rfl
theorem dX6_oldestAge_19 : decode cX6_oldestAge 19 = .ok (.if_icmp .ge 40, 3) := dq_162 (dq_w dwm_432 3 rfl) (dq_w dwm_432 4 rfl) (dq_w dwm_432 5 rfl) (dq_p (n := 40) rfl rfl)
theorem dX6_oldestAge_22 : decode cX6_oldestAge 22 = .ok (.aload_n 0, 1) := dq_42 (dq_w dwm_432 6 rfl)
theorem dX6_oldestAge_23 : decode cX6_oldestAge 23 = .ok (.getfield 31, 3) := dq_180 (dq_w dwm_432 7 rfl) (dq_w dwm_432 8 rfl) (dq_w dwm_432 9 rfl) rfl
theorem dX6_oldestAge_26 : decode cX6_oldestAge 26 = .ok (.bipush 7, 2) := dq_16 (dq_w dwm_432 10 rfl) (dq_w dwm_432 11 rfl) rfl
theorem dX6_oldestAge_28 : decode cX6_oldestAge 28 = .ok (.iload_n 2, 1) := dq_28 (dq_w dwm_432 12 rfl)
theorem dX6_oldestAge_29 : decode cX6_oldestAge 29 = .ok (.imul, 1) := dq_104 (dq_w dwm_432 13 rfl)
theorem dX6_oldestAge_30 : decode cX6_oldestAge 30 = .ok (.iload_n 3, 1) := dq_29 (dq_w dwm_432 14 rfl)
theorem dX6_oldestAge_31 : decode cX6_oldestAge 31 = .ok (.iadd, 1) := dq_96 (dq_w dwm_432 15 rfl)
theorem dX6_oldestAge_32 : decode cX6_oldestAge 32 = .ok (.iaload, 1) := dq_46 (dq_w dwm_433 0 rfl)
theorem dX6_oldestAge_33 : decode cX6_oldestAge 33 = .ok (.iload_n 1, 1) := dq_27 (dq_w dwm_433 1 rfl)
theorem dX6_oldestAge_34 : decode cX6_oldestAge 34 = .ok (.if_icmp .le 17, 3) := dq_164 (dq_w dwm_433 2 rfl) (dq_w dwm_433 3 rfl) (dq_w dwm_433 4 rfl) (dq_p (n := 17) rfl rfl)
theorem dX6_oldestAge_37 : decode cX6_oldestAge 37 = .ok (.aload_n 0, 1) := dq_42 (dq_w dwm_433 5 rfl)
theorem dX6_oldestAge_38 : decode cX6_oldestAge 38 = .ok (.getfield 31, 3) := dq_180 (dq_w dwm_433 6 rfl) (dq_w dwm_433 7 rfl) (dq_w dwm_433 8 rfl) rfl
theorem dX6_oldestAge_41 : decode cX6_oldestAge 41 = .ok (.bipush 7, 2) := dq_16 (dq_w dwm_433 9 rfl) (dq_w dwm_433 10 rfl) rfl
theorem dX6_oldestAge_43 : decode cX6_oldestAge 43 = .ok (.iload_n 2, 1) := dq_28 (dq_w dwm_433 11 rfl)
theorem dX6_oldestAge_44 : decode cX6_oldestAge 44 = .ok (.imul, 1) := dq_104 (dq_w dwm_433 12 rfl)
theorem dX6_oldestAge_45 : decode cX6_oldestAge 45 = .ok (.iload_n 3, 1) := dq_29 (dq_w dwm_433 13 rfl)
theorem dX6_oldestAge_46 : decode cX6_oldestAge 46 = .ok (.iadd, 1) := dq_96 (dq_w dwm_433 14 rfl)
theorem dX6_oldestAge_47 : decode cX6_oldestAge 47 = .ok (.iaload, 1) := dq_46 (dq_w dwm_433 15 rfl)
theorem dX6_oldestAge_48 : decode cX6_oldestAge 48 = .ok (.goto 4, 3) := dq_167 (dq_w dwm_434 0 rfl) (dq_w dwm_434 1 rfl) (dq_w dwm_434 2 rfl) (dq_p (n := 4) rfl rfl)
theorem dX6_oldestAge_51 : decode cX6_oldestAge 51 = .ok (.iload_n 1, 1) := dq_27 (dq_w dwm_434 3 rfl)
theorem dX6_oldestAge_52 : decode cX6_oldestAge 52 = .ok (.istore_n 1, 1) := dq_60 (dq_w dwm_434 4 rfl)
theorem dX6_oldestAge_53 : decode cX6_oldestAge 53 = .ok (.iinc 3 1, 3) := dq_132 (dq_w dwm_434 5 rfl) (dq_w dwm_434 6 rfl) rfl (dq_w dwm_434 7 rfl) rfl
theorem dX6_oldestAge_56 : decode cX6_oldestAge 56 = .ok (.goto (-42), 3) := dq_167 (dq_w dwm_434 8 rfl) (dq_w dwm_434 9 rfl) (dq_w dwm_434 10 rfl) (dq_n (m := 42) rfl rfl)
theorem dX6_oldestAge_59 : decode cX6_oldestAge 59 = .ok (.iinc 2 1, 3) := dq_132 (dq_w dwm_434 11 rfl) (dq_w dwm_434 12 rfl) rfl (dq_w dwm_434 13 rfl) rfl
theorem dX6_oldestAge_62 : decode cX6_oldestAge 62 = .ok (.goto (-58), 3) := dq_167 (dq_w dwm_434 14 rfl) (dq_w dwm_434 15 rfl) (dq_w dwm_435 0 rfl) (dq_n (m := 58) rfl rfl)
theorem dX6_oldestAge_65 : decode cX6_oldestAge 65 = .ok (.iload_n 1, 1) := dq_27 (dq_w dwm_435 1 rfl)
theorem dX6_oldestAge_66 : decode cX6_oldestAge 66 = .ok (.ireturn, 1) := dq_172 (dq_w dwm_435 2 rfl)
theorem dwm_436 : (cX6_oldestBy.data.toList.drop 0).take 16 = [42, 182, 1, 35, 60, 3, 61, 28, 42, 180, 0, 92, 162, 0, 46, 27] := by decide +kernel
theorem dwm_437 : (cX6_oldestBy.data.toList.drop 16).take 16 = [158, 0, 42, 3, 62, 29, 42, 180, 0, 89, 162, 0, 26, 42, 180, 0] := by decide +kernel
theorem dwm_438 : (cX6_oldestBy.data.toList.drop 32).take 16 = [31, 16, 7, 28, 104, 29, 96, 46, 27, 160, 0, 5, 28, 172, 132, 3] := by decide +kernel
theorem dwm_439 : (cX6_oldestBy.data.toList.drop 48).take 16 = [1, 167, 255, 228, 132, 2, 1, 167, 255, 208, 16, 247, 172] := by decide +kernel
theorem dX6_oldestBy_0 : decode cX6_oldestBy 0 = .ok (.aload_n 0, 1) := dq_42 (dq_w dwm_436 0 rfl)
theorem dX6_oldestBy_1 : decode cX6_oldestBy 1 = .ok (.invokevirtual 291, 3) := dq_182 (dq_w dwm_436 1 rfl) (dq_w dwm_436 2 rfl) (dq_w dwm_436 3 rfl) rfl
theorem dX6_oldestBy_4 : decode cX6_oldestBy 4 = .ok (.istore_n 1, 1) := dq_60 (dq_w dwm_436 4 rfl)
theorem dX6_oldestBy_5 : decode cX6_oldestBy 5 = .ok (.iconst 0, 1) := dq_3 (dq_w dwm_436 5 rfl)
theorem dX6_oldestBy_6 : decode cX6_oldestBy 6 = .ok (.istore_n 2, 1) := dq_61 (dq_w dwm_436 6 rfl)
theorem dX6_oldestBy_7 : decode cX6_oldestBy 7 = .ok (.iload_n 2, 1) := dq_28 (dq_w dwm_436 7 rfl)
theorem dX6_oldestBy_8 : decode cX6_oldestBy 8 = .ok (.aload_n 0, 1) := dq_42 (dq_w dwm_436 8 rfl)
theorem dX6_oldestBy_9 : decode cX6_oldestBy 9 = .ok (.getfield 92, 3) := dq_180 (dq_w dwm_436 9 rfl) (dq_w dwm_436 10 rfl) (dq_w dwm_436 11 rfl) rfl
theorem dX6_oldestBy_12 : decode cX6_oldestBy 12 = .ok (.if_icmp .ge 46, 3) := dq_162 (dq_w dwm_436 12 rfl) (dq_w dwm_436 13 rfl) (dq_w dwm_436 14 rfl) (dq_p (n := 46) rfl rfl)
theorem dX6_oldestBy_15 : decode cX6_oldestBy 15 = .ok (.iload_n 1, 1) := dq_27 (dq_w dwm_436 15 rfl)
theorem dX6_oldestBy_16 : decode cX6_oldestBy 16 = .ok (.ifCond .le 42, 3) := dq_158 (dq_w dwm_437 0 rfl) (dq_w dwm_437 1 rfl) (dq_w dwm_437 2 rfl) (dq_p (n := 42) rfl rfl)
theorem dX6_oldestBy_19 : decode cX6_oldestBy 19 = .ok (.iconst 0, 1) := dq_3 (dq_w dwm_437 3 rfl)
theorem dX6_oldestBy_20 : decode cX6_oldestBy 20 = .ok (.istore_n 3, 1) := dq_62 (dq_w dwm_437 4 rfl)
theorem dX6_oldestBy_21 : decode cX6_oldestBy 21 = .ok (.iload_n 3, 1) := dq_29 (dq_w dwm_437 5 rfl)
theorem dX6_oldestBy_22 : decode cX6_oldestBy 22 = .ok (.aload_n 0, 1) := dq_42 (dq_w dwm_437 6 rfl)
theorem dX6_oldestBy_23 : decode cX6_oldestBy 23 = .ok (.getfield 89, 3) := dq_180 (dq_w dwm_437 7 rfl) (dq_w dwm_437 8 rfl) (dq_w dwm_437 9 rfl) rfl
theorem dX6_oldestBy_26 : decode cX6_oldestBy 26 = .ok (.if_icmp .ge 26, 3) := dq_162 (dq_w dwm_437 10 rfl) (dq_w dwm_437 11 rfl) (dq_w dwm_437 12 rfl) (dq_p (n := 26) rfl rfl)
theorem dX6_oldestBy_29 : decode cX6_oldestBy 29 = .ok (.aload_n 0, 1) := dq_42 (dq_w dwm_437 13 rfl)
theorem dX6_oldestBy_30 : decode cX6_oldestBy 30 = .ok (.getfield 31, 3) := dq_180 (dq_w dwm_437 14 rfl) (dq_w dwm_437 15 rfl) (dq_w dwm_438 0 rfl) rfl
theorem dX6_oldestBy_33 : decode cX6_oldestBy 33 = .ok (.bipush 7, 2) := dq_16 (dq_w dwm_438 1 rfl) (dq_w dwm_438 2 rfl) rfl
theorem dX6_oldestBy_35 : decode cX6_oldestBy 35 = .ok (.iload_n 2, 1) := dq_28 (dq_w dwm_438 3 rfl)
theorem dX6_oldestBy_36 : decode cX6_oldestBy 36 = .ok (.imul, 1) := dq_104 (dq_w dwm_438 4 rfl)
theorem dX6_oldestBy_37 : decode cX6_oldestBy 37 = .ok (.iload_n 3, 1) := dq_29 (dq_w dwm_438 5 rfl)
theorem dX6_oldestBy_38 : decode cX6_oldestBy 38 = .ok (.iadd, 1) := dq_96 (dq_w dwm_438 6 rfl)
theorem dX6_oldestBy_39 : decode cX6_oldestBy 39 = .ok (.iaload, 1) := dq_46 (dq_w dwm_438 7 rfl)
theorem dX6_oldestBy_40 : decode cX6_oldestBy 40 = .ok (.iload_n 1, 1) := dq_27 (dq_w dwm_438 8 rfl)
theorem dX6_oldestBy_41 : decode cX6_oldestBy 41 = .ok (.if_icmp .ne 5, 3) := dq_160 (dq_w dwm_438 9 rfl) (dq_w dwm_438 10 rfl) (dq_w dwm_438 11 rfl) (dq_p (n := 5) rfl rfl)
theorem dX6_oldestBy_44 : decode cX6_oldestBy 44 = .ok (.iload_n 2, 1) := dq_28 (dq_w dwm_438 12 rfl)
theorem dX6_oldestBy_45 : decode cX6_oldestBy 45 = .ok (.ireturn, 1) := dq_172 (dq_w dwm_438 13 rfl)
theorem dX6_oldestBy_46 : decode cX6_oldestBy 46 = .ok (.iinc 3 1, 3) := dq_132 (dq_w dwm_438 14 rfl) (dq_w dwm_438 15 rfl) rfl (dq_w dwm_439 0 rfl) rfl
theorem dX6_oldestBy_49 : decode cX6_oldestBy 49 = .ok (.goto (-28), 3) := dq_167 (dq_w dwm_439 1 rfl) (dq_w dwm_439 2 rfl) (dq_w dwm_439 3 rfl) (dq_n (m := 28) rfl rfl)
theorem dX6_oldestBy_52 : decode cX6_oldestBy 52 = .ok (.iinc 2 1, 3) := dq_132 (dq_w dwm_439 4 rfl) (dq_w dwm_439 5 rfl) rfl (dq_w dwm_439 6 rfl) rfl
theorem dX6_oldestBy_55 : decode cX6_oldestBy 55 = .ok (.goto (-48), 3) := dq_167 (dq_w dwm_439 7 rfl) (dq_w dwm_439 8 rfl) (dq_w dwm_439 9 rfl) (dq_n (m := 48) rfl rfl)
theorem dX6_oldestBy_58 : decode cX6_oldestBy 58 = .ok (.bipush (-9), 2) := dq_16 (dq_w dwm_439 10 rfl) (dq_w dwm_439 11 rfl) rfl
theorem dX6_oldestBy_60 : decode cX6_oldestBy 60 = .ok (.ireturn, 1) := dq_172 (dq_w dwm_439 12 rfl)
theorem dwm_440 : (cX6_laneTwos.data.toList.drop 0).take 16 = [3, 60, 3, 61, 28, 42, 180, 0, 89, 162, 0, 71, 28, 4, 96, 62] := by decide +kernel
theorem dwm_441 : (cX6_laneTwos.data.toList.drop 16).take 16 = [29, 42, 180, 0, 89, 162, 0, 53, 27, 42, 180, 0, 19, 28, 46, 42] := by decide +kernel
theorem dwm_442 : (cX6_laneTwos.data.toList.drop 32).take 16 = [180, 0, 19, 29, 46, 96, 5, 160, 0, 26, 42, 180, 0, 16, 28, 46] := by decide +kernel
theorem dwm_443 : (cX6_laneTwos.data.toList.drop 48).take 16 = [42, 180, 0, 16, 29, 46, 184, 0, 103, 5, 163, 0, 7, 4, 167, 0] := by decide +kernel
theorem dwm_444 : (cX6_laneTwos.data.toList.drop 64).take 16 = [4, 3, 96, 60, 132, 3, 1, 167, 255, 201, 132, 2, 1, 167, 255, 183] := by decide +kernel
theorem dwm_445 : (cX6_laneTwos.data.toList.drop 80).take 16 = [27, 172] := by decide +kernel
theorem dX6_laneTwos_0 : decode cX6_laneTwos 0 = .ok (.iconst 0, 1) := dq_3 (dq_w dwm_440 0 rfl)
theorem dX6_laneTwos_1 : decode cX6_laneTwos 1 = .ok (.istore_n 1, 1) := dq_60 (dq_w dwm_440 1 rfl)
theorem dX6_laneTwos_2 : decode cX6_laneTwos 2 = .ok (.iconst 0, 1) := dq_3 (dq_w dwm_440 2 rfl)
theorem dX6_laneTwos_3 : decode cX6_laneTwos 3 = .ok (.istore_n 2, 1) := dq_61 (dq_w dwm_440 3 rfl)
theorem dX6_laneTwos_4 : decode cX6_laneTwos 4 = .ok (.iload_n 2, 1) := dq_28 (dq_w dwm_440 4 rfl)
theorem dX6_laneTwos_5 : decode cX6_laneTwos 5 = .ok (.aload_n 0, 1) := dq_42 (dq_w dwm_440 5 rfl)
theorem dX6_laneTwos_6 : decode cX6_laneTwos 6 = .ok (.getfield 89, 3) := dq_180 (dq_w dwm_440 6 rfl) (dq_w dwm_440 7 rfl) (dq_w dwm_440 8 rfl) rfl
theorem dX6_laneTwos_9 : decode cX6_laneTwos 9 = .ok (.if_icmp .ge 71, 3) := dq_162 (dq_w dwm_440 9 rfl) (dq_w dwm_440 10 rfl) (dq_w dwm_440 11 rfl) (dq_p (n := 71) rfl rfl)
theorem dX6_laneTwos_12 : decode cX6_laneTwos 12 = .ok (.iload_n 2, 1) := dq_28 (dq_w dwm_440 12 rfl)
theorem dX6_laneTwos_13 : decode cX6_laneTwos 13 = .ok (.iconst 1, 1) := dq_4 (dq_w dwm_440 13 rfl)
theorem dX6_laneTwos_14 : decode cX6_laneTwos 14 = .ok (.iadd, 1) := dq_96 (dq_w dwm_440 14 rfl)
theorem dX6_laneTwos_15 : decode cX6_laneTwos 15 = .ok (.istore_n 3, 1) := dq_62 (dq_w dwm_440 15 rfl)
theorem dX6_laneTwos_16 : decode cX6_laneTwos 16 = .ok (.iload_n 3, 1) := dq_29 (dq_w dwm_441 0 rfl)
theorem dX6_laneTwos_17 : decode cX6_laneTwos 17 = .ok (.aload_n 0, 1) := dq_42 (dq_w dwm_441 1 rfl)
theorem dX6_laneTwos_18 : decode cX6_laneTwos 18 = .ok (.getfield 89, 3) := dq_180 (dq_w dwm_441 2 rfl) (dq_w dwm_441 3 rfl) (dq_w dwm_441 4 rfl) rfl
theorem dX6_laneTwos_21 : decode cX6_laneTwos 21 = .ok (.if_icmp .ge 53, 3) := dq_162 (dq_w dwm_441 5 rfl) (dq_w dwm_441 6 rfl) (dq_w dwm_441 7 rfl) (dq_p (n := 53) rfl rfl)
theorem dX6_laneTwos_24 : decode cX6_laneTwos 24 = .ok (.iload_n 1, 1) := dq_27 (dq_w dwm_441 8 rfl)
theorem dX6_laneTwos_25 : decode cX6_laneTwos 25 = .ok (.aload_n 0, 1) := dq_42 (dq_w dwm_441 9 rfl)
theorem dX6_laneTwos_26 : decode cX6_laneTwos 26 = .ok (.getfield 19, 3) := dq_180 (dq_w dwm_441 10 rfl) (dq_w dwm_441 11 rfl) (dq_w dwm_441 12 rfl) rfl
theorem dX6_laneTwos_29 : decode cX6_laneTwos 29 = .ok (.iload_n 2, 1) := dq_28 (dq_w dwm_441 13 rfl)
theorem dX6_laneTwos_30 : decode cX6_laneTwos 30 = .ok (.iaload, 1) := dq_46 (dq_w dwm_441 14 rfl)
theorem dX6_laneTwos_31 : decode cX6_laneTwos 31 = .ok (.aload_n 0, 1) := dq_42 (dq_w dwm_441 15 rfl)
theorem dX6_laneTwos_32 : decode cX6_laneTwos 32 = .ok (.getfield 19, 3) := dq_180 (dq_w dwm_442 0 rfl) (dq_w dwm_442 1 rfl) (dq_w dwm_442 2 rfl) rfl
theorem dX6_laneTwos_35 : decode cX6_laneTwos 35 = .ok (.iload_n 3, 1) := dq_29 (dq_w dwm_442 3 rfl)
theorem dX6_laneTwos_36 : decode cX6_laneTwos 36 = .ok (.iaload, 1) := dq_46 (dq_w dwm_442 4 rfl)
theorem dX6_laneTwos_37 : decode cX6_laneTwos 37 = .ok (.iadd, 1) := dq_96 (dq_w dwm_442 5 rfl)
theorem dX6_laneTwos_38 : decode cX6_laneTwos 38 = .ok (.iconst 2, 1) := dq_5 (dq_w dwm_442 6 rfl)
theorem dX6_laneTwos_39 : decode cX6_laneTwos 39 = .ok (.if_icmp .ne 26, 3) := dq_160 (dq_w dwm_442 7 rfl) (dq_w dwm_442 8 rfl) (dq_w dwm_442 9 rfl) (dq_p (n := 26) rfl rfl)
theorem dX6_laneTwos_42 : decode cX6_laneTwos 42 = .ok (.aload_n 0, 1) := dq_42 (dq_w dwm_442 10 rfl)
theorem dX6_laneTwos_43 : decode cX6_laneTwos 43 = .ok (.getfield 16, 3) := dq_180 (dq_w dwm_442 11 rfl) (dq_w dwm_442 12 rfl) (dq_w dwm_442 13 rfl) rfl
theorem dX6_laneTwos_46 : decode cX6_laneTwos 46 = .ok (.iload_n 2, 1) := dq_28 (dq_w dwm_442 14 rfl)
theorem dX6_laneTwos_47 : decode cX6_laneTwos 47 = .ok (.iaload, 1) := dq_46 (dq_w dwm_442 15 rfl)
theorem dX6_laneTwos_48 : decode cX6_laneTwos 48 = .ok (.aload_n 0, 1) := dq_42 (dq_w dwm_443 0 rfl)
theorem dX6_laneTwos_49 : decode cX6_laneTwos 49 = .ok (.getfield 16, 3) := dq_180 (dq_w dwm_443 1 rfl) (dq_w dwm_443 2 rfl) (dq_w dwm_443 3 rfl) rfl
theorem dX6_laneTwos_52 : decode cX6_laneTwos 52 = .ok (.iload_n 3, 1) := dq_29 (dq_w dwm_443 4 rfl)
theorem dX6_laneTwos_53 : decode cX6_laneTwos 53 = .ok (.iaload, 1) := dq_46 (dq_w dwm_443 5 rfl)
theorem dX6_laneTwos_54 : decode cX6_laneTwos 54 = .ok (.invokestatic 103, 3) := dq_184 (dq_w dwm_443 6 rfl) (dq_w dwm_443 7 rfl) (dq_w dwm_443 8 rfl) rfl
theorem dX6_laneTwos_57 : decode cX6_laneTwos 57 = .ok (.iconst 2, 1) := dq_5 (dq_w dwm_443 9 rfl)
theorem dX6_laneTwos_58 : decode cX6_laneTwos 58 = .ok (.if_icmp .gt 7, 3) := dq_163 (dq_w dwm_443 10 rfl) (dq_w dwm_443 11 rfl) (dq_w dwm_443 12 rfl) (dq_p (n := 7) rfl rfl)
theorem dX6_laneTwos_61 : decode cX6_laneTwos 61 = .ok (.iconst 1, 1) := dq_4 (dq_w dwm_443 13 rfl)
theorem dX6_laneTwos_62 : decode cX6_laneTwos 62 = .ok (.goto 4, 3) := dq_167 (dq_w dwm_443 14 rfl) (dq_w dwm_443 15 rfl) (dq_w dwm_444 0 rfl) (dq_p (n := 4) rfl rfl)
theorem dX6_laneTwos_65 : decode cX6_laneTwos 65 = .ok (.iconst 0, 1) := dq_3 (dq_w dwm_444 1 rfl)
theorem dX6_laneTwos_66 : decode cX6_laneTwos 66 = .ok (.iadd, 1) := dq_96 (dq_w dwm_444 2 rfl)
theorem dX6_laneTwos_67 : decode cX6_laneTwos 67 = .ok (.istore_n 1, 1) := dq_60 (dq_w dwm_444 3 rfl)
theorem dX6_laneTwos_68 : decode cX6_laneTwos 68 = .ok (.iinc 3 1, 3) := dq_132 (dq_w dwm_444 4 rfl) (dq_w dwm_444 5 rfl) rfl (dq_w dwm_444 6 rfl) rfl
theorem dX6_laneTwos_71 : decode cX6_laneTwos 71 = .ok (.goto (-55), 3) := dq_167 (dq_w dwm_444 7 rfl) (dq_w dwm_444 8 rfl) (dq_w dwm_444 9 rfl) (dq_n (m := 55) rfl rfl)
theorem dX6_laneTwos_74 : decode cX6_laneTwos 74 = .ok (.iinc 2 1, 3) := dq_132 (dq_w dwm_444 10 rfl) (dq_w dwm_444 11 rfl) rfl (dq_w dwm_444 12 rfl) rfl
theorem dX6_laneTwos_77 : decode cX6_laneTwos 77 = .ok (.goto (-73), 3) := dq_167 (dq_w dwm_444 13 rfl) (dq_w dwm_444 14 rfl) (dq_w dwm_444 15 rfl) (dq_n (m := 73) rfl rfl)
theorem dX6_laneTwos_80 : decode cX6_laneTwos 80 = .ok (.iload_n 1, 1) := dq_27 (dq_w dwm_445 0 rfl)
theorem dX6_laneTwos_81 : decode cX6_laneTwos 81 = .ok (.ireturn, 1) := dq_172 (dq_w dwm_445 1 rfl)
theorem dwm_446 : (cX6_darkBits.data.toList.drop 0).take 16 = [3, 60, 3, 61, 28, 42, 180, 0, 89, 162, 0, 28, 27, 42, 180, 0] := by decide +kernel
theorem dwm_447 : (cX6_darkBits.data.toList.drop 16).take 16 = [19, 28, 46, 154, 0, 9, 4, 28, 120, 167, 0, 4, 3, 128, 60, 132] := by decide +kernel
theorem dwm_448 : (cX6_darkBits.data.toList.drop 32).take 16 = [2, 1, 167, 255, 226, 27, 172] := by decide +kernel
theorem dX6_darkBits_0 : decode cX6_darkBits 0 = .ok (.iconst 0, 1) := dq_3 (dq_w dwm_446 0 rfl)
theorem dX6_darkBits_1 : decode cX6_darkBits 1 = .ok (.istore_n 1, 1) := dq_60 (dq_w dwm_446 1 rfl)
theorem dX6_darkBits_2 : decode cX6_darkBits 2 = .ok (.iconst 0, 1) := dq_3 (dq_w dwm_446 2 rfl)
theorem dX6_darkBits_3 : decode cX6_darkBits 3 = .ok (.istore_n 2, 1) := dq_61 (dq_w dwm_446 3 rfl)
theorem dX6_darkBits_4 : decode cX6_darkBits 4 = .ok (.iload_n 2, 1) := dq_28 (dq_w dwm_446 4 rfl)
theorem dX6_darkBits_5 : decode cX6_darkBits 5 = .ok (.aload_n 0, 1) := dq_42 (dq_w dwm_446 5 rfl)
theorem dX6_darkBits_6 : decode cX6_darkBits 6 = .ok (.getfield 89, 3) := dq_180 (dq_w dwm_446 6 rfl) (dq_w dwm_446 7 rfl) (dq_w dwm_446 8 rfl) rfl
theorem dX6_darkBits_9 : decode cX6_darkBits 9 = .ok (.if_icmp .ge 28, 3) := dq_162 (dq_w dwm_446 9 rfl) (dq_w dwm_446 10 rfl) (dq_w dwm_446 11 rfl) (dq_p (n := 28) rfl rfl)
theorem dX6_darkBits_12 : decode cX6_darkBits 12 = .ok (.iload_n 1, 1) := dq_27 (dq_w dwm_446 12 rfl)
theorem dX6_darkBits_13 : decode cX6_darkBits 13 = .ok (.aload_n 0, 1) := dq_42 (dq_w dwm_446 13 rfl)
theorem dX6_darkBits_14 : decode cX6_darkBits 14 = .ok (.getfield 19, 3) := dq_180 (dq_w dwm_446 14 rfl) (dq_w dwm_446 15 rfl) (dq_w dwm_447 0 rfl) rfl
theorem dX6_darkBits_17 : decode cX6_darkBits 17 = .ok (.iload_n 2, 1) := dq_28 (dq_w dwm_447 1 rfl)
theorem dX6_darkBits_18 : decode cX6_darkBits 18 = .ok (.iaload, 1) := dq_46 (dq_w dwm_447 2 rfl)
theorem dX6_darkBits_19 : decode cX6_darkBits 19 = .ok (.ifCond .ne 9, 3) := dq_154 (dq_w dwm_447 3 rfl) (dq_w dwm_447 4 rfl) (dq_w dwm_447 5 rfl) (dq_p (n := 9) rfl rfl)
theorem dX6_darkBits_22 : decode cX6_darkBits 22 = .ok (.iconst 1, 1) := dq_4 (dq_w dwm_447 6 rfl)
theorem dX6_darkBits_23 : decode cX6_darkBits 23 = .ok (.iload_n 2, 1) := dq_28 (dq_w dwm_447 7 rfl)
theorem dX6_darkBits_24 : decode cX6_darkBits 24 = .ok (.ishl, 1) := dq_120 (dq_w dwm_447 8 rfl)
theorem dX6_darkBits_25 : decode cX6_darkBits 25 = .ok (.goto 4, 3) := dq_167 (dq_w dwm_447 9 rfl) (dq_w dwm_447 10 rfl) (dq_w dwm_447 11 rfl) (dq_p (n := 4) rfl rfl)
theorem dX6_darkBits_28 : decode cX6_darkBits 28 = .ok (.iconst 0, 1) := dq_3 (dq_w dwm_447 12 rfl)
theorem dX6_darkBits_29 : decode cX6_darkBits 29 = .ok (.ior, 1) := dq_128 (dq_w dwm_447 13 rfl)
theorem dX6_darkBits_30 : decode cX6_darkBits 30 = .ok (.istore_n 1, 1) := dq_60 (dq_w dwm_447 14 rfl)
theorem dX6_darkBits_31 : decode cX6_darkBits 31 = .ok (.iinc 2 1, 3) := dq_132 (dq_w dwm_447 15 rfl) (dq_w dwm_448 0 rfl) rfl (dq_w dwm_448 1 rfl) rfl
theorem dX6_darkBits_34 : decode cX6_darkBits 34 = .ok (.goto (-30), 3) := dq_167 (dq_w dwm_448 2 rfl) (dq_w dwm_448 3 rfl) (dq_w dwm_448 4 rfl) (dq_n (m := 30) rfl rfl)
theorem dX6_darkBits_37 : decode cX6_darkBits 37 = .ok (.iload_n 1, 1) := dq_27 (dq_w dwm_448 5 rfl)
theorem dX6_darkBits_38 : decode cX6_darkBits 38 = .ok (.ireturn, 1) := dq_172 (dq_w dwm_448 6 rfl)
theorem dwm_449 : (cX6_oldest.data.toList.drop 0).take 16 = [42, 3, 181, 0, 79, 27, 170, 0, 0, 0, 0, 63, 0, 0, 0, 0] := by decide +kernel
theorem dwm_450 : (cX6_oldest.data.toList.drop 32).take 16 = [0, 0, 0, 58, 42, 182, 1, 35, 154, 0, 7, 3, 167, 0, 9, 42] := by decide +kernel
theorem dwm_451 : (cX6_oldest.data.toList.drop 48).take 16 = [182, 1, 35, 4, 100, 172, 42, 182, 1, 38, 172, 42, 182, 1, 41, 172] := by decide +kernel
theorem dwm_452 : (cX6_oldest.data.toList.drop 64).take 16 = [42, 182, 1, 44, 172, 42, 16, 254, 182, 0, 143, 172] := by decide +kernel
theorem dX6_oldest_0 : decode cX6_oldest 0 = .ok (.aload_n 0, 1) := dq_42 (dq_w dwm_449 0 rfl)
theorem dX6_oldest_1 : decode cX6_oldest 1 = .ok (.iconst 0, 1) := dq_3 (dq_w dwm_449 1 rfl)
theorem dX6_oldest_2 : decode cX6_oldest 2 = .ok (.putfield 79, 3) := dq_181 (dq_w dwm_449 2 rfl) (dq_w dwm_449 3 rfl) (dq_w dwm_449 4 rfl) rfl
theorem dX6_oldest_5 : decode cX6_oldest 5 = .ok (.iload_n 1, 1) := dq_27 (dq_w dwm_449 5 rfl)
theorem dX6_oldest_6 : decode cX6_oldest 6 = .ok (.tableswitch 63 0 3 #[30, 48, 53, 58], 30) := by decide +kernel
theorem dX6_oldest_36 : decode cX6_oldest 36 = .ok (.aload_n 0, 1) := dq_42 (dq_w dwm_450 4 rfl)
theorem dX6_oldest_37 : decode cX6_oldest 37 = .ok (.invokevirtual 291, 3) := dq_182 (dq_w dwm_450 5 rfl) (dq_w dwm_450 6 rfl) (dq_w dwm_450 7 rfl) rfl
theorem dX6_oldest_40 : decode cX6_oldest 40 = .ok (.ifCond .ne 7, 3) := dq_154 (dq_w dwm_450 8 rfl) (dq_w dwm_450 9 rfl) (dq_w dwm_450 10 rfl) (dq_p (n := 7) rfl rfl)
theorem dX6_oldest_43 : decode cX6_oldest 43 = .ok (.iconst 0, 1) := dq_3 (dq_w dwm_450 11 rfl)
theorem dX6_oldest_44 : decode cX6_oldest 44 = .ok (.goto 9, 3) := dq_167 (dq_w dwm_450 12 rfl) (dq_w dwm_450 13 rfl) (dq_w dwm_450 14 rfl) (dq_p (n := 9) rfl rfl)
theorem dX6_oldest_47 : decode cX6_oldest 47 = .ok (.aload_n 0, 1) := dq_42 (dq_w dwm_450 15 rfl)
theorem dX6_oldest_48 : decode cX6_oldest 48 = .ok (.invokevirtual 291, 3) := dq_182 (dq_w dwm_451 0 rfl) (dq_w dwm_451 1 rfl) (dq_w dwm_451 2 rfl) rfl
theorem dX6_oldest_51 : decode cX6_oldest 51 = .ok (.iconst 1, 1) := dq_4 (dq_w dwm_451 3 rfl)
theorem dX6_oldest_52 : decode cX6_oldest 52 = .ok (.isub, 1) := dq_100 (dq_w dwm_451 4 rfl)
theorem dX6_oldest_53 : decode cX6_oldest 53 = .ok (.ireturn, 1) := dq_172 (dq_w dwm_451 5 rfl)
theorem dX6_oldest_54 : decode cX6_oldest 54 = .ok (.aload_n 0, 1) := dq_42 (dq_w dwm_451 6 rfl)
theorem dX6_oldest_55 : decode cX6_oldest 55 = .ok (.invokevirtual 294, 3) := dq_182 (dq_w dwm_451 7 rfl) (dq_w dwm_451 8 rfl) (dq_w dwm_451 9 rfl) rfl
theorem dX6_oldest_58 : decode cX6_oldest 58 = .ok (.ireturn, 1) := dq_172 (dq_w dwm_451 10 rfl)
theorem dX6_oldest_59 : decode cX6_oldest 59 = .ok (.aload_n 0, 1) := dq_42 (dq_w dwm_451 11 rfl)
theorem dX6_oldest_60 : decode cX6_oldest 60 = .ok (.invokevirtual 297, 3) := dq_182 (dq_w dwm_451 12 rfl) (dq_w dwm_451 13 rfl) (dq_w dwm_451 14 rfl) rfl
theorem dX6_oldest_63 : decode cX6_oldest 63 = .ok (.ireturn, 1) := dq_172 (dq_w dwm_451 15 rfl)
theorem dX6_oldest_64 : decode cX6_oldest 64 = .ok (.aload_n 0, 1) := dq_42 (dq_w dwm_452 0 rfl)
theorem dX6_oldest_65 : decode cX6_oldest 65 = .ok (.invokevirtual 300, 3) := dq_182 (dq_w dwm_452 1 rfl) (dq_w dwm_452 2 rfl) (dq_w dwm_452 3 rfl) rfl
theorem dX6_oldest_68 : decode cX6_oldest 68 = .ok (.ireturn, 1) := dq_172 (dq_w dwm_452 4 rfl)
theorem dX6_oldest_69 : decode cX6_oldest 69 = .ok (.aload_n 0, 1) := dq_42 (dq_w dwm_452 5 rfl)
theorem dX6_oldest_70 : decode cX6_oldest 70 = .ok (.bipush (-2), 2) := dq_16 (dq_w dwm_452 6 rfl) (dq_w dwm_452 7 rfl) rfl
theorem dX6_oldest_72 : decode cX6_oldest 72 = .ok (.invokevirtual 143, 3) := dq_182 (dq_w dwm_452 8 rfl) (dq_w dwm_452 9 rfl) (dq_w dwm_452 10 rfl) rfl
theorem dX6_oldest_75 : decode cX6_oldest 75 = .ok (.ireturn, 1) := dq_172 (dq_w dwm_452 11 rfl)
theorem dwm_453 : (cX6_mean.data.toList.drop 0).take 16 = [42, 3, 181, 0, 79, 27, 133, 9, 10, 184, 0, 85, 153, 0, 20, 42] := by decide +kernel
theorem dwm_454 : (cX6_mean.data.toList.drop 16).take 16 = [182, 0, 253, 133, 42, 180, 0, 92, 133, 27, 184, 1, 31, 167, 0, 14] := by decide +kernel
theorem dwm_455 : (cX6_mean.data.toList.drop 32).take 16 = [20, 1, 29, 42, 16, 254, 182, 0, 143, 133, 101, 173] := by decide +kernel
theorem dX6_mean_0 : decode cX6_mean 0 = .ok (.aload_n 0, 1) := dq_42 (dq_w dwm_453 0 rfl)
theorem dX6_mean_1 : decode cX6_mean 1 = .ok (.iconst 0, 1) := dq_3 (dq_w dwm_453 1 rfl)
theorem dX6_mean_2 : decode cX6_mean 2 = .ok (.putfield 79, 3) := dq_181 (dq_w dwm_453 2 rfl) (dq_w dwm_453 3 rfl) (dq_w dwm_453 4 rfl) rfl
theorem dX6_mean_5 : decode cX6_mean 5 = .ok (.iload_n 1, 1) := dq_27 (dq_w dwm_453 5 rfl)
theorem dX6_mean_6 : decode cX6_mean 6 = .ok (.i2l, 1) := dq_133 (dq_w dwm_453 6 rfl)
theorem dX6_mean_7 : decode cX6_mean 7 = .ok (.lconst 0, 1) := dq_9 (dq_w dwm_453 7 rfl)
theorem dX6_mean_8 : decode cX6_mean 8 = .ok (.lconst 1, 1) := dq_10 (dq_w dwm_453 8 rfl)
theorem dX6_mean_9 : decode cX6_mean 9 = .ok (.invokestatic 85, 3) := dq_184 (dq_w dwm_453 9 rfl) (dq_w dwm_453 10 rfl) (dq_w dwm_453 11 rfl) rfl
theorem dX6_mean_12 : decode cX6_mean 12 = .ok (.ifCond .eq 20, 3) := dq_153 (dq_w dwm_453 12 rfl) (dq_w dwm_453 13 rfl) (dq_w dwm_453 14 rfl) (dq_p (n := 20) rfl rfl)
theorem dX6_mean_15 : decode cX6_mean 15 = .ok (.aload_n 0, 1) := dq_42 (dq_w dwm_453 15 rfl)
theorem dX6_mean_16 : decode cX6_mean 16 = .ok (.invokevirtual 253, 3) := dq_182 (dq_w dwm_454 0 rfl) (dq_w dwm_454 1 rfl) (dq_w dwm_454 2 rfl) rfl
theorem dX6_mean_19 : decode cX6_mean 19 = .ok (.i2l, 1) := dq_133 (dq_w dwm_454 3 rfl)
theorem dX6_mean_20 : decode cX6_mean 20 = .ok (.aload_n 0, 1) := dq_42 (dq_w dwm_454 4 rfl)
theorem dX6_mean_21 : decode cX6_mean 21 = .ok (.getfield 92, 3) := dq_180 (dq_w dwm_454 5 rfl) (dq_w dwm_454 6 rfl) (dq_w dwm_454 7 rfl) rfl
theorem dX6_mean_24 : decode cX6_mean 24 = .ok (.i2l, 1) := dq_133 (dq_w dwm_454 8 rfl)
theorem dX6_mean_25 : decode cX6_mean 25 = .ok (.iload_n 1, 1) := dq_27 (dq_w dwm_454 9 rfl)
theorem dX6_mean_26 : decode cX6_mean 26 = .ok (.invokestatic 287, 3) := dq_184 (dq_w dwm_454 10 rfl) (dq_w dwm_454 11 rfl) (dq_w dwm_454 12 rfl) rfl
theorem dX6_mean_29 : decode cX6_mean 29 = .ok (.goto 14, 3) := dq_167 (dq_w dwm_454 13 rfl) (dq_w dwm_454 14 rfl) (dq_w dwm_454 15 rfl) (dq_p (n := 14) rfl rfl)
theorem dX6_mean_32 : decode cX6_mean 32 = .ok (.ldc2_w 285, 3) := dq_20 (dq_w dwm_455 0 rfl) (dq_w dwm_455 1 rfl) (dq_w dwm_455 2 rfl) rfl
theorem dX6_mean_35 : decode cX6_mean 35 = .ok (.aload_n 0, 1) := dq_42 (dq_w dwm_455 3 rfl)
theorem dX6_mean_36 : decode cX6_mean 36 = .ok (.bipush (-2), 2) := dq_16 (dq_w dwm_455 4 rfl) (dq_w dwm_455 5 rfl) rfl
theorem dX6_mean_38 : decode cX6_mean 38 = .ok (.invokevirtual 143, 3) := dq_182 (dq_w dwm_455 6 rfl) (dq_w dwm_455 7 rfl) (dq_w dwm_455 8 rfl) rfl
theorem dX6_mean_41 : decode cX6_mean 41 = .ok (.i2l, 1) := dq_133 (dq_w dwm_455 9 rfl)
theorem dX6_mean_42 : decode cX6_mean 42 = .ok (.lsub, 1) := dq_101 (dq_w dwm_455 10 rfl)
theorem dX6_mean_43 : decode cX6_mean 43 = .ok (.lreturn, 1) := dq_173 (dq_w dwm_455 11 rfl)
theorem dwm_456 : (cX6_forgiven.data.toList.drop 0).take 16 = [42, 3, 181, 0, 79, 3, 60, 3, 61, 28, 42, 180, 0, 92, 162, 0] := by decide +kernel
theorem dwm_457 : (cX6_forgiven.data.toList.drop 16).take 16 = [66, 3, 62, 29, 42, 180, 0, 89, 162, 0, 50, 42, 180, 0, 31, 16] := by decide +kernel
theorem dwm_458 : (cX6_forgiven.data.toList.drop 32).take 16 = [7, 28, 104, 29, 96, 46, 54, 4, 27, 21, 4, 158, 0, 22, 42, 29] := by decide +kernel
theorem dwm_459 : (cX6_forgiven.data.toList.drop 48).take 16 = [21, 4, 4, 100, 182, 0, 110, 42, 29, 3, 182, 0, 110, 100, 167, 0] := by decide +kernel
theorem dwm_460 : (cX6_forgiven.data.toList.drop 64).take 16 = [4, 3, 96, 60, 132, 3, 1, 167, 255, 204, 132, 2, 1, 167, 255, 188] := by decide +kernel
theorem dwm_461 : (cX6_forgiven.data.toList.drop 80).take 16 = [27, 172] := by decide +kernel
theorem dX6_forgiven_0 : decode cX6_forgiven 0 = .ok (.aload_n 0, 1) := dq_42 (dq_w dwm_456 0 rfl)
theorem dX6_forgiven_1 : decode cX6_forgiven 1 = .ok (.iconst 0, 1) := dq_3 (dq_w dwm_456 1 rfl)
theorem dX6_forgiven_2 : decode cX6_forgiven 2 = .ok (.putfield 79, 3) := dq_181 (dq_w dwm_456 2 rfl) (dq_w dwm_456 3 rfl) (dq_w dwm_456 4 rfl) rfl
theorem dX6_forgiven_5 : decode cX6_forgiven 5 = .ok (.iconst 0, 1) := dq_3 (dq_w dwm_456 5 rfl)
theorem dX6_forgiven_6 : decode cX6_forgiven 6 = .ok (.istore_n 1, 1) := dq_60 (dq_w dwm_456 6 rfl)
theorem dX6_forgiven_7 : decode cX6_forgiven 7 = .ok (.iconst 0, 1) := dq_3 (dq_w dwm_456 7 rfl)
theorem dX6_forgiven_8 : decode cX6_forgiven 8 = .ok (.istore_n 2, 1) := dq_61 (dq_w dwm_456 8 rfl)
theorem dX6_forgiven_9 : decode cX6_forgiven 9 = .ok (.iload_n 2, 1) := dq_28 (dq_w dwm_456 9 rfl)
theorem dX6_forgiven_10 : decode cX6_forgiven 10 = .ok (.aload_n 0, 1) := dq_42 (dq_w dwm_456 10 rfl)
theorem dX6_forgiven_11 : decode cX6_forgiven 11 = .ok (.getfield 92, 3) := dq_180 (dq_w dwm_456 11 rfl) (dq_w dwm_456 12 rfl) (dq_w dwm_456 13 rfl) rfl
theorem dX6_forgiven_14 : decode cX6_forgiven 14 = .ok (.if_icmp .ge 66, 3) := dq_162 (dq_w dwm_456 14 rfl) (dq_w dwm_456 15 rfl) (dq_w dwm_457 0 rfl) (dq_p (n := 66) rfl rfl)
theorem dX6_forgiven_17 : decode cX6_forgiven 17 = .ok (.iconst 0, 1) := dq_3 (dq_w dwm_457 1 rfl)
theorem dX6_forgiven_18 : decode cX6_forgiven 18 = .ok (.istore_n 3, 1) := dq_62 (dq_w dwm_457 2 rfl)
theorem dX6_forgiven_19 : decode cX6_forgiven 19 = .ok (.iload_n 3, 1) := dq_29 (dq_w dwm_457 3 rfl)
theorem dX6_forgiven_20 : decode cX6_forgiven 20 = .ok (.aload_n 0, 1) := dq_42 (dq_w dwm_457 4 rfl)
theorem dX6_forgiven_21 : decode cX6_forgiven 21 = .ok (.getfield 89, 3) := dq_180 (dq_w dwm_457 5 rfl) (dq_w dwm_457 6 rfl) (dq_w dwm_457 7 rfl) rfl
theorem dX6_forgiven_24 : decode cX6_forgiven 24 = .ok (.if_icmp .ge 50, 3) := dq_162 (dq_w dwm_457 8 rfl) (dq_w dwm_457 9 rfl) (dq_w dwm_457 10 rfl) (dq_p (n := 50) rfl rfl)
theorem dX6_forgiven_27 : decode cX6_forgiven 27 = .ok (.aload_n 0, 1) := dq_42 (dq_w dwm_457 11 rfl)
theorem dX6_forgiven_28 : decode cX6_forgiven 28 = .ok (.getfield 31, 3) := dq_180 (dq_w dwm_457 12 rfl) (dq_w dwm_457 13 rfl) (dq_w dwm_457 14 rfl) rfl
theorem dX6_forgiven_31 : decode cX6_forgiven 31 = .ok (.bipush 7, 2) := dq_16 (dq_w dwm_457 15 rfl) (dq_w dwm_458 0 rfl) rfl
theorem dX6_forgiven_33 : decode cX6_forgiven 33 = .ok (.iload_n 2, 1) := dq_28 (dq_w dwm_458 1 rfl)
theorem dX6_forgiven_34 : decode cX6_forgiven 34 = .ok (.imul, 1) := dq_104 (dq_w dwm_458 2 rfl)
theorem dX6_forgiven_35 : decode cX6_forgiven 35 = .ok (.iload_n 3, 1) := dq_29 (dq_w dwm_458 3 rfl)
theorem dX6_forgiven_36 : decode cX6_forgiven 36 = .ok (.iadd, 1) := dq_96 (dq_w dwm_458 4 rfl)
theorem dX6_forgiven_37 : decode cX6_forgiven 37 = .ok (.iaload, 1) := dq_46 (dq_w dwm_458 5 rfl)
theorem dX6_forgiven_38 : decode cX6_forgiven 38 = .ok (.istore 4, 2) := dq_54 (dq_w dwm_458 6 rfl) (dq_w dwm_458 7 rfl) rfl
theorem dX6_forgiven_40 : decode cX6_forgiven 40 = .ok (.iload_n 1, 1) := dq_27 (dq_w dwm_458 8 rfl)
theorem dX6_forgiven_41 : decode cX6_forgiven 41 = .ok (.iload 4, 2) := dq_21 (dq_w dwm_458 9 rfl) (dq_w dwm_458 10 rfl) rfl
theorem dX6_forgiven_43 : decode cX6_forgiven 43 = .ok (.ifCond .le 22, 3) := dq_158 (dq_w dwm_458 11 rfl) (dq_w dwm_458 12 rfl) (dq_w dwm_458 13 rfl) (dq_p (n := 22) rfl rfl)
theorem dX6_forgiven_46 : decode cX6_forgiven 46 = .ok (.aload_n 0, 1) := dq_42 (dq_w dwm_458 14 rfl)
theorem dX6_forgiven_47 : decode cX6_forgiven 47 = .ok (.iload_n 3, 1) := dq_29 (dq_w dwm_458 15 rfl)
theorem dX6_forgiven_48 : decode cX6_forgiven 48 = .ok (.iload 4, 2) := dq_21 (dq_w dwm_459 0 rfl) (dq_w dwm_459 1 rfl) rfl
theorem dX6_forgiven_50 : decode cX6_forgiven 50 = .ok (.iconst 1, 1) := dq_4 (dq_w dwm_459 2 rfl)
theorem dX6_forgiven_51 : decode cX6_forgiven 51 = .ok (.isub, 1) := dq_100 (dq_w dwm_459 3 rfl)
theorem dX6_forgiven_52 : decode cX6_forgiven 52 = .ok (.invokevirtual 110, 3) := dq_182 (dq_w dwm_459 4 rfl) (dq_w dwm_459 5 rfl) (dq_w dwm_459 6 rfl) rfl
theorem dX6_forgiven_55 : decode cX6_forgiven 55 = .ok (.aload_n 0, 1) := dq_42 (dq_w dwm_459 7 rfl)
theorem dX6_forgiven_56 : decode cX6_forgiven 56 = .ok (.iload_n 3, 1) := dq_29 (dq_w dwm_459 8 rfl)
theorem dX6_forgiven_57 : decode cX6_forgiven 57 = .ok (.iconst 0, 1) := dq_3 (dq_w dwm_459 9 rfl)
theorem dX6_forgiven_58 : decode cX6_forgiven 58 = .ok (.invokevirtual 110, 3) := dq_182 (dq_w dwm_459 10 rfl) (dq_w dwm_459 11 rfl) (dq_w dwm_459 12 rfl) rfl
theorem dX6_forgiven_61 : decode cX6_forgiven 61 = .ok (.isub, 1) := dq_100 (dq_w dwm_459 13 rfl)
theorem dX6_forgiven_62 : decode cX6_forgiven 62 = .ok (.goto 4, 3) := dq_167 (dq_w dwm_459 14 rfl) (dq_w dwm_459 15 rfl) (dq_w dwm_460 0 rfl) (dq_p (n := 4) rfl rfl)
theorem dX6_forgiven_65 : decode cX6_forgiven 65 = .ok (.iconst 0, 1) := dq_3 (dq_w dwm_460 1 rfl)
theorem dX6_forgiven_66 : decode cX6_forgiven 66 = .ok (.iadd, 1) := dq_96 (dq_w dwm_460 2 rfl)
theorem dX6_forgiven_67 : decode cX6_forgiven 67 = .ok (.istore_n 1, 1) := dq_60 (dq_w dwm_460 3 rfl)
theorem dX6_forgiven_68 : decode cX6_forgiven 68 = .ok (.iinc 3 1, 3) := dq_132 (dq_w dwm_460 4 rfl) (dq_w dwm_460 5 rfl) rfl (dq_w dwm_460 6 rfl) rfl
theorem dX6_forgiven_71 : decode cX6_forgiven 71 = .ok (.goto (-52), 3) := dq_167 (dq_w dwm_460 7 rfl) (dq_w dwm_460 8 rfl) (dq_w dwm_460 9 rfl) (dq_n (m := 52) rfl rfl)
theorem dX6_forgiven_74 : decode cX6_forgiven 74 = .ok (.iinc 2 1, 3) := dq_132 (dq_w dwm_460 10 rfl) (dq_w dwm_460 11 rfl) rfl (dq_w dwm_460 12 rfl) rfl
theorem dX6_forgiven_77 : decode cX6_forgiven 77 = .ok (.goto (-68), 3) := dq_167 (dq_w dwm_460 13 rfl) (dq_w dwm_460 14 rfl) (dq_w dwm_460 15 rfl) (dq_n (m := 68) rfl rfl)
theorem dX6_forgiven_80 : decode cX6_forgiven 80 = .ok (.iload_n 1, 1) := dq_27 (dq_w dwm_461 0 rfl)
theorem dX6_forgiven_81 : decode cX6_forgiven 81 = .ok (.ireturn, 1) := dq_172 (dq_w dwm_461 1 rfl)
theorem dwm_462 : (cX6_nearest.data.toList.drop 0).take 16 = [42, 3, 181, 0, 79, 42, 27, 182, 0, 184, 154, 0, 9, 42, 2, 182] := by decide +kernel
theorem dwm_463 : (cX6_nearest.data.toList.drop 16).take 16 = [0, 143, 172, 16, 247, 61, 16, 99, 62, 3, 54, 4, 21, 4, 42, 180] := by decide +kernel
theorem dwm_464 : (cX6_nearest.data.toList.drop 32).take 16 = [0, 89, 162, 0, 73, 42, 180, 0, 31, 16, 7, 27, 104, 21, 4, 96] := by decide +kernel
theorem dwm_465 : (cX6_nearest.data.toList.drop 48).take 16 = [46, 158, 0, 22, 42, 180, 0, 22, 27, 46, 42, 180, 0, 16, 21, 4] := by decide +kernel
theorem dwm_466 : (cX6_nearest.data.toList.drop 64).take 16 = [46, 184, 0, 103, 167, 0, 5, 16, 99, 54, 5, 21, 5, 29, 162, 0] := by decide +kernel
theorem dwm_467 : (cX6_nearest.data.toList.drop 80).take 16 = [8, 21, 4, 167, 0, 4, 28, 61, 21, 5, 29, 162, 0, 8, 21, 5] := by decide +kernel
theorem dwm_468 : (cX6_nearest.data.toList.drop 96).take 16 = [167, 0, 4, 29, 62, 132, 4, 1, 167, 255, 180, 28, 172] := by decide +kernel
theorem dX6_nearest_0 : decode cX6_nearest 0 = .ok (.aload_n 0, 1) := dq_42 (dq_w dwm_462 0 rfl)
theorem dX6_nearest_1 : decode cX6_nearest 1 = .ok (.iconst 0, 1) := dq_3 (dq_w dwm_462 1 rfl)
theorem dX6_nearest_2 : decode cX6_nearest 2 = .ok (.putfield 79, 3) := dq_181 (dq_w dwm_462 2 rfl) (dq_w dwm_462 3 rfl) (dq_w dwm_462 4 rfl) rfl
theorem dX6_nearest_5 : decode cX6_nearest 5 = .ok (.aload_n 0, 1) := dq_42 (dq_w dwm_462 5 rfl)
theorem dX6_nearest_6 : decode cX6_nearest 6 = .ok (.iload_n 1, 1) := dq_27 (dq_w dwm_462 6 rfl)
theorem dX6_nearest_7 : decode cX6_nearest 7 = .ok (.invokevirtual 184, 3) := dq_182 (dq_w dwm_462 7 rfl) (dq_w dwm_462 8 rfl) (dq_w dwm_462 9 rfl) rfl
theorem dX6_nearest_10 : decode cX6_nearest 10 = .ok (.ifCond .ne 9, 3) := dq_154 (dq_w dwm_462 10 rfl) (dq_w dwm_462 11 rfl) (dq_w dwm_462 12 rfl) (dq_p (n := 9) rfl rfl)
theorem dX6_nearest_13 : decode cX6_nearest 13 = .ok (.aload_n 0, 1) := dq_42 (dq_w dwm_462 13 rfl)
theorem dX6_nearest_14 : decode cX6_nearest 14 = .ok (.iconst (-1), 1) := dq_2 (dq_w dwm_462 14 rfl)
theorem dX6_nearest_15 : decode cX6_nearest 15 = .ok (.invokevirtual 143, 3) := dq_182 (dq_w dwm_462 15 rfl) (dq_w dwm_463 0 rfl) (dq_w dwm_463 1 rfl) rfl
theorem dX6_nearest_18 : decode cX6_nearest 18 = .ok (.ireturn, 1) := dq_172 (dq_w dwm_463 2 rfl)
theorem dX6_nearest_19 : decode cX6_nearest 19 = .ok (.bipush (-9), 2) := dq_16 (dq_w dwm_463 3 rfl) (dq_w dwm_463 4 rfl) rfl
theorem dX6_nearest_21 : decode cX6_nearest 21 = .ok (.istore_n 2, 1) := dq_61 (dq_w dwm_463 5 rfl)
theorem dX6_nearest_22 : decode cX6_nearest 22 = .ok (.bipush 99, 2) := dq_16 (dq_w dwm_463 6 rfl) (dq_w dwm_463 7 rfl) rfl
theorem dX6_nearest_24 : decode cX6_nearest 24 = .ok (.istore_n 3, 1) := dq_62 (dq_w dwm_463 8 rfl)
theorem dX6_nearest_25 : decode cX6_nearest 25 = .ok (.iconst 0, 1) := dq_3 (dq_w dwm_463 9 rfl)
theorem dX6_nearest_26 : decode cX6_nearest 26 = .ok (.istore 4, 2) := dq_54 (dq_w dwm_463 10 rfl) (dq_w dwm_463 11 rfl) rfl
theorem dX6_nearest_28 : decode cX6_nearest 28 = .ok (.iload 4, 2) := dq_21 (dq_w dwm_463 12 rfl) (dq_w dwm_463 13 rfl) rfl
theorem dX6_nearest_30 : decode cX6_nearest 30 = .ok (.aload_n 0, 1) := dq_42 (dq_w dwm_463 14 rfl)
theorem dX6_nearest_31 : decode cX6_nearest 31 = .ok (.getfield 89, 3) := dq_180 (dq_w dwm_463 15 rfl) (dq_w dwm_464 0 rfl) (dq_w dwm_464 1 rfl) rfl
theorem dX6_nearest_34 : decode cX6_nearest 34 = .ok (.if_icmp .ge 73, 3) := dq_162 (dq_w dwm_464 2 rfl) (dq_w dwm_464 3 rfl) (dq_w dwm_464 4 rfl) (dq_p (n := 73) rfl rfl)
theorem dX6_nearest_37 : decode cX6_nearest 37 = .ok (.aload_n 0, 1) := dq_42 (dq_w dwm_464 5 rfl)
theorem dX6_nearest_38 : decode cX6_nearest 38 = .ok (.getfield 31, 3) := dq_180 (dq_w dwm_464 6 rfl) (dq_w dwm_464 7 rfl) (dq_w dwm_464 8 rfl) rfl
theorem dX6_nearest_41 : decode cX6_nearest 41 = .ok (.bipush 7, 2) := dq_16 (dq_w dwm_464 9 rfl) (dq_w dwm_464 10 rfl) rfl
theorem dX6_nearest_43 : decode cX6_nearest 43 = .ok (.iload_n 1, 1) := dq_27 (dq_w dwm_464 11 rfl)
theorem dX6_nearest_44 : decode cX6_nearest 44 = .ok (.imul, 1) := dq_104 (dq_w dwm_464 12 rfl)
theorem dX6_nearest_45 : decode cX6_nearest 45 = .ok (.iload 4, 2) := dq_21 (dq_w dwm_464 13 rfl) (dq_w dwm_464 14 rfl) rfl
theorem dX6_nearest_47 : decode cX6_nearest 47 = .ok (.iadd, 1) := dq_96 (dq_w dwm_464 15 rfl)
theorem dX6_nearest_48 : decode cX6_nearest 48 = .ok (.iaload, 1) := dq_46 (dq_w dwm_465 0 rfl)
theorem dX6_nearest_49 : decode cX6_nearest 49 = .ok (.ifCond .le 22, 3) := dq_158 (dq_w dwm_465 1 rfl) (dq_w dwm_465 2 rfl) (dq_w dwm_465 3 rfl) (dq_p (n := 22) rfl rfl)
theorem dX6_nearest_52 : decode cX6_nearest 52 = .ok (.aload_n 0, 1) := dq_42 (dq_w dwm_465 4 rfl)
theorem dX6_nearest_53 : decode cX6_nearest 53 = .ok (.getfield 22, 3) := dq_180 (dq_w dwm_465 5 rfl) (dq_w dwm_465 6 rfl) (dq_w dwm_465 7 rfl) rfl
theorem dX6_nearest_56 : decode cX6_nearest 56 = .ok (.iload_n 1, 1) := dq_27 (dq_w dwm_465 8 rfl)
theorem dX6_nearest_57 : decode cX6_nearest 57 = .ok (.iaload, 1) := dq_46 (dq_w dwm_465 9 rfl)
theorem dX6_nearest_58 : decode cX6_nearest 58 = .ok (.aload_n 0, 1) := dq_42 (dq_w dwm_465 10 rfl)
theorem dX6_nearest_59 : decode cX6_nearest 59 = .ok (.getfield 16, 3) := dq_180 (dq_w dwm_465 11 rfl) (dq_w dwm_465 12 rfl) (dq_w dwm_465 13 rfl) rfl
theorem dX6_nearest_62 : decode cX6_nearest 62 = .ok (.iload 4, 2) := dq_21 (dq_w dwm_465 14 rfl) (dq_w dwm_465 15 rfl) rfl
theorem dX6_nearest_64 : decode cX6_nearest 64 = .ok (.iaload, 1) := dq_46 (dq_w dwm_466 0 rfl)
theorem dX6_nearest_65 : decode cX6_nearest 65 = .ok (.invokestatic 103, 3) := dq_184 (dq_w dwm_466 1 rfl) (dq_w dwm_466 2 rfl) (dq_w dwm_466 3 rfl) rfl
theorem dX6_nearest_68 : decode cX6_nearest 68 = .ok (.goto 5, 3) := dq_167 (dq_w dwm_466 4 rfl) (dq_w dwm_466 5 rfl) (dq_w dwm_466 6 rfl) (dq_p (n := 5) rfl rfl)
theorem dX6_nearest_71 : decode cX6_nearest 71 = .ok (.bipush 99, 2) := dq_16 (dq_w dwm_466 7 rfl) (dq_w dwm_466 8 rfl) rfl
theorem dX6_nearest_73 : decode cX6_nearest 73 = .ok (.istore 5, 2) := dq_54 (dq_w dwm_466 9 rfl) (dq_w dwm_466 10 rfl) rfl
theorem dX6_nearest_75 : decode cX6_nearest 75 = .ok (.iload 5, 2) := dq_21 (dq_w dwm_466 11 rfl) (dq_w dwm_466 12 rfl) rfl
theorem dX6_nearest_77 : decode cX6_nearest 77 = .ok (.iload_n 3, 1) := dq_29 (dq_w dwm_466 13 rfl)
theorem dX6_nearest_78 : decode cX6_nearest 78 = .ok (.if_icmp .ge 8, 3) := dq_162 (dq_w dwm_466 14 rfl) (dq_w dwm_466 15 rfl) (dq_w dwm_467 0 rfl) (dq_p (n := 8) rfl rfl)
theorem dX6_nearest_81 : decode cX6_nearest 81 = .ok (.iload 4, 2) := dq_21 (dq_w dwm_467 1 rfl) (dq_w dwm_467 2 rfl) rfl
theorem dX6_nearest_83 : decode cX6_nearest 83 = .ok (.goto 4, 3) := dq_167 (dq_w dwm_467 3 rfl) (dq_w dwm_467 4 rfl) (dq_w dwm_467 5 rfl) (dq_p (n := 4) rfl rfl)
theorem dX6_nearest_86 : decode cX6_nearest 86 = .ok (.iload_n 2, 1) := dq_28 (dq_w dwm_467 6 rfl)
theorem dX6_nearest_87 : decode cX6_nearest 87 = .ok (.istore_n 2, 1) := dq_61 (dq_w dwm_467 7 rfl)
theorem dX6_nearest_88 : decode cX6_nearest 88 = .ok (.iload 5, 2) := dq_21 (dq_w dwm_467 8 rfl) (dq_w dwm_467 9 rfl) rfl
theorem dX6_nearest_90 : decode cX6_nearest 90 = .ok (.iload_n 3, 1) := dq_29 (dq_w dwm_467 10 rfl)
theorem dX6_nearest_91 : decode cX6_nearest 91 = .ok (.if_icmp .ge 8, 3) := dq_162 (dq_w dwm_467 11 rfl) (dq_w dwm_467 12 rfl) (dq_w dwm_467 13 rfl) (dq_p (n := 8) rfl rfl)
theorem dX6_nearest_94 : decode cX6_nearest 94 = .ok (.iload 5, 2) := dq_21 (dq_w dwm_467 14 rfl) (dq_w dwm_467 15 rfl) rfl
theorem dX6_nearest_96 : decode cX6_nearest 96 = .ok (.goto 4, 3) := dq_167 (dq_w dwm_468 0 rfl) (dq_w dwm_468 1 rfl) (dq_w dwm_468 2 rfl) (dq_p (n := 4) rfl rfl)
theorem dX6_nearest_99 : decode cX6_nearest 99 = .ok (.iload_n 3, 1) := dq_29 (dq_w dwm_468 3 rfl)
theorem dX6_nearest_100 : decode cX6_nearest 100 = .ok (.istore_n 3, 1) := dq_62 (dq_w dwm_468 4 rfl)
theorem dX6_nearest_101 : decode cX6_nearest 101 = .ok (.iinc 4 1, 3) := dq_132 (dq_w dwm_468 5 rfl) (dq_w dwm_468 6 rfl) rfl (dq_w dwm_468 7 rfl) rfl
theorem dX6_nearest_104 : decode cX6_nearest 104 = .ok (.goto (-76), 3) := dq_167 (dq_w dwm_468 8 rfl) (dq_w dwm_468 9 rfl) (dq_w dwm_468 10 rfl) (dq_n (m := 76) rfl rfl)
theorem dX6_nearest_107 : decode cX6_nearest 107 = .ok (.iload_n 2, 1) := dq_28 (dq_w dwm_468 11 rfl)
theorem dX6_nearest_108 : decode cX6_nearest 108 = .ok (.ireturn, 1) := dq_172 (dq_w dwm_468 12 rfl)
theorem dwm_469 : (cX6_allSeen.data.toList.drop 0).take 16 = [42, 3, 181, 0, 79, 42, 27, 182, 0, 181, 154, 0, 9, 42, 2, 182] := by decide +kernel
theorem dwm_470 : (cX6_allSeen.data.toList.drop 16).take 16 = [0, 143, 172, 3, 61, 3, 62, 29, 16, 49, 162, 0, 35, 28, 29, 42] := by decide +kernel
theorem dwm_471 : (cX6_allSeen.data.toList.drop 32).take 16 = [180, 0, 16, 27, 46, 184, 0, 103, 42, 27, 182, 0, 99, 163, 0, 7] := by decide +kernel
theorem dwm_472 : (cX6_allSeen.data.toList.drop 48).take 16 = [4, 167, 0, 4, 3, 96, 61, 132, 3, 1, 167, 255, 221, 28, 172] := by decide +kernel
theorem dX6_allSeen_0 : decode cX6_allSeen 0 = .ok (.aload_n 0, 1) := dq_42 (dq_w dwm_469 0 rfl)
theorem dX6_allSeen_1 : decode cX6_allSeen 1 = .ok (.iconst 0, 1) := dq_3 (dq_w dwm_469 1 rfl)
theorem dX6_allSeen_2 : decode cX6_allSeen 2 = .ok (.putfield 79, 3) := dq_181 (dq_w dwm_469 2 rfl) (dq_w dwm_469 3 rfl) (dq_w dwm_469 4 rfl) rfl
theorem dX6_allSeen_5 : decode cX6_allSeen 5 = .ok (.aload_n 0, 1) := dq_42 (dq_w dwm_469 5 rfl)
theorem dX6_allSeen_6 : decode cX6_allSeen 6 = .ok (.iload_n 1, 1) := dq_27 (dq_w dwm_469 6 rfl)
theorem dX6_allSeen_7 : decode cX6_allSeen 7 = .ok (.invokevirtual 181, 3) := dq_182 (dq_w dwm_469 7 rfl) (dq_w dwm_469 8 rfl) (dq_w dwm_469 9 rfl) rfl
theorem dX6_allSeen_10 : decode cX6_allSeen 10 = .ok (.ifCond .ne 9, 3) := dq_154 (dq_w dwm_469 10 rfl) (dq_w dwm_469 11 rfl) (dq_w dwm_469 12 rfl) (dq_p (n := 9) rfl rfl)
theorem dX6_allSeen_13 : decode cX6_allSeen 13 = .ok (.aload_n 0, 1) := dq_42 (dq_w dwm_469 13 rfl)
theorem dX6_allSeen_14 : decode cX6_allSeen 14 = .ok (.iconst (-1), 1) := dq_2 (dq_w dwm_469 14 rfl)
theorem dX6_allSeen_15 : decode cX6_allSeen 15 = .ok (.invokevirtual 143, 3) := dq_182 (dq_w dwm_469 15 rfl) (dq_w dwm_470 0 rfl) (dq_w dwm_470 1 rfl) rfl
theorem dX6_allSeen_18 : decode cX6_allSeen 18 = .ok (.ireturn, 1) := dq_172 (dq_w dwm_470 2 rfl)
theorem dX6_allSeen_19 : decode cX6_allSeen 19 = .ok (.iconst 0, 1) := dq_3 (dq_w dwm_470 3 rfl)
theorem dX6_allSeen_20 : decode cX6_allSeen 20 = .ok (.istore_n 2, 1) := dq_61 (dq_w dwm_470 4 rfl)
theorem dX6_allSeen_21 : decode cX6_allSeen 21 = .ok (.iconst 0, 1) := dq_3 (dq_w dwm_470 5 rfl)
theorem dX6_allSeen_22 : decode cX6_allSeen 22 = .ok (.istore_n 3, 1) := dq_62 (dq_w dwm_470 6 rfl)
theorem dX6_allSeen_23 : decode cX6_allSeen 23 = .ok (.iload_n 3, 1) := dq_29 (dq_w dwm_470 7 rfl)
theorem dX6_allSeen_24 : decode cX6_allSeen 24 = .ok (.bipush 49, 2) := dq_16 (dq_w dwm_470 8 rfl) (dq_w dwm_470 9 rfl) rfl
theorem dX6_allSeen_26 : decode cX6_allSeen 26 = .ok (.if_icmp .ge 35, 3) := dq_162 (dq_w dwm_470 10 rfl) (dq_w dwm_470 11 rfl) (dq_w dwm_470 12 rfl) (dq_p (n := 35) rfl rfl)
theorem dX6_allSeen_29 : decode cX6_allSeen 29 = .ok (.iload_n 2, 1) := dq_28 (dq_w dwm_470 13 rfl)
theorem dX6_allSeen_30 : decode cX6_allSeen 30 = .ok (.iload_n 3, 1) := dq_29 (dq_w dwm_470 14 rfl)
theorem dX6_allSeen_31 : decode cX6_allSeen 31 = .ok (.aload_n 0, 1) := dq_42 (dq_w dwm_470 15 rfl)
theorem dX6_allSeen_32 : decode cX6_allSeen 32 = .ok (.getfield 16, 3) := dq_180 (dq_w dwm_471 0 rfl) (dq_w dwm_471 1 rfl) (dq_w dwm_471 2 rfl) rfl
theorem dX6_allSeen_35 : decode cX6_allSeen 35 = .ok (.iload_n 1, 1) := dq_27 (dq_w dwm_471 3 rfl)
theorem dX6_allSeen_36 : decode cX6_allSeen 36 = .ok (.iaload, 1) := dq_46 (dq_w dwm_471 4 rfl)
theorem dX6_allSeen_37 : decode cX6_allSeen 37 = .ok (.invokestatic 103, 3) := dq_184 (dq_w dwm_471 5 rfl) (dq_w dwm_471 6 rfl) (dq_w dwm_471 7 rfl) rfl
theorem dX6_allSeen_40 : decode cX6_allSeen 40 = .ok (.aload_n 0, 1) := dq_42 (dq_w dwm_471 8 rfl)
theorem dX6_allSeen_41 : decode cX6_allSeen 41 = .ok (.iload_n 1, 1) := dq_27 (dq_w dwm_471 9 rfl)
theorem dX6_allSeen_42 : decode cX6_allSeen 42 = .ok (.invokevirtual 99, 3) := dq_182 (dq_w dwm_471 10 rfl) (dq_w dwm_471 11 rfl) (dq_w dwm_471 12 rfl) rfl
theorem dX6_allSeen_45 : decode cX6_allSeen 45 = .ok (.if_icmp .gt 7, 3) := dq_163 (dq_w dwm_471 13 rfl) (dq_w dwm_471 14 rfl) (dq_w dwm_471 15 rfl) (dq_p (n := 7) rfl rfl)
theorem dX6_allSeen_48 : decode cX6_allSeen 48 = .ok (.iconst 1, 1) := dq_4 (dq_w dwm_472 0 rfl)
theorem dX6_allSeen_49 : decode cX6_allSeen 49 = .ok (.goto 4, 3) := dq_167 (dq_w dwm_472 1 rfl) (dq_w dwm_472 2 rfl) (dq_w dwm_472 3 rfl) (dq_p (n := 4) rfl rfl)
theorem dX6_allSeen_52 : decode cX6_allSeen 52 = .ok (.iconst 0, 1) := dq_3 (dq_w dwm_472 4 rfl)
theorem dX6_allSeen_53 : decode cX6_allSeen 53 = .ok (.iadd, 1) := dq_96 (dq_w dwm_472 5 rfl)
theorem dX6_allSeen_54 : decode cX6_allSeen 54 = .ok (.istore_n 2, 1) := dq_61 (dq_w dwm_472 6 rfl)
theorem dX6_allSeen_55 : decode cX6_allSeen 55 = .ok (.iinc 3 1, 3) := dq_132 (dq_w dwm_472 7 rfl) (dq_w dwm_472 8 rfl) rfl (dq_w dwm_472 9 rfl) rfl
theorem dX6_allSeen_58 : decode cX6_allSeen 58 = .ok (.goto (-35), 3) := dq_167 (dq_w dwm_472 10 rfl) (dq_w dwm_472 11 rfl) (dq_w dwm_472 12 rfl) (dq_n (m := 35) rfl rfl)
theorem dX6_allSeen_61 : decode cX6_allSeen 61 = .ok (.iload_n 2, 1) := dq_28 (dq_w dwm_472 13 rfl)
theorem dX6_allSeen_62 : decode cX6_allSeen 62 = .ok (.ireturn, 1) := dq_172 (dq_w dwm_472 14 rfl)
theorem dwm_473 : (cX6_gaps.data.toList.drop 0).take 16 = [42, 3, 181, 0, 79, 16, 247, 60, 42, 182, 0, 196, 3, 61, 28, 16] := by decide +kernel
theorem dwm_474 : (cX6_gaps.data.toList.drop 16).take 16 = [60, 163, 0, 38, 27, 156, 0, 34, 42, 182, 0, 247, 62, 42, 3, 182] := by decide +kernel
theorem dwm_475 : (cX6_gaps.data.toList.drop 32).take 16 = [0, 135, 42, 182, 0, 247, 29, 160, 0, 7, 28, 167, 0, 5, 16, 247] := by decide +kernel
theorem dwm_476 : (cX6_gaps.data.toList.drop 48).take 16 = [60, 132, 2, 1, 167, 255, 218, 42, 182, 0, 202, 27, 172] := by decide +kernel
theorem dX6_gaps_0 : decode cX6_gaps 0 = .ok (.aload_n 0, 1) := dq_42 (dq_w dwm_473 0 rfl)
theorem dX6_gaps_1 : decode cX6_gaps 1 = .ok (.iconst 0, 1) := dq_3 (dq_w dwm_473 1 rfl)
theorem dX6_gaps_2 : decode cX6_gaps 2 = .ok (.putfield 79, 3) := dq_181 (dq_w dwm_473 2 rfl) (dq_w dwm_473 3 rfl) (dq_w dwm_473 4 rfl) rfl
theorem dX6_gaps_5 : decode cX6_gaps 5 = .ok (.bipush (-9), 2) := dq_16 (dq_w dwm_473 5 rfl) (dq_w dwm_473 6 rfl) rfl
theorem dX6_gaps_7 : decode cX6_gaps 7 = .ok (.istore_n 1, 1) := dq_60 (dq_w dwm_473 7 rfl)
theorem dX6_gaps_8 : decode cX6_gaps 8 = .ok (.aload_n 0, 1) := dq_42 (dq_w dwm_473 8 rfl)
theorem dX6_gaps_9 : decode cX6_gaps 9 = .ok (.invokevirtual 196, 3) := dq_182 (dq_w dwm_473 9 rfl) (dq_w dwm_473 10 rfl) (dq_w dwm_473 11 rfl) rfl
theorem dX6_gaps_12 : decode cX6_gaps 12 = .ok (.iconst 0, 1) := dq_3 (dq_w dwm_473 12 rfl)
theorem dX6_gaps_13 : decode cX6_gaps 13 = .ok (.istore_n 2, 1) := dq_61 (dq_w dwm_473 13 rfl)
theorem dX6_gaps_14 : decode cX6_gaps 14 = .ok (.iload_n 2, 1) := dq_28 (dq_w dwm_473 14 rfl)
theorem dX6_gaps_15 : decode cX6_gaps 15 = .ok (.bipush 60, 2) := dq_16 (dq_w dwm_473 15 rfl) (dq_w dwm_474 0 rfl) rfl
theorem dX6_gaps_17 : decode cX6_gaps 17 = .ok (.if_icmp .gt 38, 3) := dq_163 (dq_w dwm_474 1 rfl) (dq_w dwm_474 2 rfl) (dq_w dwm_474 3 rfl) (dq_p (n := 38) rfl rfl)
theorem dX6_gaps_20 : decode cX6_gaps 20 = .ok (.iload_n 1, 1) := dq_27 (dq_w dwm_474 4 rfl)
theorem dX6_gaps_21 : decode cX6_gaps 21 = .ok (.ifCond .ge 34, 3) := dq_156 (dq_w dwm_474 5 rfl) (dq_w dwm_474 6 rfl) (dq_w dwm_474 7 rfl) (dq_p (n := 34) rfl rfl)
theorem dX6_gaps_24 : decode cX6_gaps 24 = .ok (.aload_n 0, 1) := dq_42 (dq_w dwm_474 8 rfl)
theorem dX6_gaps_25 : decode cX6_gaps 25 = .ok (.invokevirtual 247, 3) := dq_182 (dq_w dwm_474 9 rfl) (dq_w dwm_474 10 rfl) (dq_w dwm_474 11 rfl) rfl
theorem dX6_gaps_28 : decode cX6_gaps 28 = .ok (.istore_n 3, 1) := dq_62 (dq_w dwm_474 12 rfl)
theorem dX6_gaps_29 : decode cX6_gaps 29 = .ok (.aload_n 0, 1) := dq_42 (dq_w dwm_474 13 rfl)
theorem dX6_gaps_30 : decode cX6_gaps 30 = .ok (.iconst 0, 1) := dq_3 (dq_w dwm_474 14 rfl)
theorem dX6_gaps_31 : decode cX6_gaps 31 = .ok (.invokevirtual 135, 3) := dq_182 (dq_w dwm_474 15 rfl) (dq_w dwm_475 0 rfl) (dq_w dwm_475 1 rfl) rfl
theorem dX6_gaps_34 : decode cX6_gaps 34 = .ok (.aload_n 0, 1) := dq_42 (dq_w dwm_475 2 rfl)
theorem dX6_gaps_35 : decode cX6_gaps 35 = .ok (.invokevirtual 247, 3) := dq_182 (dq_w dwm_475 3 rfl) (dq_w dwm_475 4 rfl) (dq_w dwm_475 5 rfl) rfl
theorem dX6_gaps_38 : decode cX6_gaps 38 = .ok (.iload_n 3, 1) := dq_29 (dq_w dwm_475 6 rfl)
theorem dX6_gaps_39 : decode cX6_gaps 39 = .ok (.if_icmp .ne 7, 3) := dq_160 (dq_w dwm_475 7 rfl) (dq_w dwm_475 8 rfl) (dq_w dwm_475 9 rfl) (dq_p (n := 7) rfl rfl)
theorem dX6_gaps_42 : decode cX6_gaps 42 = .ok (.iload_n 2, 1) := dq_28 (dq_w dwm_475 10 rfl)
theorem dX6_gaps_43 : decode cX6_gaps 43 = .ok (.goto 5, 3) := dq_167 (dq_w dwm_475 11 rfl) (dq_w dwm_475 12 rfl) (dq_w dwm_475 13 rfl) (dq_p (n := 5) rfl rfl)
theorem dX6_gaps_46 : decode cX6_gaps 46 = .ok (.bipush (-9), 2) := dq_16 (dq_w dwm_475 14 rfl) (dq_w dwm_475 15 rfl) rfl
theorem dX6_gaps_48 : decode cX6_gaps 48 = .ok (.istore_n 1, 1) := dq_60 (dq_w dwm_476 0 rfl)
theorem dX6_gaps_49 : decode cX6_gaps 49 = .ok (.iinc 2 1, 3) := dq_132 (dq_w dwm_476 1 rfl) (dq_w dwm_476 2 rfl) rfl (dq_w dwm_476 3 rfl) rfl
theorem dX6_gaps_52 : decode cX6_gaps 52 = .ok (.goto (-38), 3) := dq_167 (dq_w dwm_476 4 rfl) (dq_w dwm_476 5 rfl) (dq_w dwm_476 6 rfl) (dq_n (m := 38) rfl rfl)
theorem dX6_gaps_55 : decode cX6_gaps 55 = .ok (.aload_n 0, 1) := dq_42 (dq_w dwm_476 7 rfl)
theorem dX6_gaps_56 : decode cX6_gaps 56 = .ok (.invokevirtual 202, 3) := dq_182 (dq_w dwm_476 8 rfl) (dq_w dwm_476 9 rfl) (dq_w dwm_476 10 rfl) rfl
theorem dX6_gaps_59 : decode cX6_gaps 59 = .ok (.iload_n 1, 1) := dq_27 (dq_w dwm_476 11 rfl)
theorem dX6_gaps_60 : decode cX6_gaps 60 = .ok (.ireturn, 1) := dq_172 (dq_w dwm_476 12 rfl)
theorem dwm_477 : (cX6_blind.data.toList.drop 0).take 16 = [42, 3, 181, 0, 79, 3, 60, 3, 61, 28, 42, 180, 0, 92, 162, 0] := by decide +kernel
theorem dwm_478 : (cX6_blind.data.toList.drop 16).take 16 = [33, 27, 42, 28, 42, 180, 0, 22, 28, 46, 182, 0, 128, 154, 0, 9] := by decide +kernel
theorem dwm_479 : (cX6_blind.data.toList.drop 32).take 16 = [4, 28, 120, 167, 0, 4, 3, 128, 60, 132, 2, 1, 167, 255, 221, 27] := by decide +kernel
theorem dwm_480 : (cX6_blind.data.toList.drop 48).take 16 = [172] := by decide +kernel
theorem dX6_blind_0 : decode cX6_blind 0 = .ok (.aload_n 0, 1) := dq_42 (dq_w dwm_477 0 rfl)
theorem dX6_blind_1 : decode cX6_blind 1 = .ok (.iconst 0, 1) := dq_3 (dq_w dwm_477 1 rfl)
theorem dX6_blind_2 : decode cX6_blind 2 = .ok (.putfield 79, 3) := dq_181 (dq_w dwm_477 2 rfl) (dq_w dwm_477 3 rfl) (dq_w dwm_477 4 rfl) rfl
theorem dX6_blind_5 : decode cX6_blind 5 = .ok (.iconst 0, 1) := dq_3 (dq_w dwm_477 5 rfl)
theorem dX6_blind_6 : decode cX6_blind 6 = .ok (.istore_n 1, 1) := dq_60 (dq_w dwm_477 6 rfl)
theorem dX6_blind_7 : decode cX6_blind 7 = .ok (.iconst 0, 1) := dq_3 (dq_w dwm_477 7 rfl)
theorem dX6_blind_8 : decode cX6_blind 8 = .ok (.istore_n 2, 1) := dq_61 (dq_w dwm_477 8 rfl)
theorem dX6_blind_9 : decode cX6_blind 9 = .ok (.iload_n 2, 1) := dq_28 (dq_w dwm_477 9 rfl)
theorem dX6_blind_10 : decode cX6_blind 10 = .ok (.aload_n 0, 1) := dq_42 (dq_w dwm_477 10 rfl)
theorem dX6_blind_11 : decode cX6_blind 11 = .ok (.getfield 92, 3) := dq_180 (dq_w dwm_477 11 rfl) (dq_w dwm_477 12 rfl) (dq_w dwm_477 13 rfl) rfl
theorem dX6_blind_14 : decode cX6_blind 14 = .ok (.if_icmp .ge 33, 3) := dq_162 (dq_w dwm_477 14 rfl) (dq_w dwm_477 15 rfl) (dq_w dwm_478 0 rfl) (dq_p (n := 33) rfl rfl)
theorem dX6_blind_17 : decode cX6_blind 17 = .ok (.iload_n 1, 1) := dq_27 (dq_w dwm_478 1 rfl)
theorem dX6_blind_18 : decode cX6_blind 18 = .ok (.aload_n 0, 1) := dq_42 (dq_w dwm_478 2 rfl)
theorem dX6_blind_19 : decode cX6_blind 19 = .ok (.iload_n 2, 1) := dq_28 (dq_w dwm_478 3 rfl)
theorem dX6_blind_20 : decode cX6_blind 20 = .ok (.aload_n 0, 1) := dq_42 (dq_w dwm_478 4 rfl)
theorem dX6_blind_21 : decode cX6_blind 21 = .ok (.getfield 22, 3) := dq_180 (dq_w dwm_478 5 rfl) (dq_w dwm_478 6 rfl) (dq_w dwm_478 7 rfl) rfl
theorem dX6_blind_24 : decode cX6_blind 24 = .ok (.iload_n 2, 1) := dq_28 (dq_w dwm_478 8 rfl)
theorem dX6_blind_25 : decode cX6_blind 25 = .ok (.iaload, 1) := dq_46 (dq_w dwm_478 9 rfl)
theorem dX6_blind_26 : decode cX6_blind 26 = .ok (.invokevirtual 128, 3) := dq_182 (dq_w dwm_478 10 rfl) (dq_w dwm_478 11 rfl) (dq_w dwm_478 12 rfl) rfl
theorem dX6_blind_29 : decode cX6_blind 29 = .ok (.ifCond .ne 9, 3) := dq_154 (dq_w dwm_478 13 rfl) (dq_w dwm_478 14 rfl) (dq_w dwm_478 15 rfl) (dq_p (n := 9) rfl rfl)
theorem dX6_blind_32 : decode cX6_blind 32 = .ok (.iconst 1, 1) := dq_4 (dq_w dwm_479 0 rfl)
theorem dX6_blind_33 : decode cX6_blind 33 = .ok (.iload_n 2, 1) := dq_28 (dq_w dwm_479 1 rfl)
theorem dX6_blind_34 : decode cX6_blind 34 = .ok (.ishl, 1) := dq_120 (dq_w dwm_479 2 rfl)
theorem dX6_blind_35 : decode cX6_blind 35 = .ok (.goto 4, 3) := dq_167 (dq_w dwm_479 3 rfl) (dq_w dwm_479 4 rfl) (dq_w dwm_479 5 rfl) (dq_p (n := 4) rfl rfl)
theorem dX6_blind_38 : decode cX6_blind 38 = .ok (.iconst 0, 1) := dq_3 (dq_w dwm_479 6 rfl)
theorem dX6_blind_39 : decode cX6_blind 39 = .ok (.ior, 1) := dq_128 (dq_w dwm_479 7 rfl)
theorem dX6_blind_40 : decode cX6_blind 40 = .ok (.istore_n 1, 1) := dq_60 (dq_w dwm_479 8 rfl)
theorem dX6_blind_41 : decode cX6_blind 41 = .ok (.iinc 2 1, 3) := dq_132 (dq_w dwm_479 9 rfl) (dq_w dwm_479 10 rfl) rfl (dq_w dwm_479 11 rfl) rfl
theorem dX6_blind_44 : decode cX6_blind 44 = .ok (.goto (-35), 3) := dq_167 (dq_w dwm_479 12 rfl) (dq_w dwm_479 13 rfl) (dq_w dwm_479 14 rfl) (dq_n (m := 35) rfl rfl)
theorem dX6_blind_47 : decode cX6_blind 47 = .ok (.iload_n 1, 1) := dq_27 (dq_w dwm_479 15 rfl)
theorem dX6_blind_48 : decode cX6_blind 48 = .ok (.ireturn, 1) := dq_172 (dq_w dwm_480 0 rfl)
theorem dwm_481 : (cX6_moved.data.toList.drop 0).take 16 = [42, 3, 181, 0, 79, 42, 27, 182, 0, 184, 153, 0, 20, 28, 184, 0] := by decide +kernel
theorem dwm_482 : (cX6_moved.data.toList.drop 16).take 16 = [139, 153, 0, 13, 29, 3, 16, 60, 184, 0, 240, 167, 0, 4, 2, 54] := by decide +kernel
theorem dwm_483 : (cX6_moved.data.toList.drop 32).take 16 = [4, 21, 4, 156, 0, 14, 19, 1, 15, 42, 21, 4, 182, 0, 143, 100] := by decide +kernel
theorem dwm_484 : (cX6_moved.data.toList.drop 48).take 16 = [172, 42, 182, 0, 196, 42, 29, 182, 0, 189, 42, 27, 182, 0, 113, 54] := by decide +kernel
theorem dwm_485 : (cX6_moved.data.toList.drop 64).take 16 = [5, 42, 182, 0, 202, 42, 180, 0, 25, 27, 28, 79, 42, 29, 182, 0] := by decide +kernel
theorem dwm_486 : (cX6_moved.data.toList.drop 80).take 16 = [189, 42, 27, 182, 0, 113, 54, 6, 42, 182, 0, 202, 21, 6, 21, 5] := by decide +kernel
theorem dwm_487 : (cX6_moved.data.toList.drop 96).take 16 = [100, 172] := by decide +kernel
theorem dX6_moved_0 : decode cX6_moved 0 = .ok (.aload_n 0, 1) := dq_42 (dq_w dwm_481 0 rfl)
theorem dX6_moved_1 : decode cX6_moved 1 = .ok (.iconst 0, 1) := dq_3 (dq_w dwm_481 1 rfl)
theorem dX6_moved_2 : decode cX6_moved 2 = .ok (.putfield 79, 3) := dq_181 (dq_w dwm_481 2 rfl) (dq_w dwm_481 3 rfl) (dq_w dwm_481 4 rfl) rfl
theorem dX6_moved_5 : decode cX6_moved 5 = .ok (.aload_n 0, 1) := dq_42 (dq_w dwm_481 5 rfl)
theorem dX6_moved_6 : decode cX6_moved 6 = .ok (.iload_n 1, 1) := dq_27 (dq_w dwm_481 6 rfl)
theorem dX6_moved_7 : decode cX6_moved 7 = .ok (.invokevirtual 184, 3) := dq_182 (dq_w dwm_481 7 rfl) (dq_w dwm_481 8 rfl) (dq_w dwm_481 9 rfl) rfl
theorem dX6_moved_10 : decode cX6_moved 10 = .ok (.ifCond .eq 20, 3) := dq_153 (dq_w dwm_481 10 rfl) (dq_w dwm_481 11 rfl) (dq_w dwm_481 12 rfl) (dq_p (n := 20) rfl rfl)
theorem dX6_moved_13 : decode cX6_moved 13 = .ok (.iload_n 2, 1) := dq_28 (dq_w dwm_481 13 rfl)
theorem dX6_moved_14 : decode cX6_moved 14 = .ok (.invokestatic 139, 3) := dq_184 (dq_w dwm_481 14 rfl) (dq_w dwm_481 15 rfl) (dq_w dwm_482 0 rfl) rfl
theorem dX6_moved_17 : decode cX6_moved 17 = .ok (.ifCond .eq 13, 3) := dq_153 (dq_w dwm_482 1 rfl) (dq_w dwm_482 2 rfl) (dq_w dwm_482 3 rfl) (dq_p (n := 13) rfl rfl)
theorem dX6_moved_20 : decode cX6_moved 20 = .ok (.iload_n 3, 1) := dq_29 (dq_w dwm_482 4 rfl)
theorem dX6_moved_21 : decode cX6_moved 21 = .ok (.iconst 0, 1) := dq_3 (dq_w dwm_482 5 rfl)
theorem dX6_moved_22 : decode cX6_moved 22 = .ok (.bipush 60, 2) := dq_16 (dq_w dwm_482 6 rfl) (dq_w dwm_482 7 rfl) rfl
theorem dX6_moved_24 : decode cX6_moved 24 = .ok (.invokestatic 240, 3) := dq_184 (dq_w dwm_482 8 rfl) (dq_w dwm_482 9 rfl) (dq_w dwm_482 10 rfl) rfl
theorem dX6_moved_27 : decode cX6_moved 27 = .ok (.goto 4, 3) := dq_167 (dq_w dwm_482 11 rfl) (dq_w dwm_482 12 rfl) (dq_w dwm_482 13 rfl) (dq_p (n := 4) rfl rfl)
theorem dX6_moved_30 : decode cX6_moved 30 = .ok (.iconst (-1), 1) := dq_2 (dq_w dwm_482 14 rfl)
theorem dX6_moved_31 : decode cX6_moved 31 = .ok (.istore 4, 2) := dq_54 (dq_w dwm_482 15 rfl) (dq_w dwm_483 0 rfl) rfl
theorem dX6_moved_33 : decode cX6_moved 33 = .ok (.iload 4, 2) := dq_21 (dq_w dwm_483 1 rfl) (dq_w dwm_483 2 rfl) rfl
theorem dX6_moved_35 : decode cX6_moved 35 = .ok (.ifCond .ge 14, 3) := dq_156 (dq_w dwm_483 3 rfl) (dq_w dwm_483 4 rfl) (dq_w dwm_483 5 rfl) (dq_p (n := 14) rfl rfl)
theorem dX6_moved_38 : decode cX6_moved 38 = .ok (.ldc_w 271, 3) := dq_19 (dq_w dwm_483 6 rfl) (dq_w dwm_483 7 rfl) (dq_w dwm_483 8 rfl) rfl
theorem dX6_moved_41 : decode cX6_moved 41 = .ok (.aload_n 0, 1) := dq_42 (dq_w dwm_483 9 rfl)
theorem dX6_moved_42 : decode cX6_moved 42 = .ok (.iload 4, 2) := dq_21 (dq_w dwm_483 10 rfl) (dq_w dwm_483 11 rfl) rfl
theorem dX6_moved_44 : decode cX6_moved 44 = .ok (.invokevirtual 143, 3) := dq_182 (dq_w dwm_483 12 rfl) (dq_w dwm_483 13 rfl) (dq_w dwm_483 14 rfl) rfl
theorem dX6_moved_47 : decode cX6_moved 47 = .ok (.isub, 1) := dq_100 (dq_w dwm_483 15 rfl)
theorem dX6_moved_48 : decode cX6_moved 48 = .ok (.ireturn, 1) := dq_172 (dq_w dwm_484 0 rfl)
theorem dX6_moved_49 : decode cX6_moved 49 = .ok (.aload_n 0, 1) := dq_42 (dq_w dwm_484 1 rfl)
theorem dX6_moved_50 : decode cX6_moved 50 = .ok (.invokevirtual 196, 3) := dq_182 (dq_w dwm_484 2 rfl) (dq_w dwm_484 3 rfl) (dq_w dwm_484 4 rfl) rfl
theorem dX6_moved_53 : decode cX6_moved 53 = .ok (.aload_n 0, 1) := dq_42 (dq_w dwm_484 5 rfl)
theorem dX6_moved_54 : decode cX6_moved 54 = .ok (.iload_n 3, 1) := dq_29 (dq_w dwm_484 6 rfl)
theorem dX6_moved_55 : decode cX6_moved 55 = .ok (.invokevirtual 189, 3) := dq_182 (dq_w dwm_484 7 rfl) (dq_w dwm_484 8 rfl) (dq_w dwm_484 9 rfl) rfl
theorem dX6_moved_58 : decode cX6_moved 58 = .ok (.aload_n 0, 1) := dq_42 (dq_w dwm_484 10 rfl)
theorem dX6_moved_59 : decode cX6_moved 59 = .ok (.iload_n 1, 1) := dq_27 (dq_w dwm_484 11 rfl)
theorem dX6_moved_60 : decode cX6_moved 60 = .ok (.invokevirtual 113, 3) := dq_182 (dq_w dwm_484 12 rfl) (dq_w dwm_484 13 rfl) (dq_w dwm_484 14 rfl) rfl
theorem dX6_moved_63 : decode cX6_moved 63 = .ok (.istore 5, 2) := dq_54 (dq_w dwm_484 15 rfl) (dq_w dwm_485 0 rfl) rfl
theorem dX6_moved_65 : decode cX6_moved 65 = .ok (.aload_n 0, 1) := dq_42 (dq_w dwm_485 1 rfl)
theorem dX6_moved_66 : decode cX6_moved 66 = .ok (.invokevirtual 202, 3) := dq_182 (dq_w dwm_485 2 rfl) (dq_w dwm_485 3 rfl) (dq_w dwm_485 4 rfl) rfl
theorem dX6_moved_69 : decode cX6_moved 69 = .ok (.aload_n 0, 1) := dq_42 (dq_w dwm_485 5 rfl)
theorem dX6_moved_70 : decode cX6_moved 70 = .ok (.getfield 25, 3) := dq_180 (dq_w dwm_485 6 rfl) (dq_w dwm_485 7 rfl) (dq_w dwm_485 8 rfl) rfl
theorem dX6_moved_73 : decode cX6_moved 73 = .ok (.iload_n 1, 1) := dq_27 (dq_w dwm_485 9 rfl)
theorem dX6_moved_74 : decode cX6_moved 74 = .ok (.iload_n 2, 1) := dq_28 (dq_w dwm_485 10 rfl)
theorem dX6_moved_75 : decode cX6_moved 75 = .ok (.iastore, 1) := dq_79 (dq_w dwm_485 11 rfl)
theorem dX6_moved_76 : decode cX6_moved 76 = .ok (.aload_n 0, 1) := dq_42 (dq_w dwm_485 12 rfl)
theorem dX6_moved_77 : decode cX6_moved 77 = .ok (.iload_n 3, 1) := dq_29 (dq_w dwm_485 13 rfl)
theorem dX6_moved_78 : decode cX6_moved 78 = .ok (.invokevirtual 189, 3) := dq_182 (dq_w dwm_485 14 rfl) (dq_w dwm_485 15 rfl) (dq_w dwm_486 0 rfl) rfl
theorem dX6_moved_81 : decode cX6_moved 81 = .ok (.aload_n 0, 1) := dq_42 (dq_w dwm_486 1 rfl)
theorem dX6_moved_82 : decode cX6_moved 82 = .ok (.iload_n 1, 1) := dq_27 (dq_w dwm_486 2 rfl)
theorem dX6_moved_83 : decode cX6_moved 83 = .ok (.invokevirtual 113, 3) := dq_182 (dq_w dwm_486 3 rfl) (dq_w dwm_486 4 rfl) (dq_w dwm_486 5 rfl) rfl
theorem dX6_moved_86 : decode cX6_moved 86 = .ok (.istore 6, 2) := dq_54 (dq_w dwm_486 6 rfl) (dq_w dwm_486 7 rfl) rfl
theorem dX6_moved_88 : decode cX6_moved 88 = .ok (.aload_n 0, 1) := dq_42 (dq_w dwm_486 8 rfl)
theorem dX6_moved_89 : decode cX6_moved 89 = .ok (.invokevirtual 202, 3) := dq_182 (dq_w dwm_486 9 rfl) (dq_w dwm_486 10 rfl) (dq_w dwm_486 11 rfl) rfl
theorem dX6_moved_92 : decode cX6_moved 92 = .ok (.iload 6, 2) := dq_21 (dq_w dwm_486 12 rfl) (dq_w dwm_486 13 rfl) rfl
theorem dX6_moved_94 : decode cX6_moved 94 = .ok (.iload 5, 2) := dq_21 (dq_w dwm_486 14 rfl) (dq_w dwm_486 15 rfl) rfl
theorem dX6_moved_96 : decode cX6_moved 96 = .ok (.isub, 1) := dq_100 (dq_w dwm_487 0 rfl)
theorem dX6_moved_97 : decode cX6_moved 97 = .ok (.ireturn, 1) := dq_172 (dq_w dwm_487 1 rfl)
theorem dwm_488 : (cX6_street.data.toList.drop 0).take 16 = [42, 3, 181, 0, 79, 27, 133, 9, 20, 1, 47, 184, 0, 85, 154, 0] := by decide +kernel
theorem dwm_489 : (cX6_street.data.toList.drop 16).take 16 = [9, 42, 2, 182, 0, 143, 172, 3, 61, 3, 62, 29, 42, 180, 0, 92] := by decide +kernel
theorem dwm_490 : (cX6_street.data.toList.drop 32).take 16 = [162, 0, 77, 3, 54, 4, 21, 4, 42, 180, 0, 89, 162, 0, 59, 42] := by decide +kernel
theorem dwm_491 : (cX6_street.data.toList.drop 48).take 16 = [180, 0, 31, 16, 7, 29, 104, 21, 4, 96, 46, 54, 5, 28, 21, 5] := by decide +kernel
theorem dwm_492 : (cX6_street.data.toList.drop 64).take 16 = [158, 0, 30, 42, 180, 0, 16, 21, 4, 46, 16, 7, 108, 27, 160, 0] := by decide +kernel
theorem dwm_493 : (cX6_street.data.toList.drop 80).take 16 = [16, 42, 21, 4, 21, 5, 4, 100, 182, 0, 110, 167, 0, 4, 3, 96] := by decide +kernel
theorem dwm_494 : (cX6_street.data.toList.drop 96).take 16 = [61, 132, 4, 1, 167, 255, 194, 132, 3, 1, 167, 255, 177, 28, 172] := by decide +kernel
theorem dX6_street_0 : decode cX6_street 0 = .ok (.aload_n 0, 1) := dq_42 (dq_w dwm_488 0 rfl)
theorem dX6_street_1 : decode cX6_street 1 = .ok (.iconst 0, 1) := dq_3 (dq_w dwm_488 1 rfl)
theorem dX6_street_2 : decode cX6_street 2 = .ok (.putfield 79, 3) := dq_181 (dq_w dwm_488 2 rfl) (dq_w dwm_488 3 rfl) (dq_w dwm_488 4 rfl) rfl
theorem dX6_street_5 : decode cX6_street 5 = .ok (.iload_n 1, 1) := dq_27 (dq_w dwm_488 5 rfl)
theorem dX6_street_6 : decode cX6_street 6 = .ok (.i2l, 1) := dq_133 (dq_w dwm_488 6 rfl)
theorem dX6_street_7 : decode cX6_street 7 = .ok (.lconst 0, 1) := dq_9 (dq_w dwm_488 7 rfl)
theorem dX6_street_8 : decode cX6_street 8 = .ok (.ldc2_w 303, 3) := dq_20 (dq_w dwm_488 8 rfl) (dq_w dwm_488 9 rfl) (dq_w dwm_488 10 rfl) rfl
theorem dX6_street_11 : decode cX6_street 11 = .ok (.invokestatic 85, 3) := dq_184 (dq_w dwm_488 11 rfl) (dq_w dwm_488 12 rfl) (dq_w dwm_488 13 rfl) rfl
theorem dX6_street_14 : decode cX6_street 14 = .ok (.ifCond .ne 9, 3) := dq_154 (dq_w dwm_488 14 rfl) (dq_w dwm_488 15 rfl) (dq_w dwm_489 0 rfl) (dq_p (n := 9) rfl rfl)
theorem dX6_street_17 : decode cX6_street 17 = .ok (.aload_n 0, 1) := dq_42 (dq_w dwm_489 1 rfl)
theorem dX6_street_18 : decode cX6_street 18 = .ok (.iconst (-1), 1) := dq_2 (dq_w dwm_489 2 rfl)
theorem dX6_street_19 : decode cX6_street 19 = .ok (.invokevirtual 143, 3) := dq_182 (dq_w dwm_489 3 rfl) (dq_w dwm_489 4 rfl) (dq_w dwm_489 5 rfl) rfl
theorem dX6_street_22 : decode cX6_street 22 = .ok (.ireturn, 1) := dq_172 (dq_w dwm_489 6 rfl)
theorem dX6_street_23 : decode cX6_street 23 = .ok (.iconst 0, 1) := dq_3 (dq_w dwm_489 7 rfl)
theorem dX6_street_24 : decode cX6_street 24 = .ok (.istore_n 2, 1) := dq_61 (dq_w dwm_489 8 rfl)
theorem dX6_street_25 : decode cX6_street 25 = .ok (.iconst 0, 1) := dq_3 (dq_w dwm_489 9 rfl)
theorem dX6_street_26 : decode cX6_street 26 = .ok (.istore_n 3, 1) := dq_62 (dq_w dwm_489 10 rfl)
theorem dX6_street_27 : decode cX6_street 27 = .ok (.iload_n 3, 1) := dq_29 (dq_w dwm_489 11 rfl)
theorem dX6_street_28 : decode cX6_street 28 = .ok (.aload_n 0, 1) := dq_42 (dq_w dwm_489 12 rfl)
theorem dX6_street_29 : decode cX6_street 29 = .ok (.getfield 92, 3) := dq_180 (dq_w dwm_489 13 rfl) (dq_w dwm_489 14 rfl) (dq_w dwm_489 15 rfl) rfl
theorem dX6_street_32 : decode cX6_street 32 = .ok (.if_icmp .ge 77, 3) := dq_162 (dq_w dwm_490 0 rfl) (dq_w dwm_490 1 rfl) (dq_w dwm_490 2 rfl) (dq_p (n := 77) rfl rfl)
theorem dX6_street_35 : decode cX6_street 35 = .ok (.iconst 0, 1) := dq_3 (dq_w dwm_490 3 rfl)
theorem dX6_street_36 : decode cX6_street 36 = .ok (.istore 4, 2) := dq_54 (dq_w dwm_490 4 rfl) (dq_w dwm_490 5 rfl) rfl
theorem dX6_street_38 : decode cX6_street 38 = .ok (.iload 4, 2) := dq_21 (dq_w dwm_490 6 rfl) (dq_w dwm_490 7 rfl) rfl
theorem dX6_street_40 : decode cX6_street 40 = .ok (.aload_n 0, 1) := dq_42 (dq_w dwm_490 8 rfl)
theorem dX6_street_41 : decode cX6_street 41 = .ok (.getfield 89, 3) := dq_180 (dq_w dwm_490 9 rfl) (dq_w dwm_490 10 rfl) (dq_w dwm_490 11 rfl) rfl
theorem dX6_street_44 : decode cX6_street 44 = .ok (.if_icmp .ge 59, 3) := dq_162 (dq_w dwm_490 12 rfl) (dq_w dwm_490 13 rfl) (dq_w dwm_490 14 rfl) (dq_p (n := 59) rfl rfl)
theorem dX6_street_47 : decode cX6_street 47 = .ok (.aload_n 0, 1) := dq_42 (dq_w dwm_490 15 rfl)
theorem dX6_street_48 : decode cX6_street 48 = .ok (.getfield 31, 3) := dq_180 (dq_w dwm_491 0 rfl) (dq_w dwm_491 1 rfl) (dq_w dwm_491 2 rfl) rfl
theorem dX6_street_51 : decode cX6_street 51 = .ok (.bipush 7, 2) := dq_16 (dq_w dwm_491 3 rfl) (dq_w dwm_491 4 rfl) rfl
theorem dX6_street_53 : decode cX6_street 53 = .ok (.iload_n 3, 1) := dq_29 (dq_w dwm_491 5 rfl)
theorem dX6_street_54 : decode cX6_street 54 = .ok (.imul, 1) := dq_104 (dq_w dwm_491 6 rfl)
theorem dX6_street_55 : decode cX6_street 55 = .ok (.iload 4, 2) := dq_21 (dq_w dwm_491 7 rfl) (dq_w dwm_491 8 rfl) rfl
theorem dX6_street_57 : decode cX6_street 57 = .ok (.iadd, 1) := dq_96 (dq_w dwm_491 9 rfl)
theorem dX6_street_58 : decode cX6_street 58 = .ok (.iaload, 1) := dq_46 (dq_w dwm_491 10 rfl)
theorem dX6_street_59 : decode cX6_street 59 = .ok (.istore 5, 2) := dq_54 (dq_w dwm_491 11 rfl) (dq_w dwm_491 12 rfl) rfl
theorem dX6_street_61 : decode cX6_street 61 = .ok (.iload_n 2, 1) := dq_28 (dq_w dwm_491 13 rfl)
theorem dX6_street_62 : decode cX6_street 62 = .ok (.iload 5, 2) := dq_21 (dq_w dwm_491 14 rfl) (dq_w dwm_491 15 rfl) rfl
theorem dX6_street_64 : decode cX6_street 64 = .ok (.ifCond .le 30, 3) := dq_158 (dq_w dwm_492 0 rfl) (dq_w dwm_492 1 rfl) (dq_w dwm_492 2 rfl) (dq_p (n := 30) rfl rfl)
theorem dX6_street_67 : decode cX6_street 67 = .ok (.aload_n 0, 1) := dq_42 (dq_w dwm_492 3 rfl)
theorem dX6_street_68 : decode cX6_street 68 = .ok (.getfield 16, 3) := dq_180 (dq_w dwm_492 4 rfl) (dq_w dwm_492 5 rfl) (dq_w dwm_492 6 rfl) rfl
theorem dX6_street_71 : decode cX6_street 71 = .ok (.iload 4, 2) := dq_21 (dq_w dwm_492 7 rfl) (dq_w dwm_492 8 rfl) rfl
theorem dX6_street_73 : decode cX6_street 73 = .ok (.iaload, 1) := dq_46 (dq_w dwm_492 9 rfl)
theorem dX6_street_74 : decode cX6_street 74 = .ok (.bipush 7, 2) := dq_16 (dq_w dwm_492 10 rfl) (dq_w dwm_492 11 rfl) rfl
theorem dX6_street_76 : decode cX6_street 76 = .ok (.idiv, 1) := dq_108 (dq_w dwm_492 12 rfl)
theorem dX6_street_77 : decode cX6_street 77 = .ok (.iload_n 1, 1) := dq_27 (dq_w dwm_492 13 rfl)
theorem dX6_street_78 : decode cX6_street 78 = .ok (.if_icmp .ne 16, 3) := dq_160 (dq_w dwm_492 14 rfl) (dq_w dwm_492 15 rfl) (dq_w dwm_493 0 rfl) (dq_p (n := 16) rfl rfl)
theorem dX6_street_81 : decode cX6_street 81 = .ok (.aload_n 0, 1) := dq_42 (dq_w dwm_493 1 rfl)
theorem dX6_street_82 : decode cX6_street 82 = .ok (.iload 4, 2) := dq_21 (dq_w dwm_493 2 rfl) (dq_w dwm_493 3 rfl) rfl
theorem dX6_street_84 : decode cX6_street 84 = .ok (.iload 5, 2) := dq_21 (dq_w dwm_493 4 rfl) (dq_w dwm_493 5 rfl) rfl
theorem dX6_street_86 : decode cX6_street 86 = .ok (.iconst 1, 1) := dq_4 (dq_w dwm_493 6 rfl)
theorem dX6_street_87 : decode cX6_street 87 = .ok (.isub, 1) := dq_100 (dq_w dwm_493 7 rfl)
theorem dX6_street_88 : decode cX6_street 88 = .ok (.invokevirtual 110, 3) := dq_182 (dq_w dwm_493 8 rfl) (dq_w dwm_493 9 rfl) (dq_w dwm_493 10 rfl) rfl
theorem dX6_street_91 : decode cX6_street 91 = .ok (.goto 4, 3) := dq_167 (dq_w dwm_493 11 rfl) (dq_w dwm_493 12 rfl) (dq_w dwm_493 13 rfl) (dq_p (n := 4) rfl rfl)
theorem dX6_street_94 : decode cX6_street 94 = .ok (.iconst 0, 1) := dq_3 (dq_w dwm_493 14 rfl)
theorem dX6_street_95 : decode cX6_street 95 = .ok (.iadd, 1) := dq_96 (dq_w dwm_493 15 rfl)
theorem dX6_street_96 : decode cX6_street 96 = .ok (.istore_n 2, 1) := dq_61 (dq_w dwm_494 0 rfl)
theorem dX6_street_97 : decode cX6_street 97 = .ok (.iinc 4 1, 3) := dq_132 (dq_w dwm_494 1 rfl) (dq_w dwm_494 2 rfl) rfl (dq_w dwm_494 3 rfl) rfl
theorem dX6_street_100 : decode cX6_street 100 = .ok (.goto (-62), 3) := dq_167 (dq_w dwm_494 4 rfl) (dq_w dwm_494 5 rfl) (dq_w dwm_494 6 rfl) (dq_n (m := 62) rfl rfl)
theorem dX6_street_103 : decode cX6_street 103 = .ok (.iinc 3 1, 3) := dq_132 (dq_w dwm_494 7 rfl) (dq_w dwm_494 8 rfl) rfl (dq_w dwm_494 9 rfl) rfl
theorem dX6_street_106 : decode cX6_street 106 = .ok (.goto (-79), 3) := dq_167 (dq_w dwm_494 10 rfl) (dq_w dwm_494 11 rfl) (dq_w dwm_494 12 rfl) (dq_n (m := 79) rfl rfl)
theorem dX6_street_109 : decode cX6_street 109 = .ok (.iload_n 2, 1) := dq_28 (dq_w dwm_494 13 rfl)
theorem dX6_street_110 : decode cX6_street 110 = .ok (.ireturn, 1) := dq_172 (dq_w dwm_494 14 rfl)
theorem dwm_495 : (cX6_row.data.toList.drop 0).take 16 = [42, 3, 181, 0, 79, 27, 156, 0, 10, 42, 16, 252, 182, 0, 143, 172] := by decide +kernel
theorem dwm_496 : (cX6_row.data.toList.drop 16).take 16 = [27, 16, 99, 163, 0, 12, 42, 180, 1, 19, 16, 12, 160, 0, 10, 42] := by decide +kernel
theorem dwm_497 : (cX6_row.data.toList.drop 32).take 16 = [16, 250, 182, 0, 143, 172, 42, 180, 0, 73, 42, 180, 1, 19, 27, 79] := by decide +kernel
theorem dwm_498 : (cX6_row.data.toList.drop 48).take 16 = [42, 89, 180, 1, 19, 4, 96, 181, 1, 19, 42, 180, 1, 19, 172] := by decide +kernel
theorem dX6_row_0 : decode cX6_row 0 = .ok (.aload_n 0, 1) := dq_42 (dq_w dwm_495 0 rfl)
theorem dX6_row_1 : decode cX6_row 1 = .ok (.iconst 0, 1) := dq_3 (dq_w dwm_495 1 rfl)
theorem dX6_row_2 : decode cX6_row 2 = .ok (.putfield 79, 3) := dq_181 (dq_w dwm_495 2 rfl) (dq_w dwm_495 3 rfl) (dq_w dwm_495 4 rfl) rfl
theorem dX6_row_5 : decode cX6_row 5 = .ok (.iload_n 1, 1) := dq_27 (dq_w dwm_495 5 rfl)
theorem dX6_row_6 : decode cX6_row 6 = .ok (.ifCond .ge 10, 3) := dq_156 (dq_w dwm_495 6 rfl) (dq_w dwm_495 7 rfl) (dq_w dwm_495 8 rfl) (dq_p (n := 10) rfl rfl)
theorem dX6_row_9 : decode cX6_row 9 = .ok (.aload_n 0, 1) := dq_42 (dq_w dwm_495 9 rfl)
theorem dX6_row_10 : decode cX6_row 10 = .ok (.bipush (-4), 2) := dq_16 (dq_w dwm_495 10 rfl) (dq_w dwm_495 11 rfl) rfl
theorem dX6_row_12 : decode cX6_row 12 = .ok (.invokevirtual 143, 3) := dq_182 (dq_w dwm_495 12 rfl) (dq_w dwm_495 13 rfl) (dq_w dwm_495 14 rfl) rfl
theorem dX6_row_15 : decode cX6_row 15 = .ok (.ireturn, 1) := dq_172 (dq_w dwm_495 15 rfl)
theorem dX6_row_16 : decode cX6_row 16 = .ok (.iload_n 1, 1) := dq_27 (dq_w dwm_496 0 rfl)
theorem dX6_row_17 : decode cX6_row 17 = .ok (.bipush 99, 2) := dq_16 (dq_w dwm_496 1 rfl) (dq_w dwm_496 2 rfl) rfl
theorem dX6_row_19 : decode cX6_row 19 = .ok (.if_icmp .gt 12, 3) := dq_163 (dq_w dwm_496 3 rfl) (dq_w dwm_496 4 rfl) (dq_w dwm_496 5 rfl) (dq_p (n := 12) rfl rfl)
theorem dX6_row_22 : decode cX6_row 22 = .ok (.aload_n 0, 1) := dq_42 (dq_w dwm_496 6 rfl)
theorem dX6_row_23 : decode cX6_row 23 = .ok (.getfield 275, 3) := dq_180 (dq_w dwm_496 7 rfl) (dq_w dwm_496 8 rfl) (dq_w dwm_496 9 rfl) rfl
theorem dX6_row_26 : decode cX6_row 26 = .ok (.bipush 12, 2) := dq_16 (dq_w dwm_496 10 rfl) (dq_w dwm_496 11 rfl) rfl
theorem dX6_row_28 : decode cX6_row 28 = .ok (.if_icmp .ne 10, 3) := dq_160 (dq_w dwm_496 12 rfl) (dq_w dwm_496 13 rfl) (dq_w dwm_496 14 rfl) (dq_p (n := 10) rfl rfl)
theorem dX6_row_31 : decode cX6_row 31 = .ok (.aload_n 0, 1) := dq_42 (dq_w dwm_496 15 rfl)
theorem dX6_row_32 : decode cX6_row 32 = .ok (.bipush (-6), 2) := dq_16 (dq_w dwm_497 0 rfl) (dq_w dwm_497 1 rfl) rfl
theorem dX6_row_34 : decode cX6_row 34 = .ok (.invokevirtual 143, 3) := dq_182 (dq_w dwm_497 2 rfl) (dq_w dwm_497 3 rfl) (dq_w dwm_497 4 rfl) rfl
theorem dX6_row_37 : decode cX6_row 37 = .ok (.ireturn, 1) := dq_172 (dq_w dwm_497 5 rfl)
theorem dX6_row_38 : decode cX6_row 38 = .ok (.aload_n 0, 1) := dq_42 (dq_w dwm_497 6 rfl)
theorem dX6_row_39 : decode cX6_row 39 = .ok (.getfield 73, 3) := dq_180 (dq_w dwm_497 7 rfl) (dq_w dwm_497 8 rfl) (dq_w dwm_497 9 rfl) rfl
theorem dX6_row_42 : decode cX6_row 42 = .ok (.aload_n 0, 1) := dq_42 (dq_w dwm_497 10 rfl)
theorem dX6_row_43 : decode cX6_row 43 = .ok (.getfield 275, 3) := dq_180 (dq_w dwm_497 11 rfl) (dq_w dwm_497 12 rfl) (dq_w dwm_497 13 rfl) rfl
theorem dX6_row_46 : decode cX6_row 46 = .ok (.iload_n 1, 1) := dq_27 (dq_w dwm_497 14 rfl)
theorem dX6_row_47 : decode cX6_row 47 = .ok (.iastore, 1) := dq_79 (dq_w dwm_497 15 rfl)
theorem dX6_row_48 : decode cX6_row 48 = .ok (.aload_n 0, 1) := dq_42 (dq_w dwm_498 0 rfl)
theorem dX6_row_49 : decode cX6_row 49 = .ok (.dup, 1) := dq_89 (dq_w dwm_498 1 rfl)
theorem dX6_row_50 : decode cX6_row 50 = .ok (.getfield 275, 3) := dq_180 (dq_w dwm_498 2 rfl) (dq_w dwm_498 3 rfl) (dq_w dwm_498 4 rfl) rfl
theorem dX6_row_53 : decode cX6_row 53 = .ok (.iconst 1, 1) := dq_4 (dq_w dwm_498 5 rfl)
theorem dX6_row_54 : decode cX6_row 54 = .ok (.iadd, 1) := dq_96 (dq_w dwm_498 6 rfl)
theorem dX6_row_55 : decode cX6_row 55 = .ok (.putfield 275, 3) := dq_181 (dq_w dwm_498 7 rfl) (dq_w dwm_498 8 rfl) (dq_w dwm_498 9 rfl) rfl
theorem dX6_row_58 : decode cX6_row 58 = .ok (.aload_n 0, 1) := dq_42 (dq_w dwm_498 10 rfl)
theorem dX6_row_59 : decode cX6_row 59 = .ok (.getfield 275, 3) := dq_180 (dq_w dwm_498 11 rfl) (dq_w dwm_498 12 rfl) (dq_w dwm_498 13 rfl) rfl
theorem dX6_row_62 : decode cX6_row 62 = .ok (.ireturn, 1) := dq_172 (dq_w dwm_498 14 rfl)
theorem dwm_499 : (cX6_judge.data.toList.drop 0).take 16 = [42, 3, 181, 0, 79, 42, 180, 1, 19, 60, 42, 3, 181, 1, 19, 3] := by decide +kernel
theorem dwm_500 : (cX6_judge.data.toList.drop 16).take 16 = [61, 28, 27, 162, 0, 36, 28, 42, 180, 0, 89, 162, 0, 20, 42, 180] := by decide +kernel
theorem dwm_501 : (cX6_judge.data.toList.drop 32).take 16 = [0, 73, 28, 46, 42, 28, 182, 0, 229, 184, 0, 119, 159, 0, 5, 28] := by decide +kernel
theorem dwm_502 : (cX6_judge.data.toList.drop 48).take 16 = [172, 132, 2, 1, 167, 255, 221, 16, 247, 172] := by decide +kernel
theorem dX6_judge_0 : decode cX6_judge 0 = .ok (.aload_n 0, 1) := dq_42 (dq_w dwm_499 0 rfl)
theorem dX6_judge_1 : decode cX6_judge 1 = .ok (.iconst 0, 1) := dq_3 (dq_w dwm_499 1 rfl)
theorem dX6_judge_2 : decode cX6_judge 2 = .ok (.putfield 79, 3) := dq_181 (dq_w dwm_499 2 rfl) (dq_w dwm_499 3 rfl) (dq_w dwm_499 4 rfl) rfl
theorem dX6_judge_5 : decode cX6_judge 5 = .ok (.aload_n 0, 1) := dq_42 (dq_w dwm_499 5 rfl)
theorem dX6_judge_6 : decode cX6_judge 6 = .ok (.getfield 275, 3) := dq_180 (dq_w dwm_499 6 rfl) (dq_w dwm_499 7 rfl) (dq_w dwm_499 8 rfl) rfl
theorem dX6_judge_9 : decode cX6_judge 9 = .ok (.istore_n 1, 1) := dq_60 (dq_w dwm_499 9 rfl)
theorem dX6_judge_10 : decode cX6_judge 10 = .ok (.aload_n 0, 1) := dq_42 (dq_w dwm_499 10 rfl)
theorem dX6_judge_11 : decode cX6_judge 11 = .ok (.iconst 0, 1) := dq_3 (dq_w dwm_499 11 rfl)
theorem dX6_judge_12 : decode cX6_judge 12 = .ok (.putfield 275, 3) := dq_181 (dq_w dwm_499 12 rfl) (dq_w dwm_499 13 rfl) (dq_w dwm_499 14 rfl) rfl
theorem dX6_judge_15 : decode cX6_judge 15 = .ok (.iconst 0, 1) := dq_3 (dq_w dwm_499 15 rfl)
theorem dX6_judge_16 : decode cX6_judge 16 = .ok (.istore_n 2, 1) := dq_61 (dq_w dwm_500 0 rfl)
theorem dX6_judge_17 : decode cX6_judge 17 = .ok (.iload_n 2, 1) := dq_28 (dq_w dwm_500 1 rfl)
theorem dX6_judge_18 : decode cX6_judge 18 = .ok (.iload_n 1, 1) := dq_27 (dq_w dwm_500 2 rfl)
theorem dX6_judge_19 : decode cX6_judge 19 = .ok (.if_icmp .ge 36, 3) := dq_162 (dq_w dwm_500 3 rfl) (dq_w dwm_500 4 rfl) (dq_w dwm_500 5 rfl) (dq_p (n := 36) rfl rfl)
theorem dX6_judge_22 : decode cX6_judge 22 = .ok (.iload_n 2, 1) := dq_28 (dq_w dwm_500 6 rfl)
theorem dX6_judge_23 : decode cX6_judge 23 = .ok (.aload_n 0, 1) := dq_42 (dq_w dwm_500 7 rfl)
theorem dX6_judge_24 : decode cX6_judge 24 = .ok (.getfield 89, 3) := dq_180 (dq_w dwm_500 8 rfl) (dq_w dwm_500 9 rfl) (dq_w dwm_500 10 rfl) rfl
theorem dX6_judge_27 : decode cX6_judge 27 = .ok (.if_icmp .ge 20, 3) := dq_162 (dq_w dwm_500 11 rfl) (dq_w dwm_500 12 rfl) (dq_w dwm_500 13 rfl) (dq_p (n := 20) rfl rfl)
theorem dX6_judge_30 : decode cX6_judge 30 = .ok (.aload_n 0, 1) := dq_42 (dq_w dwm_500 14 rfl)
theorem dX6_judge_31 : decode cX6_judge 31 = .ok (.getfield 73, 3) := dq_180 (dq_w dwm_500 15 rfl) (dq_w dwm_501 0 rfl) (dq_w dwm_501 1 rfl) rfl
theorem dX6_judge_34 : decode cX6_judge 34 = .ok (.iload_n 2, 1) := dq_28 (dq_w dwm_501 2 rfl)
theorem dX6_judge_35 : decode cX6_judge 35 = .ok (.iaload, 1) := dq_46 (dq_w dwm_501 3 rfl)
theorem dX6_judge_36 : decode cX6_judge 36 = .ok (.aload_n 0, 1) := dq_42 (dq_w dwm_501 4 rfl)
theorem dX6_judge_37 : decode cX6_judge 37 = .ok (.iload_n 2, 1) := dq_28 (dq_w dwm_501 5 rfl)
theorem dX6_judge_38 : decode cX6_judge 38 = .ok (.invokevirtual 229, 3) := dq_182 (dq_w dwm_501 6 rfl) (dq_w dwm_501 7 rfl) (dq_w dwm_501 8 rfl) rfl
theorem dX6_judge_41 : decode cX6_judge 41 = .ok (.invokestatic 119, 3) := dq_184 (dq_w dwm_501 9 rfl) (dq_w dwm_501 10 rfl) (dq_w dwm_501 11 rfl) rfl
theorem dX6_judge_44 : decode cX6_judge 44 = .ok (.if_icmp .eq 5, 3) := dq_159 (dq_w dwm_501 12 rfl) (dq_w dwm_501 13 rfl) (dq_w dwm_501 14 rfl) (dq_p (n := 5) rfl rfl)
theorem dX6_judge_47 : decode cX6_judge 47 = .ok (.iload_n 2, 1) := dq_28 (dq_w dwm_501 15 rfl)
theorem dX6_judge_48 : decode cX6_judge 48 = .ok (.ireturn, 1) := dq_172 (dq_w dwm_502 0 rfl)
theorem dX6_judge_49 : decode cX6_judge 49 = .ok (.iinc 2 1, 3) := dq_132 (dq_w dwm_502 1 rfl) (dq_w dwm_502 2 rfl) rfl (dq_w dwm_502 3 rfl) rfl
theorem dX6_judge_52 : decode cX6_judge 52 = .ok (.goto (-35), 3) := dq_167 (dq_w dwm_502 4 rfl) (dq_w dwm_502 5 rfl) (dq_w dwm_502 6 rfl) (dq_n (m := 35) rfl rfl)
theorem dX6_judge_55 : decode cX6_judge 55 = .ok (.bipush (-9), 2) := dq_16 (dq_w dwm_502 7 rfl) (dq_w dwm_502 8 rfl) rfl
theorem dX6_judge_57 : decode cX6_judge 57 = .ok (.ireturn, 1) := dq_172 (dq_w dwm_502 9 rfl)
theorem dwm_503 : (cX6_empties.data.toList.drop 0).take 16 = [42, 3, 181, 0, 79, 42, 180, 1, 19, 60, 42, 3, 181, 1, 19, 27] := by decide +kernel
theorem dwm_504 : (cX6_empties.data.toList.drop 16).take 16 = [172] := by decide +kernel
theorem dX6_empties_0 : decode cX6_empties 0 = .ok (.aload_n 0, 1) := dq_42 (dq_w dwm_503 0 rfl)
theorem dX6_empties_1 : decode cX6_empties 1 = .ok (.iconst 0, 1) := dq_3 (dq_w dwm_503 1 rfl)
theorem dX6_empties_2 : decode cX6_empties 2 = .ok (.putfield 79, 3) := dq_181 (dq_w dwm_503 2 rfl) (dq_w dwm_503 3 rfl) (dq_w dwm_503 4 rfl) rfl
theorem dX6_empties_5 : decode cX6_empties 5 = .ok (.aload_n 0, 1) := dq_42 (dq_w dwm_503 5 rfl)
theorem dX6_empties_6 : decode cX6_empties 6 = .ok (.getfield 275, 3) := dq_180 (dq_w dwm_503 6 rfl) (dq_w dwm_503 7 rfl) (dq_w dwm_503 8 rfl) rfl
theorem dX6_empties_9 : decode cX6_empties 9 = .ok (.istore_n 1, 1) := dq_60 (dq_w dwm_503 9 rfl)
theorem dX6_empties_10 : decode cX6_empties 10 = .ok (.aload_n 0, 1) := dq_42 (dq_w dwm_503 10 rfl)
theorem dX6_empties_11 : decode cX6_empties 11 = .ok (.iconst 0, 1) := dq_3 (dq_w dwm_503 11 rfl)
theorem dX6_empties_12 : decode cX6_empties 12 = .ok (.putfield 275, 3) := dq_181 (dq_w dwm_503 12 rfl) (dq_w dwm_503 13 rfl) (dq_w dwm_503 14 rfl) rfl
theorem dX6_empties_15 : decode cX6_empties 15 = .ok (.iload_n 1, 1) := dq_27 (dq_w dwm_503 15 rfl)
theorem dX6_empties_16 : decode cX6_empties 16 = .ok (.ireturn, 1) := dq_172 (dq_w dwm_504 0 rfl)
theorem dwm_505 : (cX6_drawBelow.data.toList.drop 0).take 16 = [42, 42, 180, 1, 49, 19, 1, 52, 104, 17, 48, 57, 96, 181, 1, 49] := by decide +kernel
theorem dwm_506 : (cX6_drawBelow.data.toList.drop 16).take 16 = [42, 180, 1, 49, 19, 1, 53, 126, 19, 1, 54, 108, 27, 112, 172] := by decide +kernel
theorem dX6_drawBelow_0 : decode cX6_drawBelow 0 = .ok (.aload_n 0, 1) := dq_42 (dq_w dwm_505 0 rfl)
theorem dX6_drawBelow_1 : decode cX6_drawBelow 1 = .ok (.aload_n 0, 1) := dq_42 (dq_w dwm_505 1 rfl)
theorem dX6_drawBelow_2 : decode cX6_drawBelow 2 = .ok (.getfield 305, 3) := dq_180 (dq_w dwm_505 2 rfl) (dq_w dwm_505 3 rfl) (dq_w dwm_505 4 rfl) rfl
theorem dX6_drawBelow_5 : decode cX6_drawBelow 5 = .ok (.ldc_w 308, 3) := dq_19 (dq_w dwm_505 5 rfl) (dq_w dwm_505 6 rfl) (dq_w dwm_505 7 rfl) rfl
theorem dX6_drawBelow_8 : decode cX6_drawBelow 8 = .ok (.imul, 1) := dq_104 (dq_w dwm_505 8 rfl)
theorem dX6_drawBelow_9 : decode cX6_drawBelow 9 = .ok (.sipush 12345, 3) := dq_17 (dq_w dwm_505 9 rfl) (dq_w dwm_505 10 rfl) (dq_w dwm_505 11 rfl) (dq_p (n := 12345) rfl rfl)
theorem dX6_drawBelow_12 : decode cX6_drawBelow 12 = .ok (.iadd, 1) := dq_96 (dq_w dwm_505 12 rfl)
theorem dX6_drawBelow_13 : decode cX6_drawBelow 13 = .ok (.putfield 305, 3) := dq_181 (dq_w dwm_505 13 rfl) (dq_w dwm_505 14 rfl) (dq_w dwm_505 15 rfl) rfl
theorem dX6_drawBelow_16 : decode cX6_drawBelow 16 = .ok (.aload_n 0, 1) := dq_42 (dq_w dwm_506 0 rfl)
theorem dX6_drawBelow_17 : decode cX6_drawBelow 17 = .ok (.getfield 305, 3) := dq_180 (dq_w dwm_506 1 rfl) (dq_w dwm_506 2 rfl) (dq_w dwm_506 3 rfl) rfl
theorem dX6_drawBelow_20 : decode cX6_drawBelow 20 = .ok (.ldc_w 309, 3) := dq_19 (dq_w dwm_506 4 rfl) (dq_w dwm_506 5 rfl) (dq_w dwm_506 6 rfl) rfl
theorem dX6_drawBelow_23 : decode cX6_drawBelow 23 = .ok (.iand, 1) := dq_126 (dq_w dwm_506 7 rfl)
theorem dX6_drawBelow_24 : decode cX6_drawBelow 24 = .ok (.ldc_w 310, 3) := dq_19 (dq_w dwm_506 8 rfl) (dq_w dwm_506 9 rfl) (dq_w dwm_506 10 rfl) rfl
theorem dX6_drawBelow_27 : decode cX6_drawBelow 27 = .ok (.idiv, 1) := dq_108 (dq_w dwm_506 11 rfl)
theorem dX6_drawBelow_28 : decode cX6_drawBelow 28 = .ok (.iload_n 1, 1) := dq_27 (dq_w dwm_506 12 rfl)
theorem dX6_drawBelow_29 : decode cX6_drawBelow 29 = .ok (.irem, 1) := dq_112 (dq_w dwm_506 13 rfl)
theorem dX6_drawBelow_30 : decode cX6_drawBelow 30 = .ok (.ireturn, 1) := dq_172 (dq_w dwm_506 14 rfl)
theorem dwm_507 : (cX6_lots.data.toList.drop 0).take 16 = [42, 3, 181, 0, 79, 27, 4, 16, 20, 184, 0, 240, 29, 4, 184, 0] := by decide +kernel
theorem dwm_508 : (cX6_lots.data.toList.drop 16).take 16 = [250, 54, 4, 21, 4, 156, 0, 10, 42, 21, 4, 182, 0, 143, 172, 42] := by decide +kernel
theorem dwm_509 : (cX6_lots.data.toList.drop 32).take 16 = [28, 181, 1, 49, 3, 54, 5, 42, 182, 0, 196, 3, 54, 6, 21, 6] := by decide +kernel
theorem dwm_510 : (cX6_lots.data.toList.drop 48).take 16 = [27, 162, 0, 83, 3, 54, 7, 21, 7, 42, 180, 0, 92, 162, 0, 35] := by decide +kernel
theorem dwm_511 : (cX6_lots.data.toList.drop 64).take 16 = [42, 180, 0, 22, 21, 7, 42, 16, 49, 182, 1, 55, 79, 42, 180, 0] := by decide +kernel
theorem dwm_512 : (cX6_lots.data.toList.drop 80).take 16 = [25, 21, 7, 42, 16, 49, 182, 1, 55, 79, 132, 7, 1, 167, 255, 218] := by decide +kernel
theorem dwm_513 : (cX6_lots.data.toList.drop 96).take 16 = [42, 16, 12, 182, 0, 189, 21, 5, 29, 154, 0, 10, 42, 182, 0, 247] := by decide +kernel
theorem dwm_514 : (cX6_lots.data.toList.drop 112).take 16 = [167, 0, 7, 42, 182, 0, 253, 96, 54, 5, 42, 182, 0, 202, 132, 6] := by decide +kernel
theorem dwm_515 : (cX6_lots.data.toList.drop 128).take 16 = [1, 167, 255, 173, 21, 5, 172] := by decide +kernel
theorem dX6_lots_0 : decode cX6_lots 0 = .ok (.aload_n 0, 1) := dq_42 (dq_w dwm_507 0 rfl)
theorem dX6_lots_1 : decode cX6_lots 1 = .ok (.iconst 0, 1) := dq_3 (dq_w dwm_507 1 rfl)
theorem dX6_lots_2 : decode cX6_lots 2 = .ok (.putfield 79, 3) := dq_181 (dq_w dwm_507 2 rfl) (dq_w dwm_507 3 rfl) (dq_w dwm_507 4 rfl) rfl
theorem dX6_lots_5 : decode cX6_lots 5 = .ok (.iload_n 1, 1) := dq_27 (dq_w dwm_507 5 rfl)
theorem dX6_lots_6 : decode cX6_lots 6 = .ok (.iconst 1, 1) := dq_4 (dq_w dwm_507 6 rfl)
theorem dX6_lots_7 : decode cX6_lots 7 = .ok (.bipush 20, 2) := dq_16 (dq_w dwm_507 7 rfl) (dq_w dwm_507 8 rfl) rfl
theorem dX6_lots_9 : decode cX6_lots 9 = .ok (.invokestatic 240, 3) := dq_184 (dq_w dwm_507 9 rfl) (dq_w dwm_507 10 rfl) (dq_w dwm_507 11 rfl) rfl
theorem dX6_lots_12 : decode cX6_lots 12 = .ok (.iload_n 3, 1) := dq_29 (dq_w dwm_507 12 rfl)
theorem dX6_lots_13 : decode cX6_lots 13 = .ok (.iconst 1, 1) := dq_4 (dq_w dwm_507 13 rfl)
theorem dX6_lots_14 : decode cX6_lots 14 = .ok (.invokestatic 250, 3) := dq_184 (dq_w dwm_507 14 rfl) (dq_w dwm_507 15 rfl) (dq_w dwm_508 0 rfl) rfl
theorem dX6_lots_17 : decode cX6_lots 17 = .ok (.istore 4, 2) := dq_54 (dq_w dwm_508 1 rfl) (dq_w dwm_508 2 rfl) rfl
theorem dX6_lots_19 : decode cX6_lots 19 = .ok (.iload 4, 2) := dq_21 (dq_w dwm_508 3 rfl) (dq_w dwm_508 4 rfl) rfl
theorem dX6_lots_21 : decode cX6_lots 21 = .ok (.ifCond .ge 10, 3) := dq_156 (dq_w dwm_508 5 rfl) (dq_w dwm_508 6 rfl) (dq_w dwm_508 7 rfl) (dq_p (n := 10) rfl rfl)
theorem dX6_lots_24 : decode cX6_lots 24 = .ok (.aload_n 0, 1) := dq_42 (dq_w dwm_508 8 rfl)
theorem dX6_lots_25 : decode cX6_lots 25 = .ok (.iload 4, 2) := dq_21 (dq_w dwm_508 9 rfl) (dq_w dwm_508 10 rfl) rfl
theorem dX6_lots_27 : decode cX6_lots 27 = .ok (.invokevirtual 143, 3) := dq_182 (dq_w dwm_508 11 rfl) (dq_w dwm_508 12 rfl) (dq_w dwm_508 13 rfl) rfl
theorem dX6_lots_30 : decode cX6_lots 30 = .ok (.ireturn, 1) := dq_172 (dq_w dwm_508 14 rfl)
theorem dX6_lots_31 : decode cX6_lots 31 = .ok (.aload_n 0, 1) := dq_42 (dq_w dwm_508 15 rfl)
theorem dX6_lots_32 : decode cX6_lots 32 = .ok (.iload_n 2, 1) := dq_28 (dq_w dwm_509 0 rfl)
theorem dX6_lots_33 : decode cX6_lots 33 = .ok (.putfield 305, 3) := dq_181 (dq_w dwm_509 1 rfl) (dq_w dwm_509 2 rfl) (dq_w dwm_509 3 rfl) rfl
theorem dX6_lots_36 : decode cX6_lots 36 = .ok (.iconst 0, 1) := dq_3 (dq_w dwm_509 4 rfl)
theorem dX6_lots_37 : decode cX6_lots 37 = .ok (.istore 5, 2) := dq_54 (dq_w dwm_509 5 rfl) (dq_w dwm_509 6 rfl) rfl
theorem dX6_lots_39 : decode cX6_lots 39 = .ok (.aload_n 0, 1) := dq_42 (dq_w dwm_509 7 rfl)
theorem dX6_lots_40 : decode cX6_lots 40 = .ok (.invokevirtual 196, 3) := dq_182 (dq_w dwm_509 8 rfl) (dq_w dwm_509 9 rfl) (dq_w dwm_509 10 rfl) rfl
theorem dX6_lots_43 : decode cX6_lots 43 = .ok (.iconst 0, 1) := dq_3 (dq_w dwm_509 11 rfl)
theorem dX6_lots_44 : decode cX6_lots 44 = .ok (.istore 6, 2) := dq_54 (dq_w dwm_509 12 rfl) (dq_w dwm_509 13 rfl) rfl
theorem dX6_lots_46 : decode cX6_lots 46 = .ok (.iload 6, 2) := dq_21 (dq_w dwm_509 14 rfl) (dq_w dwm_509 15 rfl) rfl
theorem dX6_lots_48 : decode cX6_lots 48 = .ok (.iload_n 1, 1) := dq_27 (dq_w dwm_510 0 rfl)
theorem dX6_lots_49 : decode cX6_lots 49 = .ok (.if_icmp .ge 83, 3) := dq_162 (dq_w dwm_510 1 rfl) (dq_w dwm_510 2 rfl) (dq_w dwm_510 3 rfl) (dq_p (n := 83) rfl rfl)
theorem dX6_lots_52 : decode cX6_lots 52 = .ok (.iconst 0, 1) := dq_3 (dq_w dwm_510 4 rfl)
theorem dX6_lots_53 : decode cX6_lots 53 = .ok (.istore 7, 2) := dq_54 (dq_w dwm_510 5 rfl) (dq_w dwm_510 6 rfl) rfl
theorem dX6_lots_55 : decode cX6_lots 55 = .ok (.iload 7, 2) := dq_21 (dq_w dwm_510 7 rfl) (dq_w dwm_510 8 rfl) rfl
theorem dX6_lots_57 : decode cX6_lots 57 = .ok (.aload_n 0, 1) := dq_42 (dq_w dwm_510 9 rfl)
theorem dX6_lots_58 : decode cX6_lots 58 = .ok (.getfield 92, 3) := dq_180 (dq_w dwm_510 10 rfl) (dq_w dwm_510 11 rfl) (dq_w dwm_510 12 rfl) rfl
theorem dX6_lots_61 : decode cX6_lots 61 = .ok (.if_icmp .ge 35, 3) := dq_162 (dq_w dwm_510 13 rfl) (dq_w dwm_510 14 rfl) (dq_w dwm_510 15 rfl) (dq_p (n := 35) rfl rfl)
theorem dX6_lots_64 : decode cX6_lots 64 = .ok (.aload_n 0, 1) := dq_42 (dq_w dwm_511 0 rfl)
theorem dX6_lots_65 : decode cX6_lots 65 = .ok (.getfield 22, 3) := dq_180 (dq_w dwm_511 1 rfl) (dq_w dwm_511 2 rfl) (dq_w dwm_511 3 rfl) rfl
theorem dX6_lots_68 : decode cX6_lots 68 = .ok (.iload 7, 2) := dq_21 (dq_w dwm_511 4 rfl) (dq_w dwm_511 5 rfl) rfl
theorem dX6_lots_70 : decode cX6_lots 70 = .ok (.aload_n 0, 1) := dq_42 (dq_w dwm_511 6 rfl)
theorem dX6_lots_71 : decode cX6_lots 71 = .ok (.bipush 49, 2) := dq_16 (dq_w dwm_511 7 rfl) (dq_w dwm_511 8 rfl) rfl
theorem dX6_lots_73 : decode cX6_lots 73 = .ok (.invokevirtual 311, 3) := dq_182 (dq_w dwm_511 9 rfl) (dq_w dwm_511 10 rfl) (dq_w dwm_511 11 rfl) rfl
theorem dX6_lots_76 : decode cX6_lots 76 = .ok (.iastore, 1) := dq_79 (dq_w dwm_511 12 rfl)
theorem dX6_lots_77 : decode cX6_lots 77 = .ok (.aload_n 0, 1) := dq_42 (dq_w dwm_511 13 rfl)
theorem dX6_lots_78 : decode cX6_lots 78 = .ok (.getfield 25, 3) := dq_180 (dq_w dwm_511 14 rfl) (dq_w dwm_511 15 rfl) (dq_w dwm_512 0 rfl) rfl
theorem dX6_lots_81 : decode cX6_lots 81 = .ok (.iload 7, 2) := dq_21 (dq_w dwm_512 1 rfl) (dq_w dwm_512 2 rfl) rfl
theorem dX6_lots_83 : decode cX6_lots 83 = .ok (.aload_n 0, 1) := dq_42 (dq_w dwm_512 3 rfl)
theorem dX6_lots_84 : decode cX6_lots 84 = .ok (.bipush 49, 2) := dq_16 (dq_w dwm_512 4 rfl) (dq_w dwm_512 5 rfl) rfl
theorem dX6_lots_86 : decode cX6_lots 86 = .ok (.invokevirtual 311, 3) := dq_182 (dq_w dwm_512 6 rfl) (dq_w dwm_512 7 rfl) (dq_w dwm_512 8 rfl) rfl
theorem dX6_lots_89 : decode cX6_lots 89 = .ok (.iastore, 1) := dq_79 (dq_w dwm_512 9 rfl)
theorem dX6_lots_90 : decode cX6_lots 90 = .ok (.iinc 7 1, 3) := dq_132 (dq_w dwm_512 10 rfl) (dq_w dwm_512 11 rfl) rfl (dq_w dwm_512 12 rfl) rfl
theorem dX6_lots_93 : decode cX6_lots 93 = .ok (.goto (-38), 3) := dq_167 (dq_w dwm_512 13 rfl) (dq_w dwm_512 14 rfl) (dq_w dwm_512 15 rfl) (dq_n (m := 38) rfl rfl)
theorem dX6_lots_96 : decode cX6_lots 96 = .ok (.aload_n 0, 1) := dq_42 (dq_w dwm_513 0 rfl)
theorem dX6_lots_97 : decode cX6_lots 97 = .ok (.bipush 12, 2) := dq_16 (dq_w dwm_513 1 rfl) (dq_w dwm_513 2 rfl) rfl
theorem dX6_lots_99 : decode cX6_lots 99 = .ok (.invokevirtual 189, 3) := dq_182 (dq_w dwm_513 3 rfl) (dq_w dwm_513 4 rfl) (dq_w dwm_513 5 rfl) rfl
theorem dX6_lots_102 : decode cX6_lots 102 = .ok (.iload 5, 2) := dq_21 (dq_w dwm_513 6 rfl) (dq_w dwm_513 7 rfl) rfl
theorem dX6_lots_104 : decode cX6_lots 104 = .ok (.iload_n 3, 1) := dq_29 (dq_w dwm_513 8 rfl)
theorem dX6_lots_105 : decode cX6_lots 105 = .ok (.ifCond .ne 10, 3) := dq_154 (dq_w dwm_513 9 rfl) (dq_w dwm_513 10 rfl) (dq_w dwm_513 11 rfl) (dq_p (n := 10) rfl rfl)
theorem dX6_lots_108 : decode cX6_lots 108 = .ok (.aload_n 0, 1) := dq_42 (dq_w dwm_513 12 rfl)
theorem dX6_lots_109 : decode cX6_lots 109 = .ok (.invokevirtual 247, 3) := dq_182 (dq_w dwm_513 13 rfl) (dq_w dwm_513 14 rfl) (dq_w dwm_513 15 rfl) rfl
theorem dX6_lots_112 : decode cX6_lots 112 = .ok (.goto 7, 3) := dq_167 (dq_w dwm_514 0 rfl) (dq_w dwm_514 1 rfl) (dq_w dwm_514 2 rfl) (dq_p (n := 7) rfl rfl)
theorem dX6_lots_115 : decode cX6_lots 115 = .ok (.aload_n 0, 1) := dq_42 (dq_w dwm_514 3 rfl)
theorem dX6_lots_116 : decode cX6_lots 116 = .ok (.invokevirtual 253, 3) := dq_182 (dq_w dwm_514 4 rfl) (dq_w dwm_514 5 rfl) (dq_w dwm_514 6 rfl) rfl
theorem dX6_lots_119 : decode cX6_lots 119 = .ok (.iadd, 1) := dq_96 (dq_w dwm_514 7 rfl)
theorem dX6_lots_120 : decode cX6_lots 120 = .ok (.istore 5, 2) := dq_54 (dq_w dwm_514 8 rfl) (dq_w dwm_514 9 rfl) rfl
theorem dX6_lots_122 : decode cX6_lots 122 = .ok (.aload_n 0, 1) := dq_42 (dq_w dwm_514 10 rfl)
theorem dX6_lots_123 : decode cX6_lots 123 = .ok (.invokevirtual 202, 3) := dq_182 (dq_w dwm_514 11 rfl) (dq_w dwm_514 12 rfl) (dq_w dwm_514 13 rfl) rfl
theorem dX6_lots_126 : decode cX6_lots 126 = .ok (.iinc 6 1, 3) := dq_132 (dq_w dwm_514 14 rfl) (dq_w dwm_514 15 rfl) rfl (dq_w dwm_515 0 rfl) rfl
theorem dX6_lots_129 : decode cX6_lots 129 = .ok (.goto (-83), 3) := dq_167 (dq_w dwm_515 1 rfl) (dq_w dwm_515 2 rfl) (dq_w dwm_515 3 rfl) (dq_n (m := 83) rfl rfl)
theorem dX6_lots_132 : decode cX6_lots 132 = .ok (.iload 5, 2) := dq_21 (dq_w dwm_515 4 rfl) (dq_w dwm_515 5 rfl) rfl
theorem dX6_lots_134 : decode cX6_lots 134 = .ok (.ireturn, 1) := dq_172 (dq_w dwm_515 6 rfl)
theorem dwm_516 : (cX6_count.data.toList.drop 0).take 16 = [42, 3, 181, 0, 79, 27, 170, 0, 0, 0, 0, 86, 0, 0, 0, 0] := by decide +kernel
theorem dwm_517 : (cX6_count.data.toList.drop 48).take 16 = [0, 0, 0, 81, 42, 180, 0, 89, 172, 42, 180, 0, 92, 172, 42, 180] := by decide +kernel
theorem dwm_518 : (cX6_count.data.toList.drop 64).take 16 = [0, 122, 172, 42, 182, 0, 247, 172, 42, 182, 0, 253, 172, 42, 180, 0] := by decide +kernel
theorem dwm_519 : (cX6_count.data.toList.drop 80).take 16 = [146, 172, 42, 180, 1, 19, 172, 42, 180, 0, 205, 172, 27, 133, 20, 1] := by decide +kernel
theorem dwm_520 : (cX6_count.data.toList.drop 96).take 16 = [58, 20, 1, 60, 184, 0, 85, 153, 0, 15, 42, 180, 0, 34, 27, 16] := by decide +kernel
theorem dwm_521 : (cX6_count.data.toList.drop 112).take 16 = [10, 100, 46, 167, 0, 5, 16, 247, 172] := by decide +kernel
theorem dX6_count_0 : decode cX6_count 0 = .ok (.aload_n 0, 1) := dq_42 (dq_w dwm_516 0 rfl)
theorem dX6_count_1 : decode cX6_count 1 = .ok (.iconst 0, 1) := dq_3 (dq_w dwm_516 1 rfl)
theorem dX6_count_2 : decode cX6_count 2 = .ok (.putfield 79, 3) := dq_181 (dq_w dwm_516 2 rfl) (dq_w dwm_516 3 rfl) (dq_w dwm_516 4 rfl) rfl
theorem dX6_count_5 : decode cX6_count 5 = .ok (.iload_n 1, 1) := dq_27 (dq_w dwm_516 5 rfl)
theorem dX6_count_6 : decode cX6_count 6 = .ok (.tableswitch 86 0 7 #[46, 51, 56, 61, 66, 71, 76, 81], 46) := by decide +kernel
theorem dX6_count_52 : decode cX6_count 52 = .ok (.aload_n 0, 1) := dq_42 (dq_w dwm_517 4 rfl)
theorem dX6_count_53 : decode cX6_count 53 = .ok (.getfield 89, 3) := dq_180 (dq_w dwm_517 5 rfl) (dq_w dwm_517 6 rfl) (dq_w dwm_517 7 rfl) rfl
theorem dX6_count_56 : decode cX6_count 56 = .ok (.ireturn, 1) := dq_172 (dq_w dwm_517 8 rfl)
theorem dX6_count_57 : decode cX6_count 57 = .ok (.aload_n 0, 1) := dq_42 (dq_w dwm_517 9 rfl)
theorem dX6_count_58 : decode cX6_count 58 = .ok (.getfield 92, 3) := dq_180 (dq_w dwm_517 10 rfl) (dq_w dwm_517 11 rfl) (dq_w dwm_517 12 rfl) rfl
theorem dX6_count_61 : decode cX6_count 61 = .ok (.ireturn, 1) := dq_172 (dq_w dwm_517 13 rfl)
theorem dX6_count_62 : decode cX6_count 62 = .ok (.aload_n 0, 1) := dq_42 (dq_w dwm_517 14 rfl)
theorem dX6_count_63 : decode cX6_count 63 = .ok (.getfield 122, 3) := dq_180 (dq_w dwm_517 15 rfl) (dq_w dwm_518 0 rfl) (dq_w dwm_518 1 rfl) rfl
theorem dX6_count_66 : decode cX6_count 66 = .ok (.ireturn, 1) := dq_172 (dq_w dwm_518 2 rfl)
theorem dX6_count_67 : decode cX6_count 67 = .ok (.aload_n 0, 1) := dq_42 (dq_w dwm_518 3 rfl)
theorem dX6_count_68 : decode cX6_count 68 = .ok (.invokevirtual 247, 3) := dq_182 (dq_w dwm_518 4 rfl) (dq_w dwm_518 5 rfl) (dq_w dwm_518 6 rfl) rfl
theorem dX6_count_71 : decode cX6_count 71 = .ok (.ireturn, 1) := dq_172 (dq_w dwm_518 7 rfl)
theorem dX6_count_72 : decode cX6_count 72 = .ok (.aload_n 0, 1) := dq_42 (dq_w dwm_518 8 rfl)
theorem dX6_count_73 : decode cX6_count 73 = .ok (.invokevirtual 253, 3) := dq_182 (dq_w dwm_518 9 rfl) (dq_w dwm_518 10 rfl) (dq_w dwm_518 11 rfl) rfl
theorem dX6_count_76 : decode cX6_count 76 = .ok (.ireturn, 1) := dq_172 (dq_w dwm_518 12 rfl)
theorem dX6_count_77 : decode cX6_count 77 = .ok (.aload_n 0, 1) := dq_42 (dq_w dwm_518 13 rfl)
theorem dX6_count_78 : decode cX6_count 78 = .ok (.getfield 146, 3) := dq_180 (dq_w dwm_518 14 rfl) (dq_w dwm_518 15 rfl) (dq_w dwm_519 0 rfl) rfl
theorem dX6_count_81 : decode cX6_count 81 = .ok (.ireturn, 1) := dq_172 (dq_w dwm_519 1 rfl)
theorem dX6_count_82 : decode cX6_count 82 = .ok (.aload_n 0, 1) := dq_42 (dq_w dwm_519 2 rfl)
theorem dX6_count_83 : decode cX6_count 83 = .ok (.getfield 275, 3) := dq_180 (dq_w dwm_519 3 rfl) (dq_w dwm_519 4 rfl) (dq_w dwm_519 5 rfl) rfl
theorem dX6_count_86 : decode cX6_count 86 = .ok (.ireturn, 1) := dq_172 (dq_w dwm_519 6 rfl)
theorem dX6_count_87 : decode cX6_count 87 = .ok (.aload_n 0, 1) := dq_42 (dq_w dwm_519 7 rfl)
theorem dX6_count_88 : decode cX6_count 88 = .ok (.getfield 205, 3) := dq_180 (dq_w dwm_519 8 rfl) (dq_w dwm_519 9 rfl) (dq_w dwm_519 10 rfl) rfl
theorem dX6_count_91 : decode cX6_count 91 = .ok (.ireturn, 1) := dq_172 (dq_w dwm_519 11 rfl)
theorem dX6_count_92 : decode cX6_count 92 = .ok (.iload_n 1, 1) := dq_27 (dq_w dwm_519 12 rfl)
theorem dX6_count_93 : decode cX6_count 93 = .ok (.i2l, 1) := dq_133 (dq_w dwm_519 13 rfl)
theorem dX6_count_94 : decode cX6_count 94 = .ok (.ldc2_w 314, 3) := dq_20 (dq_w dwm_519 14 rfl) (dq_w dwm_519 15 rfl) (dq_w dwm_520 0 rfl) rfl
theorem dX6_count_97 : decode cX6_count 97 = .ok (.ldc2_w 316, 3) := dq_20 (dq_w dwm_520 1 rfl) (dq_w dwm_520 2 rfl) (dq_w dwm_520 3 rfl) rfl
theorem dX6_count_100 : decode cX6_count 100 = .ok (.invokestatic 85, 3) := dq_184 (dq_w dwm_520 4 rfl) (dq_w dwm_520 5 rfl) (dq_w dwm_520 6 rfl) rfl
theorem dX6_count_103 : decode cX6_count 103 = .ok (.ifCond .eq 15, 3) := dq_153 (dq_w dwm_520 7 rfl) (dq_w dwm_520 8 rfl) (dq_w dwm_520 9 rfl) (dq_p (n := 15) rfl rfl)
theorem dX6_count_106 : decode cX6_count 106 = .ok (.aload_n 0, 1) := dq_42 (dq_w dwm_520 10 rfl)
theorem dX6_count_107 : decode cX6_count 107 = .ok (.getfield 34, 3) := dq_180 (dq_w dwm_520 11 rfl) (dq_w dwm_520 12 rfl) (dq_w dwm_520 13 rfl) rfl
theorem dX6_count_110 : decode cX6_count 110 = .ok (.iload_n 1, 1) := dq_27 (dq_w dwm_520 14 rfl)
theorem dX6_count_111 : decode cX6_count 111 = .ok (.bipush 10, 2) := dq_16 (dq_w dwm_520 15 rfl) (dq_w dwm_521 0 rfl) rfl
theorem dX6_count_113 : decode cX6_count 113 = .ok (.isub, 1) := dq_100 (dq_w dwm_521 1 rfl)
theorem dX6_count_114 : decode cX6_count 114 = .ok (.iaload, 1) := dq_46 (dq_w dwm_521 2 rfl)
theorem dX6_count_115 : decode cX6_count 115 = .ok (.goto 5, 3) := dq_167 (dq_w dwm_521 3 rfl) (dq_w dwm_521 4 rfl) (dq_w dwm_521 5 rfl) (dq_p (n := 5) rfl rfl)
theorem dX6_count_118 : decode cX6_count 118 = .ok (.bipush (-9), 2) := dq_16 (dq_w dwm_521 6 rfl) (dq_w dwm_521 7 rfl) rfl
theorem dX6_count_120 : decode cX6_count 120 = .ok (.ireturn, 1) := dq_172 (dq_w dwm_521 8 rfl)
