theorem dbm_0 : (((((decode cX6_init 0 = .ok (.aload_n 0, 1)) ∧ (decode cX6_init 1 = .ok (.invokespecial 1, 3))) ∧ ((decode cX6_init 4 = .ok (.aload_n 0, 1)) ∧ (decode cX6_init 5 = .ok (.bipush 8, 2)))) ∧ (((decode cX6_init 7 = .ok (.newarray .int, 2)) ∧ (decode cX6_init 9 = .ok (.putfield 7, 3))) ∧ ((decode cX6_init 12 = .ok (.aload_n 0, 1)) ∧ (decode cX6_init 13 = .ok (.bipush 8, 2))))) ∧ ((((decode cX6_init 15 = .ok (.newarray .int, 2)) ∧ (decode cX6_init 17 = .ok (.putfield 13, 3))) ∧ ((decode cX6_init 20 = .ok (.aload_n 0, 1)) ∧ (decode cX6_init 21 = .ok (.bipush 8, 2)))) ∧ (((decode cX6_init 23 = .ok (.newarray .int, 2)) ∧ (decode cX6_init 25 = .ok (.putfield 16, 3))) ∧ ((decode cX6_init 28 = .ok (.aload_n 0, 1)) ∧ (decode cX6_init 29 = .ok (.bipush 8, 2)))))) := by decide +kernel
theorem dX6_init_0 : decode cX6_init 0 = .ok (.aload_n 0, 1) := dbm_0.1.1.1.1
theorem dX6_init_1 : decode cX6_init 1 = .ok (.invokespecial 1, 3) := dbm_0.1.1.1.2
theorem dX6_init_4 : decode cX6_init 4 = .ok (.aload_n 0, 1) := dbm_0.1.1.2.1
theorem dX6_init_5 : decode cX6_init 5 = .ok (.bipush 8, 2) := dbm_0.1.1.2.2
theorem dX6_init_7 : decode cX6_init 7 = .ok (.newarray .int, 2) := dbm_0.1.2.1.1
theorem dX6_init_9 : decode cX6_init 9 = .ok (.putfield 7, 3) := dbm_0.1.2.1.2
theorem dX6_init_12 : decode cX6_init 12 = .ok (.aload_n 0, 1) := dbm_0.1.2.2.1
theorem dX6_init_13 : decode cX6_init 13 = .ok (.bipush 8, 2) := dbm_0.1.2.2.2
theorem dX6_init_15 : decode cX6_init 15 = .ok (.newarray .int, 2) := dbm_0.2.1.1.1
theorem dX6_init_17 : decode cX6_init 17 = .ok (.putfield 13, 3) := dbm_0.2.1.1.2
theorem dX6_init_20 : decode cX6_init 20 = .ok (.aload_n 0, 1) := dbm_0.2.1.2.1
theorem dX6_init_21 : decode cX6_init 21 = .ok (.bipush 8, 2) := dbm_0.2.1.2.2
theorem dX6_init_23 : decode cX6_init 23 = .ok (.newarray .int, 2) := dbm_0.2.2.1.1
theorem dX6_init_25 : decode cX6_init 25 = .ok (.putfield 16, 3) := dbm_0.2.2.1.2
theorem dX6_init_28 : decode cX6_init 28 = .ok (.aload_n 0, 1) := dbm_0.2.2.2.1
theorem dX6_init_29 : decode cX6_init 29 = .ok (.bipush 8, 2) := dbm_0.2.2.2.2
theorem dbm_1 : (((((decode cX6_init 31 = .ok (.newarray .int, 2)) ∧ (decode cX6_init 33 = .ok (.putfield 19, 3))) ∧ ((decode cX6_init 36 = .ok (.aload_n 0, 1)) ∧ (decode cX6_init 37 = .ok (.bipush 6, 2)))) ∧ (((decode cX6_init 39 = .ok (.newarray .int, 2)) ∧ (decode cX6_init 41 = .ok (.putfield 22, 3))) ∧ ((decode cX6_init 44 = .ok (.aload_n 0, 1)) ∧ (decode cX6_init 45 = .ok (.bipush 6, 2))))) ∧ ((((decode cX6_init 47 = .ok (.newarray .int, 2)) ∧ (decode cX6_init 49 = .ok (.putfield 25, 3))) ∧ ((decode cX6_init 52 = .ok (.aload_n 0, 1)) ∧ (decode cX6_init 53 = .ok (.bipush 6, 2)))) ∧ (((decode cX6_init 55 = .ok (.newarray .int, 2)) ∧ (decode cX6_init 57 = .ok (.putfield 28, 3))) ∧ ((decode cX6_init 60 = .ok (.aload_n 0, 1)) ∧ (decode cX6_init 61 = .ok (.bipush 42, 2)))))) := by decide +kernel
theorem dX6_init_31 : decode cX6_init 31 = .ok (.newarray .int, 2) := dbm_1.1.1.1.1
theorem dX6_init_33 : decode cX6_init 33 = .ok (.putfield 19, 3) := dbm_1.1.1.1.2
theorem dX6_init_36 : decode cX6_init 36 = .ok (.aload_n 0, 1) := dbm_1.1.1.2.1
theorem dX6_init_37 : decode cX6_init 37 = .ok (.bipush 6, 2) := dbm_1.1.1.2.2
theorem dX6_init_39 : decode cX6_init 39 = .ok (.newarray .int, 2) := dbm_1.1.2.1.1
theorem dX6_init_41 : decode cX6_init 41 = .ok (.putfield 22, 3) := dbm_1.1.2.1.2
theorem dX6_init_44 : decode cX6_init 44 = .ok (.aload_n 0, 1) := dbm_1.1.2.2.1
theorem dX6_init_45 : decode cX6_init 45 = .ok (.bipush 6, 2) := dbm_1.1.2.2.2
theorem dX6_init_47 : decode cX6_init 47 = .ok (.newarray .int, 2) := dbm_1.2.1.1.1
theorem dX6_init_49 : decode cX6_init 49 = .ok (.putfield 25, 3) := dbm_1.2.1.1.2
theorem dX6_init_52 : decode cX6_init 52 = .ok (.aload_n 0, 1) := dbm_1.2.1.2.1
theorem dX6_init_53 : decode cX6_init 53 = .ok (.bipush 6, 2) := dbm_1.2.1.2.2
theorem dX6_init_55 : decode cX6_init 55 = .ok (.newarray .int, 2) := dbm_1.2.2.1.1
theorem dX6_init_57 : decode cX6_init 57 = .ok (.putfield 28, 3) := dbm_1.2.2.1.2
theorem dX6_init_60 : decode cX6_init 60 = .ok (.aload_n 0, 1) := dbm_1.2.2.2.1
theorem dX6_init_61 : decode cX6_init 61 = .ok (.bipush 42, 2) := dbm_1.2.2.2.2
theorem dbm_2 : (((((decode cX6_init 63 = .ok (.newarray .int, 2)) ∧ (decode cX6_init 65 = .ok (.putfield 31, 3))) ∧ ((decode cX6_init 68 = .ok (.aload_n 0, 1)) ∧ (decode cX6_init 69 = .ok (.bipush 7, 2)))) ∧ (((decode cX6_init 71 = .ok (.newarray .int, 2)) ∧ (decode cX6_init 73 = .ok (.putfield 34, 3))) ∧ ((decode cX6_init 76 = .ok (.aload_n 0, 1)) ∧ (decode cX6_init 77 = .ok (.bipush 96, 2))))) ∧ ((((decode cX6_init 79 = .ok (.newarray .int, 2)) ∧ (decode cX6_init 81 = .ok (.putfield 37, 3))) ∧ ((decode cX6_init 84 = .ok (.aload_n 0, 1)) ∧ (decode cX6_init 85 = .ok (.bipush 49, 2)))) ∧ (((decode cX6_init 87 = .ok (.newarray .int, 2)) ∧ (decode cX6_init 89 = .ok (.putfield 40, 3))) ∧ ((decode cX6_init 92 = .ok (.aload_n 0, 1)) ∧ (decode cX6_init 93 = .ok (.bipush 49, 2)))))) := by decide +kernel
theorem dX6_init_63 : decode cX6_init 63 = .ok (.newarray .int, 2) := dbm_2.1.1.1.1
theorem dX6_init_65 : decode cX6_init 65 = .ok (.putfield 31, 3) := dbm_2.1.1.1.2
theorem dX6_init_68 : decode cX6_init 68 = .ok (.aload_n 0, 1) := dbm_2.1.1.2.1
theorem dX6_init_69 : decode cX6_init 69 = .ok (.bipush 7, 2) := dbm_2.1.1.2.2
theorem dX6_init_71 : decode cX6_init 71 = .ok (.newarray .int, 2) := dbm_2.1.2.1.1
theorem dX6_init_73 : decode cX6_init 73 = .ok (.putfield 34, 3) := dbm_2.1.2.1.2
theorem dX6_init_76 : decode cX6_init 76 = .ok (.aload_n 0, 1) := dbm_2.1.2.2.1
theorem dX6_init_77 : decode cX6_init 77 = .ok (.bipush 96, 2) := dbm_2.1.2.2.2
theorem dX6_init_79 : decode cX6_init 79 = .ok (.newarray .int, 2) := dbm_2.2.1.1.1
theorem dX6_init_81 : decode cX6_init 81 = .ok (.putfield 37, 3) := dbm_2.2.1.1.2
theorem dX6_init_84 : decode cX6_init 84 = .ok (.aload_n 0, 1) := dbm_2.2.1.2.1
theorem dX6_init_85 : decode cX6_init 85 = .ok (.bipush 49, 2) := dbm_2.2.1.2.2
theorem dX6_init_87 : decode cX6_init 87 = .ok (.newarray .int, 2) := dbm_2.2.2.1.1
theorem dX6_init_89 : decode cX6_init 89 = .ok (.putfield 40, 3) := dbm_2.2.2.1.2
theorem dX6_init_92 : decode cX6_init 92 = .ok (.aload_n 0, 1) := dbm_2.2.2.2.1
theorem dX6_init_93 : decode cX6_init 93 = .ok (.bipush 49, 2) := dbm_2.2.2.2.2
theorem dbm_3 : (((((decode cX6_init 95 = .ok (.newarray .int, 2)) ∧ (decode cX6_init 97 = .ok (.putfield 43, 3))) ∧ ((decode cX6_init 100 = .ok (.aload_n 0, 1)) ∧ (decode cX6_init 101 = .ok (.sipush 147, 3)))) ∧ (((decode cX6_init 104 = .ok (.newarray .int, 2)) ∧ (decode cX6_init 106 = .ok (.putfield 46, 3))) ∧ ((decode cX6_init 109 = .ok (.aload_n 0, 1)) ∧ (decode cX6_init 110 = .ok (.bipush 91, 2))))) ∧ ((((decode cX6_init 112 = .ok (.newarray .int, 2)) ∧ (decode cX6_init 114 = .ok (.putfield 49, 3))) ∧ ((decode cX6_init 117 = .ok (.aload_n 0, 1)) ∧ (decode cX6_init 118 = .ok (.bipush 91, 2)))) ∧ (((decode cX6_init 120 = .ok (.newarray .int, 2)) ∧ (decode cX6_init 122 = .ok (.putfield 52, 3))) ∧ ((decode cX6_init 125 = .ok (.aload_n 0, 1)) ∧ (decode cX6_init 126 = .ok (.sipush 728, 3)))))) := by decide +kernel
theorem dX6_init_95 : decode cX6_init 95 = .ok (.newarray .int, 2) := dbm_3.1.1.1.1
theorem dX6_init_97 : decode cX6_init 97 = .ok (.putfield 43, 3) := dbm_3.1.1.1.2
theorem dX6_init_100 : decode cX6_init 100 = .ok (.aload_n 0, 1) := dbm_3.1.1.2.1
theorem dX6_init_101 : decode cX6_init 101 = .ok (.sipush 147, 3) := dbm_3.1.1.2.2
theorem dX6_init_104 : decode cX6_init 104 = .ok (.newarray .int, 2) := dbm_3.1.2.1.1
theorem dX6_init_106 : decode cX6_init 106 = .ok (.putfield 46, 3) := dbm_3.1.2.1.2
theorem dX6_init_109 : decode cX6_init 109 = .ok (.aload_n 0, 1) := dbm_3.1.2.2.1
theorem dX6_init_110 : decode cX6_init 110 = .ok (.bipush 91, 2) := dbm_3.1.2.2.2
theorem dX6_init_112 : decode cX6_init 112 = .ok (.newarray .int, 2) := dbm_3.2.1.1.1
theorem dX6_init_114 : decode cX6_init 114 = .ok (.putfield 49, 3) := dbm_3.2.1.1.2
theorem dX6_init_117 : decode cX6_init 117 = .ok (.aload_n 0, 1) := dbm_3.2.1.2.1
theorem dX6_init_118 : decode cX6_init 118 = .ok (.bipush 91, 2) := dbm_3.2.1.2.2
theorem dX6_init_120 : decode cX6_init 120 = .ok (.newarray .int, 2) := dbm_3.2.2.1.1
theorem dX6_init_122 : decode cX6_init 122 = .ok (.putfield 52, 3) := dbm_3.2.2.1.2
theorem dX6_init_125 : decode cX6_init 125 = .ok (.aload_n 0, 1) := dbm_3.2.2.2.1
theorem dX6_init_126 : decode cX6_init 126 = .ok (.sipush 728, 3) := dbm_3.2.2.2.2
theorem dbm_4 : (((((decode cX6_init 129 = .ok (.newarray .int, 2)) ∧ (decode cX6_init 131 = .ok (.putfield 55, 3))) ∧ ((decode cX6_init 134 = .ok (.aload_n 0, 1)) ∧ (decode cX6_init 135 = .ok (.bipush 91, 2)))) ∧ (((decode cX6_init 137 = .ok (.newarray .int, 2)) ∧ (decode cX6_init 139 = .ok (.putfield 58, 3))) ∧ ((decode cX6_init 142 = .ok (.aload_n 0, 1)) ∧ (decode cX6_init 143 = .ok (.sipush 6272, 3))))) ∧ ((((decode cX6_init 146 = .ok (.newarray .int, 2)) ∧ (decode cX6_init 148 = .ok (.putfield 61, 3))) ∧ ((decode cX6_init 151 = .ok (.aload_n 0, 1)) ∧ (decode cX6_init 152 = .ok (.sipush 6272, 3)))) ∧ (((decode cX6_init 155 = .ok (.newarray .int, 2)) ∧ (decode cX6_init 157 = .ok (.putfield 64, 3))) ∧ ((decode cX6_init 160 = .ok (.aload_n 0, 1)) ∧ (decode cX6_init 161 = .ok (.sipush 1024, 3)))))) := by decide +kernel
theorem dX6_init_129 : decode cX6_init 129 = .ok (.newarray .int, 2) := dbm_4.1.1.1.1
theorem dX6_init_131 : decode cX6_init 131 = .ok (.putfield 55, 3) := dbm_4.1.1.1.2
theorem dX6_init_134 : decode cX6_init 134 = .ok (.aload_n 0, 1) := dbm_4.1.1.2.1
theorem dX6_init_135 : decode cX6_init 135 = .ok (.bipush 91, 2) := dbm_4.1.1.2.2
theorem dX6_init_137 : decode cX6_init 137 = .ok (.newarray .int, 2) := dbm_4.1.2.1.1
theorem dX6_init_139 : decode cX6_init 139 = .ok (.putfield 58, 3) := dbm_4.1.2.1.2
theorem dX6_init_142 : decode cX6_init 142 = .ok (.aload_n 0, 1) := dbm_4.1.2.2.1
theorem dX6_init_143 : decode cX6_init 143 = .ok (.sipush 6272, 3) := dbm_4.1.2.2.2
theorem dX6_init_146 : decode cX6_init 146 = .ok (.newarray .int, 2) := dbm_4.2.1.1.1
theorem dX6_init_148 : decode cX6_init 148 = .ok (.putfield 61, 3) := dbm_4.2.1.1.2
theorem dX6_init_151 : decode cX6_init 151 = .ok (.aload_n 0, 1) := dbm_4.2.1.2.1
theorem dX6_init_152 : decode cX6_init 152 = .ok (.sipush 6272, 3) := dbm_4.2.1.2.2
theorem dX6_init_155 : decode cX6_init 155 = .ok (.newarray .int, 2) := dbm_4.2.2.1.1
theorem dX6_init_157 : decode cX6_init 157 = .ok (.putfield 64, 3) := dbm_4.2.2.1.2
theorem dX6_init_160 : decode cX6_init 160 = .ok (.aload_n 0, 1) := dbm_4.2.2.2.1
theorem dX6_init_161 : decode cX6_init 161 = .ok (.sipush 1024, 3) := dbm_4.2.2.2.2
theorem dbm_5 : (((((decode cX6_init 164 = .ok (.newarray .int, 2)) ∧ (decode cX6_init 166 = .ok (.putfield 67, 3))) ∧ ((decode cX6_init 169 = .ok (.aload_n 0, 1)) ∧ (decode cX6_init 170 = .ok (.bipush 49, 2)))) ∧ (((decode cX6_init 172 = .ok (.newarray .int, 2)) ∧ (decode cX6_init 174 = .ok (.putfield 70, 3))) ∧ ((decode cX6_init 177 = .ok (.aload_n 0, 1)) ∧ (decode cX6_init 178 = .ok (.bipush 12, 2))))) ∧ ((((decode cX6_init 180 = .ok (.newarray .int, 2)) ∧ (decode cX6_init 182 = .ok (.putfield 73, 3))) ∧ ((decode cX6_init 185 = .ok (.aload_n 0, 1)) ∧ (decode cX6_init 186 = .ok (.bipush 8, 2)))) ∧ (((decode cX6_init 188 = .ok (.newarray .int, 2)) ∧ (decode cX6_init 190 = .ok (.putfield 76, 3))) ∧ ((decode cX6_init 193 = .ok (.aload_n 0, 1)) ∧ (decode cX6_init 194 = .ok (.iconst 0, 1)))))) := by decide +kernel
theorem dX6_init_164 : decode cX6_init 164 = .ok (.newarray .int, 2) := dbm_5.1.1.1.1
theorem dX6_init_166 : decode cX6_init 166 = .ok (.putfield 67, 3) := dbm_5.1.1.1.2
theorem dX6_init_169 : decode cX6_init 169 = .ok (.aload_n 0, 1) := dbm_5.1.1.2.1
theorem dX6_init_170 : decode cX6_init 170 = .ok (.bipush 49, 2) := dbm_5.1.1.2.2
theorem dX6_init_172 : decode cX6_init 172 = .ok (.newarray .int, 2) := dbm_5.1.2.1.1
theorem dX6_init_174 : decode cX6_init 174 = .ok (.putfield 70, 3) := dbm_5.1.2.1.2
theorem dX6_init_177 : decode cX6_init 177 = .ok (.aload_n 0, 1) := dbm_5.1.2.2.1
theorem dX6_init_178 : decode cX6_init 178 = .ok (.bipush 12, 2) := dbm_5.1.2.2.2
theorem dX6_init_180 : decode cX6_init 180 = .ok (.newarray .int, 2) := dbm_5.2.1.1.1
theorem dX6_init_182 : decode cX6_init 182 = .ok (.putfield 73, 3) := dbm_5.2.1.1.2
theorem dX6_init_185 : decode cX6_init 185 = .ok (.aload_n 0, 1) := dbm_5.2.1.2.1
theorem dX6_init_186 : decode cX6_init 186 = .ok (.bipush 8, 2) := dbm_5.2.1.2.2
theorem dX6_init_188 : decode cX6_init 188 = .ok (.newarray .int, 2) := dbm_5.2.2.1.1
theorem dX6_init_190 : decode cX6_init 190 = .ok (.putfield 76, 3) := dbm_5.2.2.1.2
theorem dX6_init_193 : decode cX6_init 193 = .ok (.aload_n 0, 1) := dbm_5.2.2.2.1
theorem dX6_init_194 : decode cX6_init 194 = .ok (.iconst 0, 1) := dbm_5.2.2.2.2
theorem dbm_6 : (((((decode cX6_init 195 = .ok (.putfield 79, 3)) ∧ (decode cX6_init 198 = .ok (.return_, 1))) ∧ ((decode cX6_in 0 = .ok (.lload_n 0, 1)) ∧ (decode cX6_in 1 = .ok (.lload_n 2, 1)))) ∧ (((decode cX6_in 2 = .ok (.lcmp, 1)) ∧ (decode cX6_in 3 = .ok (.ifCond .lt 14, 3))) ∧ ((decode cX6_in 6 = .ok (.lload_n 0, 1)) ∧ (decode cX6_in 7 = .ok (.lload 4, 2))))) ∧ ((((decode cX6_in 9 = .ok (.lcmp, 1)) ∧ (decode cX6_in 10 = .ok (.ifCond .gt 7, 3))) ∧ ((decode cX6_in 13 = .ok (.iconst 1, 1)) ∧ (decode cX6_in 14 = .ok (.goto 4, 3)))) ∧ (((decode cX6_in 17 = .ok (.iconst 0, 1)) ∧ (decode cX6_in 18 = .ok (.ireturn, 1))) ∧ ((decode cX6_refuse 0 = .ok (.aload_n 0, 1)) ∧ (decode cX6_refuse 1 = .ok (.getfield 34, 3)))))) := by decide +kernel
theorem dX6_init_195 : decode cX6_init 195 = .ok (.putfield 79, 3) := dbm_6.1.1.1.1
theorem dX6_init_198 : decode cX6_init 198 = .ok (.return_, 1) := dbm_6.1.1.1.2
theorem dX6_in_0 : decode cX6_in 0 = .ok (.lload_n 0, 1) := dbm_6.1.1.2.1
theorem dX6_in_1 : decode cX6_in 1 = .ok (.lload_n 2, 1) := dbm_6.1.1.2.2
theorem dX6_in_2 : decode cX6_in 2 = .ok (.lcmp, 1) := dbm_6.1.2.1.1
theorem dX6_in_3 : decode cX6_in 3 = .ok (.ifCond .lt 14, 3) := dbm_6.1.2.1.2
theorem dX6_in_6 : decode cX6_in 6 = .ok (.lload_n 0, 1) := dbm_6.1.2.2.1
theorem dX6_in_7 : decode cX6_in 7 = .ok (.lload 4, 2) := dbm_6.1.2.2.2
theorem dX6_in_9 : decode cX6_in 9 = .ok (.lcmp, 1) := dbm_6.2.1.1.1
theorem dX6_in_10 : decode cX6_in 10 = .ok (.ifCond .gt 7, 3) := dbm_6.2.1.1.2
theorem dX6_in_13 : decode cX6_in 13 = .ok (.iconst 1, 1) := dbm_6.2.1.2.1
theorem dX6_in_14 : decode cX6_in 14 = .ok (.goto 4, 3) := dbm_6.2.1.2.2
theorem dX6_in_17 : decode cX6_in 17 = .ok (.iconst 0, 1) := dbm_6.2.2.1.1
theorem dX6_in_18 : decode cX6_in 18 = .ok (.ireturn, 1) := dbm_6.2.2.1.2
theorem dX6_refuse_0 : decode cX6_refuse 0 = .ok (.aload_n 0, 1) := dbm_6.2.2.2.1
theorem dX6_refuse_1 : decode cX6_refuse 1 = .ok (.getfield 34, 3) := dbm_6.2.2.2.2
theorem dbm_7 : (((((decode cX6_refuse 4 = .ok (.iload_n 1, 1)) ∧ (decode cX6_refuse 5 = .ok (.ineg, 1))) ∧ ((decode cX6_refuse 6 = .ok (.dup2, 1)) ∧ (decode cX6_refuse 7 = .ok (.iaload, 1)))) ∧ (((decode cX6_refuse 8 = .ok (.iconst 1, 1)) ∧ (decode cX6_refuse 9 = .ok (.iadd, 1))) ∧ ((decode cX6_refuse 10 = .ok (.iastore, 1)) ∧ (decode cX6_refuse 11 = .ok (.iload_n 1, 1))))) ∧ ((((decode cX6_refuse 12 = .ok (.ireturn, 1)) ∧ (decode cX6_isCell 0 = .ok (.iload_n 0, 1))) ∧ ((decode cX6_isCell 1 = .ok (.i2l, 1)) ∧ (decode cX6_isCell 2 = .ok (.lconst 0, 1)))) ∧ (((decode cX6_isCell 3 = .ok (.ldc2_w 83, 3)) ∧ (decode cX6_isCell 6 = .ok (.invokestatic 85, 3))) ∧ ((decode cX6_isCell 9 = .ok (.ireturn, 1)) ∧ (decode cX6_isHouse 0 = .ok (.iload_n 1, 1)))))) := by decide +kernel
theorem dX6_refuse_4 : decode cX6_refuse 4 = .ok (.iload_n 1, 1) := dbm_7.1.1.1.1
theorem dX6_refuse_5 : decode cX6_refuse 5 = .ok (.ineg, 1) := dbm_7.1.1.1.2
theorem dX6_refuse_6 : decode cX6_refuse 6 = .ok (.dup2, 1) := dbm_7.1.1.2.1
theorem dX6_refuse_7 : decode cX6_refuse 7 = .ok (.iaload, 1) := dbm_7.1.1.2.2
theorem dX6_refuse_8 : decode cX6_refuse 8 = .ok (.iconst 1, 1) := dbm_7.1.2.1.1
theorem dX6_refuse_9 : decode cX6_refuse 9 = .ok (.iadd, 1) := dbm_7.1.2.1.2
theorem dX6_refuse_10 : decode cX6_refuse 10 = .ok (.iastore, 1) := dbm_7.1.2.2.1
theorem dX6_refuse_11 : decode cX6_refuse 11 = .ok (.iload_n 1, 1) := dbm_7.1.2.2.2
theorem dX6_refuse_12 : decode cX6_refuse 12 = .ok (.ireturn, 1) := dbm_7.2.1.1.1
theorem dX6_isCell_0 : decode cX6_isCell 0 = .ok (.iload_n 0, 1) := dbm_7.2.1.1.2
theorem dX6_isCell_1 : decode cX6_isCell 1 = .ok (.i2l, 1) := dbm_7.2.1.2.1
theorem dX6_isCell_2 : decode cX6_isCell 2 = .ok (.lconst 0, 1) := dbm_7.2.1.2.2
theorem dX6_isCell_3 : decode cX6_isCell 3 = .ok (.ldc2_w 83, 3) := dbm_7.2.2.1.1
theorem dX6_isCell_6 : decode cX6_isCell 6 = .ok (.invokestatic 85, 3) := dbm_7.2.2.1.2
theorem dX6_isCell_9 : decode cX6_isCell 9 = .ok (.ireturn, 1) := dbm_7.2.2.2.1
theorem dX6_isHouse_0 : decode cX6_isHouse 0 = .ok (.iload_n 1, 1) := dbm_7.2.2.2.2
theorem dbm_8 : (((((decode cX6_isHouse 1 = .ok (.i2l, 1)) ∧ (decode cX6_isHouse 2 = .ok (.lconst 0, 1))) ∧ ((decode cX6_isHouse 3 = .ok (.aload_n 0, 1)) ∧ (decode cX6_isHouse 4 = .ok (.getfield 89, 3)))) ∧ (((decode cX6_isHouse 7 = .ok (.iconst 1, 1)) ∧ (decode cX6_isHouse 8 = .ok (.isub, 1))) ∧ ((decode cX6_isHouse 9 = .ok (.i2l, 1)) ∧ (decode cX6_isHouse 10 = .ok (.invokestatic 85, 3))))) ∧ ((((decode cX6_isHouse 13 = .ok (.ireturn, 1)) ∧ (decode cX6_isWalker 0 = .ok (.iload_n 1, 1))) ∧ ((decode cX6_isWalker 1 = .ok (.i2l, 1)) ∧ (decode cX6_isWalker 2 = .ok (.lconst 0, 1)))) ∧ (((decode cX6_isWalker 3 = .ok (.aload_n 0, 1)) ∧ (decode cX6_isWalker 4 = .ok (.getfield 92, 3))) ∧ ((decode cX6_isWalker 7 = .ok (.iconst 1, 1)) ∧ (decode cX6_isWalker 8 = .ok (.isub, 1)))))) := by decide +kernel
theorem dX6_isHouse_1 : decode cX6_isHouse 1 = .ok (.i2l, 1) := dbm_8.1.1.1.1
theorem dX6_isHouse_2 : decode cX6_isHouse 2 = .ok (.lconst 0, 1) := dbm_8.1.1.1.2
theorem dX6_isHouse_3 : decode cX6_isHouse 3 = .ok (.aload_n 0, 1) := dbm_8.1.1.2.1
theorem dX6_isHouse_4 : decode cX6_isHouse 4 = .ok (.getfield 89, 3) := dbm_8.1.1.2.2
theorem dX6_isHouse_7 : decode cX6_isHouse 7 = .ok (.iconst 1, 1) := dbm_8.1.2.1.1
theorem dX6_isHouse_8 : decode cX6_isHouse 8 = .ok (.isub, 1) := dbm_8.1.2.1.2
theorem dX6_isHouse_9 : decode cX6_isHouse 9 = .ok (.i2l, 1) := dbm_8.1.2.2.1
theorem dX6_isHouse_10 : decode cX6_isHouse 10 = .ok (.invokestatic 85, 3) := dbm_8.1.2.2.2
theorem dX6_isHouse_13 : decode cX6_isHouse 13 = .ok (.ireturn, 1) := dbm_8.2.1.1.1
theorem dX6_isWalker_0 : decode cX6_isWalker 0 = .ok (.iload_n 1, 1) := dbm_8.2.1.1.2
theorem dX6_isWalker_1 : decode cX6_isWalker 1 = .ok (.i2l, 1) := dbm_8.2.1.2.1
theorem dX6_isWalker_2 : decode cX6_isWalker 2 = .ok (.lconst 0, 1) := dbm_8.2.1.2.2
theorem dX6_isWalker_3 : decode cX6_isWalker 3 = .ok (.aload_n 0, 1) := dbm_8.2.2.1.1
theorem dX6_isWalker_4 : decode cX6_isWalker 4 = .ok (.getfield 92, 3) := dbm_8.2.2.1.2
theorem dX6_isWalker_7 : decode cX6_isWalker 7 = .ok (.iconst 1, 1) := dbm_8.2.2.2.1
theorem dX6_isWalker_8 : decode cX6_isWalker 8 = .ok (.isub, 1) := dbm_8.2.2.2.2
theorem dbm_9 : (((((decode cX6_isWalker 9 = .ok (.i2l, 1)) ∧ (decode cX6_isWalker 10 = .ok (.invokestatic 85, 3))) ∧ ((decode cX6_isWalker 13 = .ok (.ireturn, 1)) ∧ (decode cX6_wrongNumber 0 = .ok (.iload_n 0, 1)))) ∧ (((decode cX6_wrongNumber 1 = .ok (.iload_n 1, 1)) ∧ (decode cX6_wrongNumber 2 = .ok (.if_icmp .ge 8, 3))) ∧ ((decode cX6_wrongNumber 5 = .ok (.bipush (-4), 2)) ∧ (decode cX6_wrongNumber 7 = .ok (.goto 14, 3))))) ∧ ((((decode cX6_wrongNumber 10 = .ok (.iload_n 0, 1)) ∧ (decode cX6_wrongNumber 11 = .ok (.iload_n 2, 1))) ∧ ((decode cX6_wrongNumber 12 = .ok (.if_icmp .le 8, 3)) ∧ (decode cX6_wrongNumber 15 = .ok (.bipush (-6), 2)))) ∧ (((decode cX6_wrongNumber 17 = .ok (.goto 4, 3)) ∧ (decode cX6_wrongNumber 20 = .ok (.iconst 0, 1))) ∧ ((decode cX6_wrongNumber 21 = .ok (.ireturn, 1)) ∧ (decode cX6_wrongBit 0 = .ok (.iload_n 0, 1)))))) := by decide +kernel
theorem dX6_isWalker_9 : decode cX6_isWalker 9 = .ok (.i2l, 1) := dbm_9.1.1.1.1
theorem dX6_isWalker_10 : decode cX6_isWalker 10 = .ok (.invokestatic 85, 3) := dbm_9.1.1.1.2
theorem dX6_isWalker_13 : decode cX6_isWalker 13 = .ok (.ireturn, 1) := dbm_9.1.1.2.1
theorem dX6_wrongNumber_0 : decode cX6_wrongNumber 0 = .ok (.iload_n 0, 1) := dbm_9.1.1.2.2
theorem dX6_wrongNumber_1 : decode cX6_wrongNumber 1 = .ok (.iload_n 1, 1) := dbm_9.1.2.1.1
theorem dX6_wrongNumber_2 : decode cX6_wrongNumber 2 = .ok (.if_icmp .ge 8, 3) := dbm_9.1.2.1.2
theorem dX6_wrongNumber_5 : decode cX6_wrongNumber 5 = .ok (.bipush (-4), 2) := dbm_9.1.2.2.1
theorem dX6_wrongNumber_7 : decode cX6_wrongNumber 7 = .ok (.goto 14, 3) := dbm_9.1.2.2.2
theorem dX6_wrongNumber_10 : decode cX6_wrongNumber 10 = .ok (.iload_n 0, 1) := dbm_9.2.1.1.1
theorem dX6_wrongNumber_11 : decode cX6_wrongNumber 11 = .ok (.iload_n 2, 1) := dbm_9.2.1.1.2
theorem dX6_wrongNumber_12 : decode cX6_wrongNumber 12 = .ok (.if_icmp .le 8, 3) := dbm_9.2.1.2.1
theorem dX6_wrongNumber_15 : decode cX6_wrongNumber 15 = .ok (.bipush (-6), 2) := dbm_9.2.1.2.2
theorem dX6_wrongNumber_17 : decode cX6_wrongNumber 17 = .ok (.goto 4, 3) := dbm_9.2.2.1.1
theorem dX6_wrongNumber_20 : decode cX6_wrongNumber 20 = .ok (.iconst 0, 1) := dbm_9.2.2.1.2
theorem dX6_wrongNumber_21 : decode cX6_wrongNumber 21 = .ok (.ireturn, 1) := dbm_9.2.2.2.1
theorem dX6_wrongBit_0 : decode cX6_wrongBit 0 = .ok (.iload_n 0, 1) := dbm_9.2.2.2.2
theorem dbm_10 : (((((decode cX6_wrongBit 1 = .ok (.ifCond .ne 19, 3)) ∧ (decode cX6_wrongBit 4 = .ok (.iload_n 1, 1))) ∧ ((decode cX6_wrongBit 5 = .ok (.i2l, 1)) ∧ (decode cX6_wrongBit 6 = .ok (.lconst 0, 1)))) ∧ (((decode cX6_wrongBit 7 = .ok (.iload_n 2, 1)) ∧ (decode cX6_wrongBit 8 = .ok (.i2l, 1))) ∧ ((decode cX6_wrongBit 9 = .ok (.invokestatic 85, 3)) ∧ (decode cX6_wrongBit 12 = .ok (.ifCond .ne 8, 3))))) ∧ ((((decode cX6_wrongBit 15 = .ok (.bipush (-2), 2)) ∧ (decode cX6_wrongBit 17 = .ok (.goto 4, 3))) ∧ ((decode cX6_wrongBit 20 = .ok (.iload_n 0, 1)) ∧ (decode cX6_wrongBit 21 = .ok (.ireturn, 1)))) ∧ (((decode cX6_hasBit 0 = .ok (.iload_n 0, 1)) ∧ (decode cX6_hasBit 1 = .ok (.iload_n 1, 1))) ∧ ((decode cX6_hasBit 2 = .ok (.ishr, 1)) ∧ (decode cX6_hasBit 3 = .ok (.iconst 1, 1)))))) := by decide +kernel
theorem dX6_wrongBit_1 : decode cX6_wrongBit 1 = .ok (.ifCond .ne 19, 3) := dbm_10.1.1.1.1
theorem dX6_wrongBit_4 : decode cX6_wrongBit 4 = .ok (.iload_n 1, 1) := dbm_10.1.1.1.2
theorem dX6_wrongBit_5 : decode cX6_wrongBit 5 = .ok (.i2l, 1) := dbm_10.1.1.2.1
theorem dX6_wrongBit_6 : decode cX6_wrongBit 6 = .ok (.lconst 0, 1) := dbm_10.1.1.2.2
theorem dX6_wrongBit_7 : decode cX6_wrongBit 7 = .ok (.iload_n 2, 1) := dbm_10.1.2.1.1
theorem dX6_wrongBit_8 : decode cX6_wrongBit 8 = .ok (.i2l, 1) := dbm_10.1.2.1.2
theorem dX6_wrongBit_9 : decode cX6_wrongBit 9 = .ok (.invokestatic 85, 3) := dbm_10.1.2.2.1
theorem dX6_wrongBit_12 : decode cX6_wrongBit 12 = .ok (.ifCond .ne 8, 3) := dbm_10.1.2.2.2
theorem dX6_wrongBit_15 : decode cX6_wrongBit 15 = .ok (.bipush (-2), 2) := dbm_10.2.1.1.1
theorem dX6_wrongBit_17 : decode cX6_wrongBit 17 = .ok (.goto 4, 3) := dbm_10.2.1.1.2
theorem dX6_wrongBit_20 : decode cX6_wrongBit 20 = .ok (.iload_n 0, 1) := dbm_10.2.1.2.1
theorem dX6_wrongBit_21 : decode cX6_wrongBit 21 = .ok (.ireturn, 1) := dbm_10.2.1.2.2
theorem dX6_hasBit_0 : decode cX6_hasBit 0 = .ok (.iload_n 0, 1) := dbm_10.2.2.1.1
theorem dX6_hasBit_1 : decode cX6_hasBit 1 = .ok (.iload_n 1, 1) := dbm_10.2.2.1.2
theorem dX6_hasBit_2 : decode cX6_hasBit 2 = .ok (.ishr, 1) := dbm_10.2.2.2.1
theorem dX6_hasBit_3 : decode cX6_hasBit 3 = .ok (.iconst 1, 1) := dbm_10.2.2.2.2
theorem dbm_11 : (((((decode cX6_hasBit 4 = .ok (.iand, 1)) ∧ (decode cX6_hasBit 5 = .ok (.iconst 1, 1))) ∧ ((decode cX6_hasBit 6 = .ok (.if_icmp .ne 7, 3)) ∧ (decode cX6_hasBit 9 = .ok (.iconst 1, 1)))) ∧ (((decode cX6_hasBit 10 = .ok (.goto 4, 3)) ∧ (decode cX6_hasBit 13 = .ok (.iconst 0, 1))) ∧ ((decode cX6_hasBit 14 = .ok (.ireturn, 1)) ∧ (decode cX6_onesOf 0 = .ok (.iconst 0, 1))))) ∧ ((((decode cX6_onesOf 1 = .ok (.istore_n 1, 1)) ∧ (decode cX6_onesOf 2 = .ok (.iload_n 0, 1))) ∧ ((decode cX6_onesOf 3 = .ok (.istore_n 2, 1)) ∧ (decode cX6_onesOf 4 = .ok (.iload_n 2, 1)))) ∧ (((decode cX6_onesOf 5 = .ok (.ifCond .eq 15, 3)) ∧ (decode cX6_onesOf 8 = .ok (.iinc 1 1, 3))) ∧ ((decode cX6_onesOf 11 = .ok (.iload_n 2, 1)) ∧ (decode cX6_onesOf 12 = .ok (.iload_n 2, 1)))))) := by decide +kernel
theorem dX6_hasBit_4 : decode cX6_hasBit 4 = .ok (.iand, 1) := dbm_11.1.1.1.1
theorem dX6_hasBit_5 : decode cX6_hasBit 5 = .ok (.iconst 1, 1) := dbm_11.1.1.1.2
theorem dX6_hasBit_6 : decode cX6_hasBit 6 = .ok (.if_icmp .ne 7, 3) := dbm_11.1.1.2.1
theorem dX6_hasBit_9 : decode cX6_hasBit 9 = .ok (.iconst 1, 1) := dbm_11.1.1.2.2
theorem dX6_hasBit_10 : decode cX6_hasBit 10 = .ok (.goto 4, 3) := dbm_11.1.2.1.1
theorem dX6_hasBit_13 : decode cX6_hasBit 13 = .ok (.iconst 0, 1) := dbm_11.1.2.1.2
theorem dX6_hasBit_14 : decode cX6_hasBit 14 = .ok (.ireturn, 1) := dbm_11.1.2.2.1
theorem dX6_onesOf_0 : decode cX6_onesOf 0 = .ok (.iconst 0, 1) := dbm_11.1.2.2.2
theorem dX6_onesOf_1 : decode cX6_onesOf 1 = .ok (.istore_n 1, 1) := dbm_11.2.1.1.1
theorem dX6_onesOf_2 : decode cX6_onesOf 2 = .ok (.iload_n 0, 1) := dbm_11.2.1.1.2
theorem dX6_onesOf_3 : decode cX6_onesOf 3 = .ok (.istore_n 2, 1) := dbm_11.2.1.2.1
theorem dX6_onesOf_4 : decode cX6_onesOf 4 = .ok (.iload_n 2, 1) := dbm_11.2.1.2.2
theorem dX6_onesOf_5 : decode cX6_onesOf 5 = .ok (.ifCond .eq 15, 3) := dbm_11.2.2.1.1
theorem dX6_onesOf_8 : decode cX6_onesOf 8 = .ok (.iinc 1 1, 3) := dbm_11.2.2.1.2
theorem dX6_onesOf_11 : decode cX6_onesOf 11 = .ok (.iload_n 2, 1) := dbm_11.2.2.2.1
theorem dX6_onesOf_12 : decode cX6_onesOf 12 = .ok (.iload_n 2, 1) := dbm_11.2.2.2.2
theorem dbm_12 : (((((decode cX6_onesOf 13 = .ok (.iconst 1, 1)) ∧ (decode cX6_onesOf 14 = .ok (.isub, 1))) ∧ ((decode cX6_onesOf 15 = .ok (.iand, 1)) ∧ (decode cX6_onesOf 16 = .ok (.istore_n 2, 1)))) ∧ (((decode cX6_onesOf 17 = .ok (.goto (-13), 3)) ∧ (decode cX6_onesOf 20 = .ok (.iload_n 1, 1))) ∧ ((decode cX6_onesOf 21 = .ok (.ireturn, 1)) ∧ (decode cX6_apartBy 0 = .ok (.iload_n 0, 1))))) ∧ ((((decode cX6_apartBy 1 = .ok (.iload_n 1, 1)) ∧ (decode cX6_apartBy 2 = .ok (.if_icmp .le 9, 3))) ∧ ((decode cX6_apartBy 5 = .ok (.iload_n 0, 1)) ∧ (decode cX6_apartBy 6 = .ok (.iload_n 1, 1)))) ∧ (((decode cX6_apartBy 7 = .ok (.isub, 1)) ∧ (decode cX6_apartBy 8 = .ok (.goto 6, 3))) ∧ ((decode cX6_apartBy 11 = .ok (.iload_n 1, 1)) ∧ (decode cX6_apartBy 12 = .ok (.iload_n 0, 1)))))) := by decide +kernel
theorem dX6_onesOf_13 : decode cX6_onesOf 13 = .ok (.iconst 1, 1) := dbm_12.1.1.1.1
theorem dX6_onesOf_14 : decode cX6_onesOf 14 = .ok (.isub, 1) := dbm_12.1.1.1.2
theorem dX6_onesOf_15 : decode cX6_onesOf 15 = .ok (.iand, 1) := dbm_12.1.1.2.1
theorem dX6_onesOf_16 : decode cX6_onesOf 16 = .ok (.istore_n 2, 1) := dbm_12.1.1.2.2
theorem dX6_onesOf_17 : decode cX6_onesOf 17 = .ok (.goto (-13), 3) := dbm_12.1.2.1.1
theorem dX6_onesOf_20 : decode cX6_onesOf 20 = .ok (.iload_n 1, 1) := dbm_12.1.2.1.2
theorem dX6_onesOf_21 : decode cX6_onesOf 21 = .ok (.ireturn, 1) := dbm_12.1.2.2.1
theorem dX6_apartBy_0 : decode cX6_apartBy 0 = .ok (.iload_n 0, 1) := dbm_12.1.2.2.2
theorem dX6_apartBy_1 : decode cX6_apartBy 1 = .ok (.iload_n 1, 1) := dbm_12.2.1.1.1
theorem dX6_apartBy_2 : decode cX6_apartBy 2 = .ok (.if_icmp .le 9, 3) := dbm_12.2.1.1.2
theorem dX6_apartBy_5 : decode cX6_apartBy 5 = .ok (.iload_n 0, 1) := dbm_12.2.1.2.1
theorem dX6_apartBy_6 : decode cX6_apartBy 6 = .ok (.iload_n 1, 1) := dbm_12.2.1.2.2
theorem dX6_apartBy_7 : decode cX6_apartBy 7 = .ok (.isub, 1) := dbm_12.2.2.1.1
theorem dX6_apartBy_8 : decode cX6_apartBy 8 = .ok (.goto 6, 3) := dbm_12.2.2.1.2
theorem dX6_apartBy_11 : decode cX6_apartBy 11 = .ok (.iload_n 1, 1) := dbm_12.2.2.2.1
theorem dX6_apartBy_12 : decode cX6_apartBy 12 = .ok (.iload_n 0, 1) := dbm_12.2.2.2.2
theorem dbm_13 : (((((decode cX6_apartBy 13 = .ok (.isub, 1)) ∧ (decode cX6_apartBy 14 = .ok (.ireturn, 1))) ∧ ((decode cX6_stepsOf 0 = .ok (.iload_n 0, 1)) ∧ (decode cX6_stepsOf 1 = .ok (.bipush 7, 2)))) ∧ (((decode cX6_stepsOf 3 = .ok (.idiv, 1)) ∧ (decode cX6_stepsOf 4 = .ok (.iload_n 1, 1))) ∧ ((decode cX6_stepsOf 5 = .ok (.bipush 7, 2)) ∧ (decode cX6_stepsOf 7 = .ok (.idiv, 1))))) ∧ ((((decode cX6_stepsOf 8 = .ok (.invokestatic 95, 3)) ∧ (decode cX6_stepsOf 11 = .ok (.iload_n 0, 1))) ∧ ((decode cX6_stepsOf 12 = .ok (.bipush 7, 2)) ∧ (decode cX6_stepsOf 14 = .ok (.irem, 1)))) ∧ (((decode cX6_stepsOf 15 = .ok (.iload_n 1, 1)) ∧ (decode cX6_stepsOf 16 = .ok (.bipush 7, 2))) ∧ ((decode cX6_stepsOf 18 = .ok (.irem, 1)) ∧ (decode cX6_stepsOf 19 = .ok (.invokestatic 95, 3)))))) := by decide +kernel
theorem dX6_apartBy_13 : decode cX6_apartBy 13 = .ok (.isub, 1) := dbm_13.1.1.1.1
theorem dX6_apartBy_14 : decode cX6_apartBy 14 = .ok (.ireturn, 1) := dbm_13.1.1.1.2
theorem dX6_stepsOf_0 : decode cX6_stepsOf 0 = .ok (.iload_n 0, 1) := dbm_13.1.1.2.1
theorem dX6_stepsOf_1 : decode cX6_stepsOf 1 = .ok (.bipush 7, 2) := dbm_13.1.1.2.2
theorem dX6_stepsOf_3 : decode cX6_stepsOf 3 = .ok (.idiv, 1) := dbm_13.1.2.1.1
theorem dX6_stepsOf_4 : decode cX6_stepsOf 4 = .ok (.iload_n 1, 1) := dbm_13.1.2.1.2
theorem dX6_stepsOf_5 : decode cX6_stepsOf 5 = .ok (.bipush 7, 2) := dbm_13.1.2.2.1
theorem dX6_stepsOf_7 : decode cX6_stepsOf 7 = .ok (.idiv, 1) := dbm_13.1.2.2.2
theorem dX6_stepsOf_8 : decode cX6_stepsOf 8 = .ok (.invokestatic 95, 3) := dbm_13.2.1.1.1
theorem dX6_stepsOf_11 : decode cX6_stepsOf 11 = .ok (.iload_n 0, 1) := dbm_13.2.1.1.2
theorem dX6_stepsOf_12 : decode cX6_stepsOf 12 = .ok (.bipush 7, 2) := dbm_13.2.1.2.1
theorem dX6_stepsOf_14 : decode cX6_stepsOf 14 = .ok (.irem, 1) := dbm_13.2.1.2.2
theorem dX6_stepsOf_15 : decode cX6_stepsOf 15 = .ok (.iload_n 1, 1) := dbm_13.2.2.1.1
theorem dX6_stepsOf_16 : decode cX6_stepsOf 16 = .ok (.bipush 7, 2) := dbm_13.2.2.1.2
theorem dX6_stepsOf_18 : decode cX6_stepsOf 18 = .ok (.irem, 1) := dbm_13.2.2.2.1
theorem dX6_stepsOf_19 : decode cX6_stepsOf 19 = .ok (.invokestatic 95, 3) := dbm_13.2.2.2.2
theorem dbm_14 : (((((decode cX6_stepsOf 22 = .ok (.iadd, 1)) ∧ (decode cX6_stepsOf 23 = .ok (.ireturn, 1))) ∧ ((decode cX6_reachOf 0 = .ok (.aload_n 0, 1)) ∧ (decode cX6_reachOf 1 = .ok (.getfield 7, 3)))) ∧ (((decode cX6_reachOf 4 = .ok (.iload_n 1, 1)) ∧ (decode cX6_reachOf 5 = .ok (.iaload, 1))) ∧ ((decode cX6_reachOf 6 = .ok (.tableswitch 62 1 5 #[34, 36, 38, 49, 51], 34)) ∧ (decode cX6_reachOf 40 = .ok (.iconst 3, 1))))) ∧ ((((decode cX6_reachOf 41 = .ok (.ireturn, 1)) ∧ (decode cX6_reachOf 42 = .ok (.iconst 0, 1))) ∧ ((decode cX6_reachOf 43 = .ok (.ireturn, 1)) ∧ (decode cX6_reachOf 44 = .ok (.iconst 2, 1)))) ∧ (((decode cX6_reachOf 45 = .ok (.aload_n 0, 1)) ∧ (decode cX6_reachOf 46 = .ok (.getfield 13, 3))) ∧ ((decode cX6_reachOf 49 = .ok (.iload_n 1, 1)) ∧ (decode cX6_reachOf 50 = .ok (.iaload, 1)))))) := by decide +kernel
theorem dX6_stepsOf_22 : decode cX6_stepsOf 22 = .ok (.iadd, 1) := dbm_14.1.1.1.1
theorem dX6_stepsOf_23 : decode cX6_stepsOf 23 = .ok (.ireturn, 1) := dbm_14.1.1.1.2
theorem dX6_reachOf_0 : decode cX6_reachOf 0 = .ok (.aload_n 0, 1) := dbm_14.1.1.2.1
theorem dX6_reachOf_1 : decode cX6_reachOf 1 = .ok (.getfield 7, 3) := dbm_14.1.1.2.2
theorem dX6_reachOf_4 : decode cX6_reachOf 4 = .ok (.iload_n 1, 1) := dbm_14.1.2.1.1
theorem dX6_reachOf_5 : decode cX6_reachOf 5 = .ok (.iaload, 1) := dbm_14.1.2.1.2
theorem dX6_reachOf_6 : decode cX6_reachOf 6 = .ok (.tableswitch 62 1 5 #[34, 36, 38, 49, 51], 34) := dbm_14.1.2.2.1
theorem dX6_reachOf_40 : decode cX6_reachOf 40 = .ok (.iconst 3, 1) := dbm_14.1.2.2.2
theorem dX6_reachOf_41 : decode cX6_reachOf 41 = .ok (.ireturn, 1) := dbm_14.2.1.1.1
theorem dX6_reachOf_42 : decode cX6_reachOf 42 = .ok (.iconst 0, 1) := dbm_14.2.1.1.2
theorem dX6_reachOf_43 : decode cX6_reachOf 43 = .ok (.ireturn, 1) := dbm_14.2.1.2.1
theorem dX6_reachOf_44 : decode cX6_reachOf 44 = .ok (.iconst 2, 1) := dbm_14.2.1.2.2
theorem dX6_reachOf_45 : decode cX6_reachOf 45 = .ok (.aload_n 0, 1) := dbm_14.2.2.1.1
theorem dX6_reachOf_46 : decode cX6_reachOf 46 = .ok (.getfield 13, 3) := dbm_14.2.2.1.2
theorem dX6_reachOf_49 : decode cX6_reachOf 49 = .ok (.iload_n 1, 1) := dbm_14.2.2.2.1
theorem dX6_reachOf_50 : decode cX6_reachOf 50 = .ok (.iaload, 1) := dbm_14.2.2.2.2
theorem dbm_15 : (((((decode cX6_reachOf 51 = .ok (.iconst 2, 1)) ∧ (decode cX6_reachOf 52 = .ok (.idiv, 1))) ∧ ((decode cX6_reachOf 53 = .ok (.iadd, 1)) ∧ (decode cX6_reachOf 54 = .ok (.ireturn, 1)))) ∧ (((decode cX6_reachOf 55 = .ok (.iconst 1, 1)) ∧ (decode cX6_reachOf 56 = .ok (.ireturn, 1))) ∧ ((decode cX6_reachOf 57 = .ok (.iconst 4, 1)) ∧ (decode cX6_reachOf 58 = .ok (.aload_n 0, 1))))) ∧ ((((decode cX6_reachOf 59 = .ok (.getfield 13, 3)) ∧ (decode cX6_reachOf 62 = .ok (.iload_n 1, 1))) ∧ ((decode cX6_reachOf 63 = .ok (.iaload, 1)) ∧ (decode cX6_reachOf 64 = .ok (.iconst 2, 1)))) ∧ (((decode cX6_reachOf 65 = .ok (.idiv, 1)) ∧ (decode cX6_reachOf 66 = .ok (.iadd, 1))) ∧ ((decode cX6_reachOf 67 = .ok (.ireturn, 1)) ∧ (decode cX6_reachOf 68 = .ok (.iconst 2, 1)))))) := by decide +kernel
theorem dX6_reachOf_51 : decode cX6_reachOf 51 = .ok (.iconst 2, 1) := dbm_15.1.1.1.1
theorem dX6_reachOf_52 : decode cX6_reachOf 52 = .ok (.idiv, 1) := dbm_15.1.1.1.2
theorem dX6_reachOf_53 : decode cX6_reachOf 53 = .ok (.iadd, 1) := dbm_15.1.1.2.1
theorem dX6_reachOf_54 : decode cX6_reachOf 54 = .ok (.ireturn, 1) := dbm_15.1.1.2.2
theorem dX6_reachOf_55 : decode cX6_reachOf 55 = .ok (.iconst 1, 1) := dbm_15.1.2.1.1
theorem dX6_reachOf_56 : decode cX6_reachOf 56 = .ok (.ireturn, 1) := dbm_15.1.2.1.2
theorem dX6_reachOf_57 : decode cX6_reachOf 57 = .ok (.iconst 4, 1) := dbm_15.1.2.2.1
theorem dX6_reachOf_58 : decode cX6_reachOf 58 = .ok (.aload_n 0, 1) := dbm_15.1.2.2.2
theorem dX6_reachOf_59 : decode cX6_reachOf 59 = .ok (.getfield 13, 3) := dbm_15.2.1.1.1
theorem dX6_reachOf_62 : decode cX6_reachOf 62 = .ok (.iload_n 1, 1) := dbm_15.2.1.1.2
theorem dX6_reachOf_63 : decode cX6_reachOf 63 = .ok (.iaload, 1) := dbm_15.2.1.2.1
theorem dX6_reachOf_64 : decode cX6_reachOf 64 = .ok (.iconst 2, 1) := dbm_15.2.1.2.2
theorem dX6_reachOf_65 : decode cX6_reachOf 65 = .ok (.idiv, 1) := dbm_15.2.2.1.1
theorem dX6_reachOf_66 : decode cX6_reachOf 66 = .ok (.iadd, 1) := dbm_15.2.2.1.2
theorem dX6_reachOf_67 : decode cX6_reachOf 67 = .ok (.ireturn, 1) := dbm_15.2.2.2.1
theorem dX6_reachOf_68 : decode cX6_reachOf 68 = .ok (.iconst 2, 1) := dbm_15.2.2.2.2
theorem dbm_16 : (((((decode cX6_reachOf 69 = .ok (.ireturn, 1)) ∧ (decode cX6_minutesOf 0 = .ok (.aload_n 0, 1))) ∧ ((decode cX6_minutesOf 1 = .ok (.getfield 13, 3)) ∧ (decode cX6_minutesOf 4 = .ok (.iload_n 1, 1)))) ∧ (((decode cX6_minutesOf 5 = .ok (.iaload, 1)) ∧ (decode cX6_minutesOf 6 = .ok (.iconst 5, 1))) ∧ ((decode cX6_minutesOf 7 = .ok (.iadd, 1)) ∧ (decode cX6_minutesOf 8 = .ok (.istore_n 3, 1))))) ∧ ((((decode cX6_minutesOf 9 = .ok (.aload_n 0, 1)) ∧ (decode cX6_minutesOf 10 = .ok (.getfield 7, 3))) ∧ ((decode cX6_minutesOf 13 = .ok (.iload_n 1, 1)) ∧ (decode cX6_minutesOf 14 = .ok (.iaload, 1)))) ∧ (((decode cX6_minutesOf 15 = .ok (.tableswitch 61 1 5 #[33, 37, 41, 46, 52], 33)) ∧ (decode cX6_minutesOf 48 = .ok (.iconst 2, 1))) ∧ ((decode cX6_minutesOf 49 = .ok (.iload_n 3, 1)) ∧ (decode cX6_minutesOf 50 = .ok (.imul, 1)))))) := by decide +kernel
theorem dX6_reachOf_69 : decode cX6_reachOf 69 = .ok (.ireturn, 1) := dbm_16.1.1.1.1
theorem dX6_minutesOf_0 : decode cX6_minutesOf 0 = .ok (.aload_n 0, 1) := dbm_16.1.1.1.2
theorem dX6_minutesOf_1 : decode cX6_minutesOf 1 = .ok (.getfield 13, 3) := dbm_16.1.1.2.1
theorem dX6_minutesOf_4 : decode cX6_minutesOf 4 = .ok (.iload_n 1, 1) := dbm_16.1.1.2.2
theorem dX6_minutesOf_5 : decode cX6_minutesOf 5 = .ok (.iaload, 1) := dbm_16.1.2.1.1
theorem dX6_minutesOf_6 : decode cX6_minutesOf 6 = .ok (.iconst 5, 1) := dbm_16.1.2.1.2
theorem dX6_minutesOf_7 : decode cX6_minutesOf 7 = .ok (.iadd, 1) := dbm_16.1.2.2.1
theorem dX6_minutesOf_8 : decode cX6_minutesOf 8 = .ok (.istore_n 3, 1) := dbm_16.1.2.2.2
theorem dX6_minutesOf_9 : decode cX6_minutesOf 9 = .ok (.aload_n 0, 1) := dbm_16.2.1.1.1
theorem dX6_minutesOf_10 : decode cX6_minutesOf 10 = .ok (.getfield 7, 3) := dbm_16.2.1.1.2
theorem dX6_minutesOf_13 : decode cX6_minutesOf 13 = .ok (.iload_n 1, 1) := dbm_16.2.1.2.1
theorem dX6_minutesOf_14 : decode cX6_minutesOf 14 = .ok (.iaload, 1) := dbm_16.2.1.2.2
theorem dX6_minutesOf_15 : decode cX6_minutesOf 15 = .ok (.tableswitch 61 1 5 #[33, 37, 41, 46, 52], 33) := dbm_16.2.2.1.1
theorem dX6_minutesOf_48 : decode cX6_minutesOf 48 = .ok (.iconst 2, 1) := dbm_16.2.2.1.2
theorem dX6_minutesOf_49 : decode cX6_minutesOf 49 = .ok (.iload_n 3, 1) := dbm_16.2.2.2.1
theorem dX6_minutesOf_50 : decode cX6_minutesOf 50 = .ok (.imul, 1) := dbm_16.2.2.2.2
theorem dbm_17 : (((((decode cX6_minutesOf 51 = .ok (.ireturn, 1)) ∧ (decode cX6_minutesOf 52 = .ok (.iload_n 3, 1))) ∧ ((decode cX6_minutesOf 53 = .ok (.iconst 2, 1)) ∧ (decode cX6_minutesOf 54 = .ok (.idiv, 1)))) ∧ (((decode cX6_minutesOf 55 = .ok (.ireturn, 1)) ∧ (decode cX6_minutesOf 56 = .ok (.iload_n 3, 1))) ∧ ((decode cX6_minutesOf 57 = .ok (.bipush 20, 2)) ∧ (decode cX6_minutesOf 59 = .ok (.iadd, 1))))) ∧ ((((decode cX6_minutesOf 60 = .ok (.ireturn, 1)) ∧ (decode cX6_minutesOf 61 = .ok (.iload_n 3, 1))) ∧ ((decode cX6_minutesOf 62 = .ok (.iconst 2, 1)) ∧ (decode cX6_minutesOf 63 = .ok (.idiv, 1)))) ∧ (((decode cX6_minutesOf 64 = .ok (.iload_n 2, 1)) ∧ (decode cX6_minutesOf 65 = .ok (.iadd, 1))) ∧ ((decode cX6_minutesOf 66 = .ok (.ireturn, 1)) ∧ (decode cX6_minutesOf 67 = .ok (.iload_n 3, 1)))))) := by decide +kernel
theorem dX6_minutesOf_51 : decode cX6_minutesOf 51 = .ok (.ireturn, 1) := dbm_17.1.1.1.1
theorem dX6_minutesOf_52 : decode cX6_minutesOf 52 = .ok (.iload_n 3, 1) := dbm_17.1.1.1.2
theorem dX6_minutesOf_53 : decode cX6_minutesOf 53 = .ok (.iconst 2, 1) := dbm_17.1.1.2.1
theorem dX6_minutesOf_54 : decode cX6_minutesOf 54 = .ok (.idiv, 1) := dbm_17.1.1.2.2
theorem dX6_minutesOf_55 : decode cX6_minutesOf 55 = .ok (.ireturn, 1) := dbm_17.1.2.1.1
theorem dX6_minutesOf_56 : decode cX6_minutesOf 56 = .ok (.iload_n 3, 1) := dbm_17.1.2.1.2
theorem dX6_minutesOf_57 : decode cX6_minutesOf 57 = .ok (.bipush 20, 2) := dbm_17.1.2.2.1
theorem dX6_minutesOf_59 : decode cX6_minutesOf 59 = .ok (.iadd, 1) := dbm_17.1.2.2.2
theorem dX6_minutesOf_60 : decode cX6_minutesOf 60 = .ok (.ireturn, 1) := dbm_17.2.1.1.1
theorem dX6_minutesOf_61 : decode cX6_minutesOf 61 = .ok (.iload_n 3, 1) := dbm_17.2.1.1.2
theorem dX6_minutesOf_62 : decode cX6_minutesOf 62 = .ok (.iconst 2, 1) := dbm_17.2.1.2.1
theorem dX6_minutesOf_63 : decode cX6_minutesOf 63 = .ok (.idiv, 1) := dbm_17.2.1.2.2
theorem dX6_minutesOf_64 : decode cX6_minutesOf 64 = .ok (.iload_n 2, 1) := dbm_17.2.2.1.1
theorem dX6_minutesOf_65 : decode cX6_minutesOf 65 = .ok (.iadd, 1) := dbm_17.2.2.1.2
theorem dX6_minutesOf_66 : decode cX6_minutesOf 66 = .ok (.ireturn, 1) := dbm_17.2.2.2.1
theorem dX6_minutesOf_67 : decode cX6_minutesOf 67 = .ok (.iload_n 3, 1) := dbm_17.2.2.2.2
theorem dbm_18 : (((((decode cX6_minutesOf 68 = .ok (.bipush 20, 2)) ∧ (decode cX6_minutesOf 70 = .ok (.iadd, 1))) ∧ ((decode cX6_minutesOf 71 = .ok (.iconst 2, 1)) ∧ (decode cX6_minutesOf 72 = .ok (.iload_n 2, 1)))) ∧ (((decode cX6_minutesOf 73 = .ok (.imul, 1)) ∧ (decode cX6_minutesOf 74 = .ok (.iadd, 1))) ∧ ((decode cX6_minutesOf 75 = .ok (.ireturn, 1)) ∧ (decode cX6_minutesOf 76 = .ok (.iload_n 3, 1))))) ∧ ((((decode cX6_minutesOf 77 = .ok (.ireturn, 1)) ∧ (decode cX6_canSee 0 = .ok (.aload_n 0, 1))) ∧ ((decode cX6_canSee 1 = .ok (.getfield 28, 3)) ∧ (decode cX6_canSee 4 = .ok (.iload_n 1, 1)))) ∧ (((decode cX6_canSee 5 = .ok (.iaload, 1)) ∧ (decode cX6_canSee 6 = .ok (.iconst 2, 1))) ∧ ((decode cX6_canSee 7 = .ok (.if_icmp .ne 11, 3)) ∧ (decode cX6_canSee 10 = .ok (.aload_n 0, 1)))))) := by decide +kernel
theorem dX6_minutesOf_68 : decode cX6_minutesOf 68 = .ok (.bipush 20, 2) := dbm_18.1.1.1.1
theorem dX6_minutesOf_70 : decode cX6_minutesOf 70 = .ok (.iadd, 1) := dbm_18.1.1.1.2
theorem dX6_minutesOf_71 : decode cX6_minutesOf 71 = .ok (.iconst 2, 1) := dbm_18.1.1.2.1
theorem dX6_minutesOf_72 : decode cX6_minutesOf 72 = .ok (.iload_n 2, 1) := dbm_18.1.1.2.2
theorem dX6_minutesOf_73 : decode cX6_minutesOf 73 = .ok (.imul, 1) := dbm_18.1.2.1.1
theorem dX6_minutesOf_74 : decode cX6_minutesOf 74 = .ok (.iadd, 1) := dbm_18.1.2.1.2
theorem dX6_minutesOf_75 : decode cX6_minutesOf 75 = .ok (.ireturn, 1) := dbm_18.1.2.2.1
theorem dX6_minutesOf_76 : decode cX6_minutesOf 76 = .ok (.iload_n 3, 1) := dbm_18.1.2.2.2
theorem dX6_minutesOf_77 : decode cX6_minutesOf 77 = .ok (.ireturn, 1) := dbm_18.2.1.1.1
theorem dX6_canSee_0 : decode cX6_canSee 0 = .ok (.aload_n 0, 1) := dbm_18.2.1.1.2
theorem dX6_canSee_1 : decode cX6_canSee 1 = .ok (.getfield 28, 3) := dbm_18.2.1.2.1
theorem dX6_canSee_4 : decode cX6_canSee 4 = .ok (.iload_n 1, 1) := dbm_18.2.1.2.2
theorem dX6_canSee_5 : decode cX6_canSee 5 = .ok (.iaload, 1) := dbm_18.2.2.1.1
theorem dX6_canSee_6 : decode cX6_canSee 6 = .ok (.iconst 2, 1) := dbm_18.2.2.1.2
theorem dX6_canSee_7 : decode cX6_canSee 7 = .ok (.if_icmp .ne 11, 3) := dbm_18.2.2.2.1
theorem dX6_canSee_10 : decode cX6_canSee 10 = .ok (.aload_n 0, 1) := dbm_18.2.2.2.2
theorem dbm_19 : (((((decode cX6_canSee 11 = .ok (.iload_n 3, 1)) ∧ (decode cX6_canSee 12 = .ok (.invokevirtual 99, 3))) ∧ ((decode cX6_canSee 15 = .ok (.goto 24, 3)) ∧ (decode cX6_canSee 18 = .ok (.aload_n 0, 1)))) ∧ (((decode cX6_canSee 19 = .ok (.getfield 28, 3)) ∧ (decode cX6_canSee 22 = .ok (.iload_n 1, 1))) ∧ ((decode cX6_canSee 23 = .ok (.iaload, 1)) ∧ (decode cX6_canSee 24 = .ok (.iconst 1, 1))))) ∧ ((((decode cX6_canSee 25 = .ok (.if_icmp .ne 13, 3)) ∧ (decode cX6_canSee 28 = .ok (.aload_n 0, 1))) ∧ ((decode cX6_canSee 29 = .ok (.iload_n 3, 1)) ∧ (decode cX6_canSee 30 = .ok (.invokevirtual 99, 3)))) ∧ (((decode cX6_canSee 33 = .ok (.iconst 2, 1)) ∧ (decode cX6_canSee 34 = .ok (.idiv, 1))) ∧ ((decode cX6_canSee 35 = .ok (.goto 4, 3)) ∧ (decode cX6_canSee 38 = .ok (.iconst (-1), 1)))))) := by decide +kernel
theorem dX6_canSee_11 : decode cX6_canSee 11 = .ok (.iload_n 3, 1) := dbm_19.1.1.1.1
theorem dX6_canSee_12 : decode cX6_canSee 12 = .ok (.invokevirtual 99, 3) := dbm_19.1.1.1.2
theorem dX6_canSee_15 : decode cX6_canSee 15 = .ok (.goto 24, 3) := dbm_19.1.1.2.1
theorem dX6_canSee_18 : decode cX6_canSee 18 = .ok (.aload_n 0, 1) := dbm_19.1.1.2.2
theorem dX6_canSee_19 : decode cX6_canSee 19 = .ok (.getfield 28, 3) := dbm_19.1.2.1.1
theorem dX6_canSee_22 : decode cX6_canSee 22 = .ok (.iload_n 1, 1) := dbm_19.1.2.1.2
theorem dX6_canSee_23 : decode cX6_canSee 23 = .ok (.iaload, 1) := dbm_19.1.2.2.1
theorem dX6_canSee_24 : decode cX6_canSee 24 = .ok (.iconst 1, 1) := dbm_19.1.2.2.2
theorem dX6_canSee_25 : decode cX6_canSee 25 = .ok (.if_icmp .ne 13, 3) := dbm_19.2.1.1.1
theorem dX6_canSee_28 : decode cX6_canSee 28 = .ok (.aload_n 0, 1) := dbm_19.2.1.1.2
theorem dX6_canSee_29 : decode cX6_canSee 29 = .ok (.iload_n 3, 1) := dbm_19.2.1.2.1
theorem dX6_canSee_30 : decode cX6_canSee 30 = .ok (.invokevirtual 99, 3) := dbm_19.2.1.2.2
theorem dX6_canSee_33 : decode cX6_canSee 33 = .ok (.iconst 2, 1) := dbm_19.2.2.1.1
theorem dX6_canSee_34 : decode cX6_canSee 34 = .ok (.idiv, 1) := dbm_19.2.2.1.2
theorem dX6_canSee_35 : decode cX6_canSee 35 = .ok (.goto 4, 3) := dbm_19.2.2.2.1
theorem dX6_canSee_38 : decode cX6_canSee 38 = .ok (.iconst (-1), 1) := dbm_19.2.2.2.2
theorem dbm_20 : (((((decode cX6_canSee 39 = .ok (.istore 4, 2)) ∧ (decode cX6_canSee 41 = .ok (.aload_n 0, 1))) ∧ ((decode cX6_canSee 42 = .ok (.getfield 19, 3)) ∧ (decode cX6_canSee 45 = .ok (.iload_n 3, 1)))) ∧ (((decode cX6_canSee 46 = .ok (.iaload, 1)) ∧ (decode cX6_canSee 47 = .ok (.iconst 1, 1))) ∧ ((decode cX6_canSee 48 = .ok (.if_icmp .ne 22, 3)) ∧ (decode cX6_canSee 51 = .ok (.iload_n 2, 1))))) ∧ ((((decode cX6_canSee 52 = .ok (.aload_n 0, 1)) ∧ (decode cX6_canSee 53 = .ok (.getfield 16, 3))) ∧ ((decode cX6_canSee 56 = .ok (.iload_n 3, 1)) ∧ (decode cX6_canSee 57 = .ok (.iaload, 1)))) ∧ (((decode cX6_canSee 58 = .ok (.invokestatic 103, 3)) ∧ (decode cX6_canSee 61 = .ok (.iload 4, 2))) ∧ ((decode cX6_canSee 63 = .ok (.if_icmp .gt 7, 3)) ∧ (decode cX6_canSee 66 = .ok (.iconst 1, 1)))))) := by decide +kernel
theorem dX6_canSee_39 : decode cX6_canSee 39 = .ok (.istore 4, 2) := dbm_20.1.1.1.1
theorem dX6_canSee_41 : decode cX6_canSee 41 = .ok (.aload_n 0, 1) := dbm_20.1.1.1.2
theorem dX6_canSee_42 : decode cX6_canSee 42 = .ok (.getfield 19, 3) := dbm_20.1.1.2.1
theorem dX6_canSee_45 : decode cX6_canSee 45 = .ok (.iload_n 3, 1) := dbm_20.1.1.2.2
theorem dX6_canSee_46 : decode cX6_canSee 46 = .ok (.iaload, 1) := dbm_20.1.2.1.1
theorem dX6_canSee_47 : decode cX6_canSee 47 = .ok (.iconst 1, 1) := dbm_20.1.2.1.2
theorem dX6_canSee_48 : decode cX6_canSee 48 = .ok (.if_icmp .ne 22, 3) := dbm_20.1.2.2.1
theorem dX6_canSee_51 : decode cX6_canSee 51 = .ok (.iload_n 2, 1) := dbm_20.1.2.2.2
theorem dX6_canSee_52 : decode cX6_canSee 52 = .ok (.aload_n 0, 1) := dbm_20.2.1.1.1
theorem dX6_canSee_53 : decode cX6_canSee 53 = .ok (.getfield 16, 3) := dbm_20.2.1.1.2
theorem dX6_canSee_56 : decode cX6_canSee 56 = .ok (.iload_n 3, 1) := dbm_20.2.1.2.1
theorem dX6_canSee_57 : decode cX6_canSee 57 = .ok (.iaload, 1) := dbm_20.2.1.2.2
theorem dX6_canSee_58 : decode cX6_canSee 58 = .ok (.invokestatic 103, 3) := dbm_20.2.2.1.1
theorem dX6_canSee_61 : decode cX6_canSee 61 = .ok (.iload 4, 2) := dbm_20.2.2.1.2
theorem dX6_canSee_63 : decode cX6_canSee 63 = .ok (.if_icmp .gt 7, 3) := dbm_20.2.2.2.1
theorem dX6_canSee_66 : decode cX6_canSee 66 = .ok (.iconst 1, 1) := dbm_20.2.2.2.2
theorem dbm_21 : (((((decode cX6_canSee 67 = .ok (.goto 4, 3)) ∧ (decode cX6_canSee 70 = .ok (.iconst 0, 1))) ∧ ((decode cX6_canSee 71 = .ok (.ireturn, 1)) ∧ (decode cX6_seenFrom 0 = .ok (.iconst 0, 1)))) ∧ (((decode cX6_seenFrom 1 = .ok (.istore_n 3, 1)) ∧ (decode cX6_seenFrom 2 = .ok (.iconst 0, 1))) ∧ ((decode cX6_seenFrom 3 = .ok (.istore 4, 2)) ∧ (decode cX6_seenFrom 5 = .ok (.iload 4, 2))))) ∧ ((((decode cX6_seenFrom 7 = .ok (.aload_n 0, 1)) ∧ (decode cX6_seenFrom 8 = .ok (.getfield 89, 3))) ∧ ((decode cX6_seenFrom 11 = .ok (.if_icmp .ge 31, 3)) ∧ (decode cX6_seenFrom 14 = .ok (.iload_n 3, 1)))) ∧ (((decode cX6_seenFrom 15 = .ok (.aload_n 0, 1)) ∧ (decode cX6_seenFrom 16 = .ok (.iload_n 1, 1))) ∧ ((decode cX6_seenFrom 17 = .ok (.iload_n 2, 1)) ∧ (decode cX6_seenFrom 18 = .ok (.iload 4, 2)))))) := by decide +kernel
theorem dX6_canSee_67 : decode cX6_canSee 67 = .ok (.goto 4, 3) := dbm_21.1.1.1.1
theorem dX6_canSee_70 : decode cX6_canSee 70 = .ok (.iconst 0, 1) := dbm_21.1.1.1.2
theorem dX6_canSee_71 : decode cX6_canSee 71 = .ok (.ireturn, 1) := dbm_21.1.1.2.1
theorem dX6_seenFrom_0 : decode cX6_seenFrom 0 = .ok (.iconst 0, 1) := dbm_21.1.1.2.2
theorem dX6_seenFrom_1 : decode cX6_seenFrom 1 = .ok (.istore_n 3, 1) := dbm_21.1.2.1.1
theorem dX6_seenFrom_2 : decode cX6_seenFrom 2 = .ok (.iconst 0, 1) := dbm_21.1.2.1.2
theorem dX6_seenFrom_3 : decode cX6_seenFrom 3 = .ok (.istore 4, 2) := dbm_21.1.2.2.1
theorem dX6_seenFrom_5 : decode cX6_seenFrom 5 = .ok (.iload 4, 2) := dbm_21.1.2.2.2
theorem dX6_seenFrom_7 : decode cX6_seenFrom 7 = .ok (.aload_n 0, 1) := dbm_21.2.1.1.1
theorem dX6_seenFrom_8 : decode cX6_seenFrom 8 = .ok (.getfield 89, 3) := dbm_21.2.1.1.2
theorem dX6_seenFrom_11 : decode cX6_seenFrom 11 = .ok (.if_icmp .ge 31, 3) := dbm_21.2.1.2.1
theorem dX6_seenFrom_14 : decode cX6_seenFrom 14 = .ok (.iload_n 3, 1) := dbm_21.2.1.2.2
theorem dX6_seenFrom_15 : decode cX6_seenFrom 15 = .ok (.aload_n 0, 1) := dbm_21.2.2.1.1
theorem dX6_seenFrom_16 : decode cX6_seenFrom 16 = .ok (.iload_n 1, 1) := dbm_21.2.2.1.2
theorem dX6_seenFrom_17 : decode cX6_seenFrom 17 = .ok (.iload_n 2, 1) := dbm_21.2.2.2.1
theorem dX6_seenFrom_18 : decode cX6_seenFrom 18 = .ok (.iload 4, 2) := dbm_21.2.2.2.2
theorem dbm_22 : (((((decode cX6_seenFrom 20 = .ok (.invokevirtual 106, 3)) ∧ (decode cX6_seenFrom 23 = .ok (.ifCond .eq 10, 3))) ∧ ((decode cX6_seenFrom 26 = .ok (.iconst 1, 1)) ∧ (decode cX6_seenFrom 27 = .ok (.iload 4, 2)))) ∧ (((decode cX6_seenFrom 29 = .ok (.ishl, 1)) ∧ (decode cX6_seenFrom 30 = .ok (.goto 4, 3))) ∧ ((decode cX6_seenFrom 33 = .ok (.iconst 0, 1)) ∧ (decode cX6_seenFrom 34 = .ok (.ior, 1))))) ∧ ((((decode cX6_seenFrom 35 = .ok (.istore_n 3, 1)) ∧ (decode cX6_seenFrom 36 = .ok (.iinc 4 1, 3))) ∧ ((decode cX6_seenFrom 39 = .ok (.goto (-34), 3)) ∧ (decode cX6_seenFrom 42 = .ok (.iload_n 3, 1)))) ∧ (((decode cX6_seenFrom 43 = .ok (.ireturn, 1)) ∧ (decode cX6_owesBits 0 = .ok (.iconst 0, 1))) ∧ ((decode cX6_owesBits 1 = .ok (.istore_n 2, 1)) ∧ (decode cX6_owesBits 2 = .ok (.iconst 0, 1)))))) := by decide +kernel
theorem dX6_seenFrom_20 : decode cX6_seenFrom 20 = .ok (.invokevirtual 106, 3) := dbm_22.1.1.1.1
theorem dX6_seenFrom_23 : decode cX6_seenFrom 23 = .ok (.ifCond .eq 10, 3) := dbm_22.1.1.1.2
theorem dX6_seenFrom_26 : decode cX6_seenFrom 26 = .ok (.iconst 1, 1) := dbm_22.1.1.2.1
theorem dX6_seenFrom_27 : decode cX6_seenFrom 27 = .ok (.iload 4, 2) := dbm_22.1.1.2.2
theorem dX6_seenFrom_29 : decode cX6_seenFrom 29 = .ok (.ishl, 1) := dbm_22.1.2.1.1
theorem dX6_seenFrom_30 : decode cX6_seenFrom 30 = .ok (.goto 4, 3) := dbm_22.1.2.1.2
theorem dX6_seenFrom_33 : decode cX6_seenFrom 33 = .ok (.iconst 0, 1) := dbm_22.1.2.2.1
theorem dX6_seenFrom_34 : decode cX6_seenFrom 34 = .ok (.ior, 1) := dbm_22.1.2.2.2
theorem dX6_seenFrom_35 : decode cX6_seenFrom 35 = .ok (.istore_n 3, 1) := dbm_22.2.1.1.1
theorem dX6_seenFrom_36 : decode cX6_seenFrom 36 = .ok (.iinc 4 1, 3) := dbm_22.2.1.1.2
theorem dX6_seenFrom_39 : decode cX6_seenFrom 39 = .ok (.goto (-34), 3) := dbm_22.2.1.2.1
theorem dX6_seenFrom_42 : decode cX6_seenFrom 42 = .ok (.iload_n 3, 1) := dbm_22.2.1.2.2
theorem dX6_seenFrom_43 : decode cX6_seenFrom 43 = .ok (.ireturn, 1) := dbm_22.2.2.1.1
theorem dX6_owesBits_0 : decode cX6_owesBits 0 = .ok (.iconst 0, 1) := dbm_22.2.2.1.2
theorem dX6_owesBits_1 : decode cX6_owesBits 1 = .ok (.istore_n 2, 1) := dbm_22.2.2.2.1
theorem dX6_owesBits_2 : decode cX6_owesBits 2 = .ok (.iconst 0, 1) := dbm_22.2.2.2.2
theorem dbm_23 : (((((decode cX6_owesBits 3 = .ok (.istore_n 3, 1)) ∧ (decode cX6_owesBits 4 = .ok (.iload_n 3, 1))) ∧ ((decode cX6_owesBits 5 = .ok (.aload_n 0, 1)) ∧ (decode cX6_owesBits 6 = .ok (.getfield 89, 3)))) ∧ (((decode cX6_owesBits 9 = .ok (.if_icmp .ge 33, 3)) ∧ (decode cX6_owesBits 12 = .ok (.iload_n 2, 1))) ∧ ((decode cX6_owesBits 13 = .ok (.aload_n 0, 1)) ∧ (decode cX6_owesBits 14 = .ok (.getfield 31, 3))))) ∧ ((((decode cX6_owesBits 17 = .ok (.bipush 7, 2)) ∧ (decode cX6_owesBits 19 = .ok (.iload_n 1, 1))) ∧ ((decode cX6_owesBits 20 = .ok (.imul, 1)) ∧ (decode cX6_owesBits 21 = .ok (.iload_n 3, 1)))) ∧ (((decode cX6_owesBits 22 = .ok (.iadd, 1)) ∧ (decode cX6_owesBits 23 = .ok (.iaload, 1))) ∧ ((decode cX6_owesBits 24 = .ok (.ifCond .le 9, 3)) ∧ (decode cX6_owesBits 27 = .ok (.iconst 1, 1)))))) := by decide +kernel
theorem dX6_owesBits_3 : decode cX6_owesBits 3 = .ok (.istore_n 3, 1) := dbm_23.1.1.1.1
theorem dX6_owesBits_4 : decode cX6_owesBits 4 = .ok (.iload_n 3, 1) := dbm_23.1.1.1.2
theorem dX6_owesBits_5 : decode cX6_owesBits 5 = .ok (.aload_n 0, 1) := dbm_23.1.1.2.1
theorem dX6_owesBits_6 : decode cX6_owesBits 6 = .ok (.getfield 89, 3) := dbm_23.1.1.2.2
theorem dX6_owesBits_9 : decode cX6_owesBits 9 = .ok (.if_icmp .ge 33, 3) := dbm_23.1.2.1.1
theorem dX6_owesBits_12 : decode cX6_owesBits 12 = .ok (.iload_n 2, 1) := dbm_23.1.2.1.2
theorem dX6_owesBits_13 : decode cX6_owesBits 13 = .ok (.aload_n 0, 1) := dbm_23.1.2.2.1
theorem dX6_owesBits_14 : decode cX6_owesBits 14 = .ok (.getfield 31, 3) := dbm_23.1.2.2.2
theorem dX6_owesBits_17 : decode cX6_owesBits 17 = .ok (.bipush 7, 2) := dbm_23.2.1.1.1
theorem dX6_owesBits_19 : decode cX6_owesBits 19 = .ok (.iload_n 1, 1) := dbm_23.2.1.1.2
theorem dX6_owesBits_20 : decode cX6_owesBits 20 = .ok (.imul, 1) := dbm_23.2.1.2.1
theorem dX6_owesBits_21 : decode cX6_owesBits 21 = .ok (.iload_n 3, 1) := dbm_23.2.1.2.2
theorem dX6_owesBits_22 : decode cX6_owesBits 22 = .ok (.iadd, 1) := dbm_23.2.2.1.1
theorem dX6_owesBits_23 : decode cX6_owesBits 23 = .ok (.iaload, 1) := dbm_23.2.2.1.2
theorem dX6_owesBits_24 : decode cX6_owesBits 24 = .ok (.ifCond .le 9, 3) := dbm_23.2.2.2.1
theorem dX6_owesBits_27 : decode cX6_owesBits 27 = .ok (.iconst 1, 1) := dbm_23.2.2.2.2
theorem dbm_24 : (((((decode cX6_owesBits 28 = .ok (.iload_n 3, 1)) ∧ (decode cX6_owesBits 29 = .ok (.ishl, 1))) ∧ ((decode cX6_owesBits 30 = .ok (.goto 4, 3)) ∧ (decode cX6_owesBits 33 = .ok (.iconst 0, 1)))) ∧ (((decode cX6_owesBits 34 = .ok (.ior, 1)) ∧ (decode cX6_owesBits 35 = .ok (.istore_n 2, 1))) ∧ ((decode cX6_owesBits 36 = .ok (.iinc 3 1, 3)) ∧ (decode cX6_owesBits 39 = .ok (.goto (-35), 3))))) ∧ ((((decode cX6_owesBits 42 = .ok (.iload_n 2, 1)) ∧ (decode cX6_owesBits 43 = .ok (.ireturn, 1))) ∧ ((decode cX6_priceOf 0 = .ok (.iconst 0, 1)) ∧ (decode cX6_priceOf 1 = .ok (.istore_n 2, 1)))) ∧ (((decode cX6_priceOf 2 = .ok (.iconst 0, 1)) ∧ (decode cX6_priceOf 3 = .ok (.istore_n 3, 1))) ∧ ((decode cX6_priceOf 4 = .ok (.iload_n 3, 1)) ∧ (decode cX6_priceOf 5 = .ok (.aload_n 0, 1)))))) := by decide +kernel
theorem dX6_owesBits_28 : decode cX6_owesBits 28 = .ok (.iload_n 3, 1) := dbm_24.1.1.1.1
theorem dX6_owesBits_29 : decode cX6_owesBits 29 = .ok (.ishl, 1) := dbm_24.1.1.1.2
theorem dX6_owesBits_30 : decode cX6_owesBits 30 = .ok (.goto 4, 3) := dbm_24.1.1.2.1
theorem dX6_owesBits_33 : decode cX6_owesBits 33 = .ok (.iconst 0, 1) := dbm_24.1.1.2.2
theorem dX6_owesBits_34 : decode cX6_owesBits 34 = .ok (.ior, 1) := dbm_24.1.2.1.1
theorem dX6_owesBits_35 : decode cX6_owesBits 35 = .ok (.istore_n 2, 1) := dbm_24.1.2.1.2
theorem dX6_owesBits_36 : decode cX6_owesBits 36 = .ok (.iinc 3 1, 3) := dbm_24.1.2.2.1
theorem dX6_owesBits_39 : decode cX6_owesBits 39 = .ok (.goto (-35), 3) := dbm_24.1.2.2.2
theorem dX6_owesBits_42 : decode cX6_owesBits 42 = .ok (.iload_n 2, 1) := dbm_24.2.1.1.1
theorem dX6_owesBits_43 : decode cX6_owesBits 43 = .ok (.ireturn, 1) := dbm_24.2.1.1.2
theorem dX6_priceOf_0 : decode cX6_priceOf 0 = .ok (.iconst 0, 1) := dbm_24.2.1.2.1
theorem dX6_priceOf_1 : decode cX6_priceOf 1 = .ok (.istore_n 2, 1) := dbm_24.2.1.2.2
theorem dX6_priceOf_2 : decode cX6_priceOf 2 = .ok (.iconst 0, 1) := dbm_24.2.2.1.1
theorem dX6_priceOf_3 : decode cX6_priceOf 3 = .ok (.istore_n 3, 1) := dbm_24.2.2.1.2
theorem dX6_priceOf_4 : decode cX6_priceOf 4 = .ok (.iload_n 3, 1) := dbm_24.2.2.2.1
theorem dX6_priceOf_5 : decode cX6_priceOf 5 = .ok (.aload_n 0, 1) := dbm_24.2.2.2.2
theorem dbm_25 : (((((decode cX6_priceOf 6 = .ok (.getfield 89, 3)) ∧ (decode cX6_priceOf 9 = .ok (.if_icmp .ge 43, 3))) ∧ ((decode cX6_priceOf 12 = .ok (.aload_n 0, 1)) ∧ (decode cX6_priceOf 13 = .ok (.getfield 31, 3)))) ∧ (((decode cX6_priceOf 16 = .ok (.bipush 7, 2)) ∧ (decode cX6_priceOf 18 = .ok (.iload_n 1, 1))) ∧ ((decode cX6_priceOf 19 = .ok (.imul, 1)) ∧ (decode cX6_priceOf 20 = .ok (.iload_n 3, 1))))) ∧ ((((decode cX6_priceOf 21 = .ok (.iadd, 1)) ∧ (decode cX6_priceOf 22 = .ok (.iaload, 1))) ∧ ((decode cX6_priceOf 23 = .ok (.istore 4, 2)) ∧ (decode cX6_priceOf 25 = .ok (.iload_n 2, 1)))) ∧ (((decode cX6_priceOf 26 = .ok (.iload 4, 2)) ∧ (decode cX6_priceOf 28 = .ok (.ifCond .le 15, 3))) ∧ ((decode cX6_priceOf 31 = .ok (.aload_n 0, 1)) ∧ (decode cX6_priceOf 32 = .ok (.iload_n 3, 1)))))) := by decide +kernel
theorem dX6_priceOf_6 : decode cX6_priceOf 6 = .ok (.getfield 89, 3) := dbm_25.1.1.1.1
theorem dX6_priceOf_9 : decode cX6_priceOf 9 = .ok (.if_icmp .ge 43, 3) := dbm_25.1.1.1.2
theorem dX6_priceOf_12 : decode cX6_priceOf 12 = .ok (.aload_n 0, 1) := dbm_25.1.1.2.1
theorem dX6_priceOf_13 : decode cX6_priceOf 13 = .ok (.getfield 31, 3) := dbm_25.1.1.2.2
theorem dX6_priceOf_16 : decode cX6_priceOf 16 = .ok (.bipush 7, 2) := dbm_25.1.2.1.1
theorem dX6_priceOf_18 : decode cX6_priceOf 18 = .ok (.iload_n 1, 1) := dbm_25.1.2.1.2
theorem dX6_priceOf_19 : decode cX6_priceOf 19 = .ok (.imul, 1) := dbm_25.1.2.2.1
theorem dX6_priceOf_20 : decode cX6_priceOf 20 = .ok (.iload_n 3, 1) := dbm_25.1.2.2.2
theorem dX6_priceOf_21 : decode cX6_priceOf 21 = .ok (.iadd, 1) := dbm_25.2.1.1.1
theorem dX6_priceOf_22 : decode cX6_priceOf 22 = .ok (.iaload, 1) := dbm_25.2.1.1.2
theorem dX6_priceOf_23 : decode cX6_priceOf 23 = .ok (.istore 4, 2) := dbm_25.2.1.2.1
theorem dX6_priceOf_25 : decode cX6_priceOf 25 = .ok (.iload_n 2, 1) := dbm_25.2.1.2.2
theorem dX6_priceOf_26 : decode cX6_priceOf 26 = .ok (.iload 4, 2) := dbm_25.2.2.1.1
theorem dX6_priceOf_28 : decode cX6_priceOf 28 = .ok (.ifCond .le 15, 3) := dbm_25.2.2.1.2
theorem dX6_priceOf_31 : decode cX6_priceOf 31 = .ok (.aload_n 0, 1) := dbm_25.2.2.2.1
theorem dX6_priceOf_32 : decode cX6_priceOf 32 = .ok (.iload_n 3, 1) := dbm_25.2.2.2.2
theorem dbm_26 : (((((decode cX6_priceOf 33 = .ok (.iload 4, 2)) ∧ (decode cX6_priceOf 35 = .ok (.iconst 1, 1))) ∧ ((decode cX6_priceOf 36 = .ok (.isub, 1)) ∧ (decode cX6_priceOf 37 = .ok (.invokevirtual 110, 3)))) ∧ (((decode cX6_priceOf 40 = .ok (.goto 4, 3)) ∧ (decode cX6_priceOf 43 = .ok (.iconst 0, 1))) ∧ ((decode cX6_priceOf 44 = .ok (.iadd, 1)) ∧ (decode cX6_priceOf 45 = .ok (.istore_n 2, 1))))) ∧ ((((decode cX6_priceOf 46 = .ok (.iinc 3 1, 3)) ∧ (decode cX6_priceOf 49 = .ok (.goto (-45), 3))) ∧ ((decode cX6_priceOf 52 = .ok (.iload_n 2, 1)) ∧ (decode cX6_priceOf 53 = .ok (.ireturn, 1)))) ∧ (((decode cX6_allPrices 0 = .ok (.iconst 0, 1)) ∧ (decode cX6_allPrices 1 = .ok (.istore_n 1, 1))) ∧ ((decode cX6_allPrices 2 = .ok (.iconst 0, 1)) ∧ (decode cX6_allPrices 3 = .ok (.istore_n 2, 1)))))) := by decide +kernel
theorem dX6_priceOf_33 : decode cX6_priceOf 33 = .ok (.iload 4, 2) := dbm_26.1.1.1.1
theorem dX6_priceOf_35 : decode cX6_priceOf 35 = .ok (.iconst 1, 1) := dbm_26.1.1.1.2
theorem dX6_priceOf_36 : decode cX6_priceOf 36 = .ok (.isub, 1) := dbm_26.1.1.2.1
theorem dX6_priceOf_37 : decode cX6_priceOf 37 = .ok (.invokevirtual 110, 3) := dbm_26.1.1.2.2
theorem dX6_priceOf_40 : decode cX6_priceOf 40 = .ok (.goto 4, 3) := dbm_26.1.2.1.1
theorem dX6_priceOf_43 : decode cX6_priceOf 43 = .ok (.iconst 0, 1) := dbm_26.1.2.1.2
theorem dX6_priceOf_44 : decode cX6_priceOf 44 = .ok (.iadd, 1) := dbm_26.1.2.2.1
theorem dX6_priceOf_45 : decode cX6_priceOf 45 = .ok (.istore_n 2, 1) := dbm_26.1.2.2.2
theorem dX6_priceOf_46 : decode cX6_priceOf 46 = .ok (.iinc 3 1, 3) := dbm_26.2.1.1.1
theorem dX6_priceOf_49 : decode cX6_priceOf 49 = .ok (.goto (-45), 3) := dbm_26.2.1.1.2
theorem dX6_priceOf_52 : decode cX6_priceOf 52 = .ok (.iload_n 2, 1) := dbm_26.2.1.2.1
theorem dX6_priceOf_53 : decode cX6_priceOf 53 = .ok (.ireturn, 1) := dbm_26.2.1.2.2
theorem dX6_allPrices_0 : decode cX6_allPrices 0 = .ok (.iconst 0, 1) := dbm_26.2.2.1.1
theorem dX6_allPrices_1 : decode cX6_allPrices 1 = .ok (.istore_n 1, 1) := dbm_26.2.2.1.2
theorem dX6_allPrices_2 : decode cX6_allPrices 2 = .ok (.iconst 0, 1) := dbm_26.2.2.2.1
theorem dX6_allPrices_3 : decode cX6_allPrices 3 = .ok (.istore_n 2, 1) := dbm_26.2.2.2.2
theorem dbm_27 : (((((decode cX6_allPrices 4 = .ok (.iload_n 2, 1)) ∧ (decode cX6_allPrices 5 = .ok (.aload_n 0, 1))) ∧ ((decode cX6_allPrices 6 = .ok (.getfield 92, 3)) ∧ (decode cX6_allPrices 9 = .ok (.if_icmp .ge 17, 3)))) ∧ (((decode cX6_allPrices 12 = .ok (.iload_n 1, 1)) ∧ (decode cX6_allPrices 13 = .ok (.aload_n 0, 1))) ∧ ((decode cX6_allPrices 14 = .ok (.iload_n 2, 1)) ∧ (decode cX6_allPrices 15 = .ok (.invokevirtual 113, 3))))) ∧ ((((decode cX6_allPrices 18 = .ok (.iadd, 1)) ∧ (decode cX6_allPrices 19 = .ok (.istore_n 1, 1))) ∧ ((decode cX6_allPrices 20 = .ok (.iinc 2 1, 3)) ∧ (decode cX6_allPrices 23 = .ok (.goto (-19), 3)))) ∧ (((decode cX6_allPrices 26 = .ok (.iload_n 1, 1)) ∧ (decode cX6_allPrices 27 = .ok (.ireturn, 1))) ∧ ((decode cX6_allDebts 0 = .ok (.iconst 0, 1)) ∧ (decode cX6_allDebts 1 = .ok (.istore_n 1, 1)))))) := by decide +kernel
theorem dX6_allPrices_4 : decode cX6_allPrices 4 = .ok (.iload_n 2, 1) := dbm_27.1.1.1.1
theorem dX6_allPrices_5 : decode cX6_allPrices 5 = .ok (.aload_n 0, 1) := dbm_27.1.1.1.2
theorem dX6_allPrices_6 : decode cX6_allPrices 6 = .ok (.getfield 92, 3) := dbm_27.1.1.2.1
theorem dX6_allPrices_9 : decode cX6_allPrices 9 = .ok (.if_icmp .ge 17, 3) := dbm_27.1.1.2.2
theorem dX6_allPrices_12 : decode cX6_allPrices 12 = .ok (.iload_n 1, 1) := dbm_27.1.2.1.1
theorem dX6_allPrices_13 : decode cX6_allPrices 13 = .ok (.aload_n 0, 1) := dbm_27.1.2.1.2
theorem dX6_allPrices_14 : decode cX6_allPrices 14 = .ok (.iload_n 2, 1) := dbm_27.1.2.2.1
theorem dX6_allPrices_15 : decode cX6_allPrices 15 = .ok (.invokevirtual 113, 3) := dbm_27.1.2.2.2
theorem dX6_allPrices_18 : decode cX6_allPrices 18 = .ok (.iadd, 1) := dbm_27.2.1.1.1
theorem dX6_allPrices_19 : decode cX6_allPrices 19 = .ok (.istore_n 1, 1) := dbm_27.2.1.1.2
theorem dX6_allPrices_20 : decode cX6_allPrices 20 = .ok (.iinc 2 1, 3) := dbm_27.2.1.2.1
theorem dX6_allPrices_23 : decode cX6_allPrices 23 = .ok (.goto (-19), 3) := dbm_27.2.1.2.2
theorem dX6_allPrices_26 : decode cX6_allPrices 26 = .ok (.iload_n 1, 1) := dbm_27.2.2.1.1
theorem dX6_allPrices_27 : decode cX6_allPrices 27 = .ok (.ireturn, 1) := dbm_27.2.2.1.2
theorem dX6_allDebts_0 : decode cX6_allDebts 0 = .ok (.iconst 0, 1) := dbm_27.2.2.2.1
theorem dX6_allDebts_1 : decode cX6_allDebts 1 = .ok (.istore_n 1, 1) := dbm_27.2.2.2.2
theorem dbm_28 : (((((decode cX6_allDebts 2 = .ok (.iconst 0, 1)) ∧ (decode cX6_allDebts 3 = .ok (.istore_n 2, 1))) ∧ ((decode cX6_allDebts 4 = .ok (.iload_n 2, 1)) ∧ (decode cX6_allDebts 5 = .ok (.aload_n 0, 1)))) ∧ (((decode cX6_allDebts 6 = .ok (.getfield 92, 3)) ∧ (decode cX6_allDebts 9 = .ok (.if_icmp .ge 20, 3))) ∧ ((decode cX6_allDebts 12 = .ok (.iload_n 1, 1)) ∧ (decode cX6_allDebts 13 = .ok (.aload_n 0, 1))))) ∧ ((((decode cX6_allDebts 14 = .ok (.iload_n 2, 1)) ∧ (decode cX6_allDebts 15 = .ok (.invokevirtual 116, 3))) ∧ ((decode cX6_allDebts 18 = .ok (.invokestatic 119, 3)) ∧ (decode cX6_allDebts 21 = .ok (.iadd, 1)))) ∧ (((decode cX6_allDebts 22 = .ok (.istore_n 1, 1)) ∧ (decode cX6_allDebts 23 = .ok (.iinc 2 1, 3))) ∧ ((decode cX6_allDebts 26 = .ok (.goto (-22), 3)) ∧ (decode cX6_allDebts 29 = .ok (.iload_n 1, 1)))))) := by decide +kernel
theorem dX6_allDebts_2 : decode cX6_allDebts 2 = .ok (.iconst 0, 1) := dbm_28.1.1.1.1
theorem dX6_allDebts_3 : decode cX6_allDebts 3 = .ok (.istore_n 2, 1) := dbm_28.1.1.1.2
theorem dX6_allDebts_4 : decode cX6_allDebts 4 = .ok (.iload_n 2, 1) := dbm_28.1.1.2.1
theorem dX6_allDebts_5 : decode cX6_allDebts 5 = .ok (.aload_n 0, 1) := dbm_28.1.1.2.2
theorem dX6_allDebts_6 : decode cX6_allDebts 6 = .ok (.getfield 92, 3) := dbm_28.1.2.1.1
theorem dX6_allDebts_9 : decode cX6_allDebts 9 = .ok (.if_icmp .ge 20, 3) := dbm_28.1.2.1.2
theorem dX6_allDebts_12 : decode cX6_allDebts 12 = .ok (.iload_n 1, 1) := dbm_28.1.2.2.1
theorem dX6_allDebts_13 : decode cX6_allDebts 13 = .ok (.aload_n 0, 1) := dbm_28.1.2.2.2
theorem dX6_allDebts_14 : decode cX6_allDebts 14 = .ok (.iload_n 2, 1) := dbm_28.2.1.1.1
theorem dX6_allDebts_15 : decode cX6_allDebts 15 = .ok (.invokevirtual 116, 3) := dbm_28.2.1.1.2
theorem dX6_allDebts_18 : decode cX6_allDebts 18 = .ok (.invokestatic 119, 3) := dbm_28.2.1.2.1
theorem dX6_allDebts_21 : decode cX6_allDebts 21 = .ok (.iadd, 1) := dbm_28.2.1.2.2
theorem dX6_allDebts_22 : decode cX6_allDebts 22 = .ok (.istore_n 1, 1) := dbm_28.2.2.1.1
theorem dX6_allDebts_23 : decode cX6_allDebts 23 = .ok (.iinc 2 1, 3) := dbm_28.2.2.1.2
theorem dX6_allDebts_26 : decode cX6_allDebts 26 = .ok (.goto (-22), 3) := dbm_28.2.2.2.1
theorem dX6_allDebts_29 : decode cX6_allDebts 29 = .ok (.iload_n 1, 1) := dbm_28.2.2.2.2
theorem dbm_29 : (((((decode cX6_allDebts 30 = .ok (.ireturn, 1)) ∧ (decode cX6_owersOf 0 = .ok (.iconst 0, 1))) ∧ ((decode cX6_owersOf 1 = .ok (.istore_n 2, 1)) ∧ (decode cX6_owersOf 2 = .ok (.iconst 0, 1)))) ∧ (((decode cX6_owersOf 3 = .ok (.istore_n 3, 1)) ∧ (decode cX6_owersOf 4 = .ok (.iload_n 3, 1))) ∧ ((decode cX6_owersOf 5 = .ok (.aload_n 0, 1)) ∧ (decode cX6_owersOf 6 = .ok (.getfield 92, 3))))) ∧ ((((decode cX6_owersOf 9 = .ok (.if_icmp .ge 33, 3)) ∧ (decode cX6_owersOf 12 = .ok (.iload_n 2, 1))) ∧ ((decode cX6_owersOf 13 = .ok (.aload_n 0, 1)) ∧ (decode cX6_owersOf 14 = .ok (.getfield 31, 3)))) ∧ (((decode cX6_owersOf 17 = .ok (.bipush 7, 2)) ∧ (decode cX6_owersOf 19 = .ok (.iload_n 3, 1))) ∧ ((decode cX6_owersOf 20 = .ok (.imul, 1)) ∧ (decode cX6_owersOf 21 = .ok (.iload_n 1, 1)))))) := by decide +kernel
theorem dX6_allDebts_30 : decode cX6_allDebts 30 = .ok (.ireturn, 1) := dbm_29.1.1.1.1
theorem dX6_owersOf_0 : decode cX6_owersOf 0 = .ok (.iconst 0, 1) := dbm_29.1.1.1.2
theorem dX6_owersOf_1 : decode cX6_owersOf 1 = .ok (.istore_n 2, 1) := dbm_29.1.1.2.1
theorem dX6_owersOf_2 : decode cX6_owersOf 2 = .ok (.iconst 0, 1) := dbm_29.1.1.2.2
theorem dX6_owersOf_3 : decode cX6_owersOf 3 = .ok (.istore_n 3, 1) := dbm_29.1.2.1.1
theorem dX6_owersOf_4 : decode cX6_owersOf 4 = .ok (.iload_n 3, 1) := dbm_29.1.2.1.2
theorem dX6_owersOf_5 : decode cX6_owersOf 5 = .ok (.aload_n 0, 1) := dbm_29.1.2.2.1
theorem dX6_owersOf_6 : decode cX6_owersOf 6 = .ok (.getfield 92, 3) := dbm_29.1.2.2.2
theorem dX6_owersOf_9 : decode cX6_owersOf 9 = .ok (.if_icmp .ge 33, 3) := dbm_29.2.1.1.1
theorem dX6_owersOf_12 : decode cX6_owersOf 12 = .ok (.iload_n 2, 1) := dbm_29.2.1.1.2
theorem dX6_owersOf_13 : decode cX6_owersOf 13 = .ok (.aload_n 0, 1) := dbm_29.2.1.2.1
theorem dX6_owersOf_14 : decode cX6_owersOf 14 = .ok (.getfield 31, 3) := dbm_29.2.1.2.2
theorem dX6_owersOf_17 : decode cX6_owersOf 17 = .ok (.bipush 7, 2) := dbm_29.2.2.1.1
theorem dX6_owersOf_19 : decode cX6_owersOf 19 = .ok (.iload_n 3, 1) := dbm_29.2.2.1.2
theorem dX6_owersOf_20 : decode cX6_owersOf 20 = .ok (.imul, 1) := dbm_29.2.2.2.1
theorem dX6_owersOf_21 : decode cX6_owersOf 21 = .ok (.iload_n 1, 1) := dbm_29.2.2.2.2
theorem dbm_30 : (((((decode cX6_owersOf 22 = .ok (.iadd, 1)) ∧ (decode cX6_owersOf 23 = .ok (.iaload, 1))) ∧ ((decode cX6_owersOf 24 = .ok (.ifCond .le 9, 3)) ∧ (decode cX6_owersOf 27 = .ok (.iconst 1, 1)))) ∧ (((decode cX6_owersOf 28 = .ok (.iload_n 3, 1)) ∧ (decode cX6_owersOf 29 = .ok (.ishl, 1))) ∧ ((decode cX6_owersOf 30 = .ok (.goto 4, 3)) ∧ (decode cX6_owersOf 33 = .ok (.iconst 0, 1))))) ∧ ((((decode cX6_owersOf 34 = .ok (.ior, 1)) ∧ (decode cX6_owersOf 35 = .ok (.istore_n 2, 1))) ∧ ((decode cX6_owersOf 36 = .ok (.iinc 3 1, 3)) ∧ (decode cX6_owersOf 39 = .ok (.goto (-35), 3)))) ∧ (((decode cX6_owersOf 42 = .ok (.iload_n 2, 1)) ∧ (decode cX6_owersOf 43 = .ok (.ireturn, 1))) ∧ ((decode cX6_towards 0 = .ok (.iload_n 0, 1)) ∧ (decode cX6_towards 1 = .ok (.bipush 7, 2)))))) := by decide +kernel
theorem dX6_owersOf_22 : decode cX6_owersOf 22 = .ok (.iadd, 1) := dbm_30.1.1.1.1
theorem dX6_owersOf_23 : decode cX6_owersOf 23 = .ok (.iaload, 1) := dbm_30.1.1.1.2
theorem dX6_owersOf_24 : decode cX6_owersOf 24 = .ok (.ifCond .le 9, 3) := dbm_30.1.1.2.1
theorem dX6_owersOf_27 : decode cX6_owersOf 27 = .ok (.iconst 1, 1) := dbm_30.1.1.2.2
theorem dX6_owersOf_28 : decode cX6_owersOf 28 = .ok (.iload_n 3, 1) := dbm_30.1.2.1.1
theorem dX6_owersOf_29 : decode cX6_owersOf 29 = .ok (.ishl, 1) := dbm_30.1.2.1.2
theorem dX6_owersOf_30 : decode cX6_owersOf 30 = .ok (.goto 4, 3) := dbm_30.1.2.2.1
theorem dX6_owersOf_33 : decode cX6_owersOf 33 = .ok (.iconst 0, 1) := dbm_30.1.2.2.2
theorem dX6_owersOf_34 : decode cX6_owersOf 34 = .ok (.ior, 1) := dbm_30.2.1.1.1
theorem dX6_owersOf_35 : decode cX6_owersOf 35 = .ok (.istore_n 2, 1) := dbm_30.2.1.1.2
theorem dX6_owersOf_36 : decode cX6_owersOf 36 = .ok (.iinc 3 1, 3) := dbm_30.2.1.2.1
theorem dX6_owersOf_39 : decode cX6_owersOf 39 = .ok (.goto (-35), 3) := dbm_30.2.1.2.2
theorem dX6_owersOf_42 : decode cX6_owersOf 42 = .ok (.iload_n 2, 1) := dbm_30.2.2.1.1
theorem dX6_owersOf_43 : decode cX6_owersOf 43 = .ok (.ireturn, 1) := dbm_30.2.2.1.2
theorem dX6_towards_0 : decode cX6_towards 0 = .ok (.iload_n 0, 1) := dbm_30.2.2.2.1
theorem dX6_towards_1 : decode cX6_towards 1 = .ok (.bipush 7, 2) := dbm_30.2.2.2.2
theorem dbm_31 : (((((decode cX6_towards 3 = .ok (.idiv, 1)) ∧ (decode cX6_towards 4 = .ok (.iload_n 1, 1))) ∧ ((decode cX6_towards 5 = .ok (.bipush 7, 2)) ∧ (decode cX6_towards 7 = .ok (.idiv, 1)))) ∧ (((decode cX6_towards 8 = .ok (.if_icmp .eq 26, 3)) ∧ (decode cX6_towards 11 = .ok (.iload_n 0, 1))) ∧ ((decode cX6_towards 12 = .ok (.bipush 7, 2)) ∧ (decode cX6_towards 14 = .ok (.idiv, 1))))) ∧ ((((decode cX6_towards 15 = .ok (.iload_n 1, 1)) ∧ (decode cX6_towards 16 = .ok (.bipush 7, 2))) ∧ ((decode cX6_towards 18 = .ok (.idiv, 1)) ∧ (decode cX6_towards 19 = .ok (.if_icmp .ge 10, 3)))) ∧ (((decode cX6_towards 22 = .ok (.iload_n 0, 1)) ∧ (decode cX6_towards 23 = .ok (.bipush 7, 2))) ∧ ((decode cX6_towards 25 = .ok (.iadd, 1)) ∧ (decode cX6_towards 26 = .ok (.goto 7, 3)))))) := by decide +kernel
theorem dX6_towards_3 : decode cX6_towards 3 = .ok (.idiv, 1) := dbm_31.1.1.1.1
theorem dX6_towards_4 : decode cX6_towards 4 = .ok (.iload_n 1, 1) := dbm_31.1.1.1.2
theorem dX6_towards_5 : decode cX6_towards 5 = .ok (.bipush 7, 2) := dbm_31.1.1.2.1
theorem dX6_towards_7 : decode cX6_towards 7 = .ok (.idiv, 1) := dbm_31.1.1.2.2
theorem dX6_towards_8 : decode cX6_towards 8 = .ok (.if_icmp .eq 26, 3) := dbm_31.1.2.1.1
theorem dX6_towards_11 : decode cX6_towards 11 = .ok (.iload_n 0, 1) := dbm_31.1.2.1.2
theorem dX6_towards_12 : decode cX6_towards 12 = .ok (.bipush 7, 2) := dbm_31.1.2.2.1
theorem dX6_towards_14 : decode cX6_towards 14 = .ok (.idiv, 1) := dbm_31.1.2.2.2
theorem dX6_towards_15 : decode cX6_towards 15 = .ok (.iload_n 1, 1) := dbm_31.2.1.1.1
theorem dX6_towards_16 : decode cX6_towards 16 = .ok (.bipush 7, 2) := dbm_31.2.1.1.2
theorem dX6_towards_18 : decode cX6_towards 18 = .ok (.idiv, 1) := dbm_31.2.1.2.1
theorem dX6_towards_19 : decode cX6_towards 19 = .ok (.if_icmp .ge 10, 3) := dbm_31.2.1.2.2
theorem dX6_towards_22 : decode cX6_towards 22 = .ok (.iload_n 0, 1) := dbm_31.2.2.1.1
theorem dX6_towards_23 : decode cX6_towards 23 = .ok (.bipush 7, 2) := dbm_31.2.2.1.2
theorem dX6_towards_25 : decode cX6_towards 25 = .ok (.iadd, 1) := dbm_31.2.2.2.1
theorem dX6_towards_26 : decode cX6_towards 26 = .ok (.goto 7, 3) := dbm_31.2.2.2.2
theorem dbm_32 : (((((decode cX6_towards 29 = .ok (.iload_n 0, 1)) ∧ (decode cX6_towards 30 = .ok (.bipush 7, 2))) ∧ ((decode cX6_towards 32 = .ok (.isub, 1)) ∧ (decode cX6_towards 33 = .ok (.ireturn, 1)))) ∧ (((decode cX6_towards 34 = .ok (.iload_n 0, 1)) ∧ (decode cX6_towards 35 = .ok (.iload_n 1, 1))) ∧ ((decode cX6_towards 36 = .ok (.if_icmp .ge 9, 3)) ∧ (decode cX6_towards 39 = .ok (.iload_n 0, 1))))) ∧ ((((decode cX6_towards 40 = .ok (.iconst 1, 1)) ∧ (decode cX6_towards 41 = .ok (.iadd, 1))) ∧ ((decode cX6_towards 42 = .ok (.goto 15, 3)) ∧ (decode cX6_towards 45 = .ok (.iload_n 0, 1)))) ∧ (((decode cX6_towards 46 = .ok (.iload_n 1, 1)) ∧ (decode cX6_towards 47 = .ok (.if_icmp .le 9, 3))) ∧ ((decode cX6_towards 50 = .ok (.iload_n 0, 1)) ∧ (decode cX6_towards 51 = .ok (.iconst 1, 1)))))) := by decide +kernel
theorem dX6_towards_29 : decode cX6_towards 29 = .ok (.iload_n 0, 1) := dbm_32.1.1.1.1
theorem dX6_towards_30 : decode cX6_towards 30 = .ok (.bipush 7, 2) := dbm_32.1.1.1.2
theorem dX6_towards_32 : decode cX6_towards 32 = .ok (.isub, 1) := dbm_32.1.1.2.1
theorem dX6_towards_33 : decode cX6_towards 33 = .ok (.ireturn, 1) := dbm_32.1.1.2.2
theorem dX6_towards_34 : decode cX6_towards 34 = .ok (.iload_n 0, 1) := dbm_32.1.2.1.1
theorem dX6_towards_35 : decode cX6_towards 35 = .ok (.iload_n 1, 1) := dbm_32.1.2.1.2
theorem dX6_towards_36 : decode cX6_towards 36 = .ok (.if_icmp .ge 9, 3) := dbm_32.1.2.2.1
theorem dX6_towards_39 : decode cX6_towards 39 = .ok (.iload_n 0, 1) := dbm_32.1.2.2.2
theorem dX6_towards_40 : decode cX6_towards 40 = .ok (.iconst 1, 1) := dbm_32.2.1.1.1
theorem dX6_towards_41 : decode cX6_towards 41 = .ok (.iadd, 1) := dbm_32.2.1.1.2
theorem dX6_towards_42 : decode cX6_towards 42 = .ok (.goto 15, 3) := dbm_32.2.1.2.1
theorem dX6_towards_45 : decode cX6_towards 45 = .ok (.iload_n 0, 1) := dbm_32.2.1.2.2
theorem dX6_towards_46 : decode cX6_towards 46 = .ok (.iload_n 1, 1) := dbm_32.2.2.1.1
theorem dX6_towards_47 : decode cX6_towards 47 = .ok (.if_icmp .le 9, 3) := dbm_32.2.2.1.2
theorem dX6_towards_50 : decode cX6_towards 50 = .ok (.iload_n 0, 1) := dbm_32.2.2.2.1
theorem dX6_towards_51 : decode cX6_towards 51 = .ok (.iconst 1, 1) := dbm_32.2.2.2.2
theorem dbm_33 : (((((decode cX6_towards 52 = .ok (.isub, 1)) ∧ (decode cX6_towards 53 = .ok (.goto 4, 3))) ∧ ((decode cX6_towards 56 = .ok (.iload_n 0, 1)) ∧ (decode cX6_towards 57 = .ok (.ireturn, 1)))) ∧ (((decode cX6_eveningBy 0 = .ok (.aload_n 0, 1)) ∧ (decode cX6_eveningBy 1 = .ok (.dup, 1))) ∧ ((decode cX6_eveningBy 2 = .ok (.getfield 122, 3)) ∧ (decode cX6_eveningBy 5 = .ok (.iconst 1, 1))))) ∧ ((((decode cX6_eveningBy 6 = .ok (.iadd, 1)) ∧ (decode cX6_eveningBy 7 = .ok (.putfield 122, 3))) ∧ ((decode cX6_eveningBy 10 = .ok (.iconst 0, 1)) ∧ (decode cX6_eveningBy 11 = .ok (.istore_n 2, 1)))) ∧ (((decode cX6_eveningBy 12 = .ok (.iload_n 2, 1)) ∧ (decode cX6_eveningBy 13 = .ok (.bipush 42, 2))) ∧ ((decode cX6_eveningBy 15 = .ok (.if_icmp .ge 43, 3)) ∧ (decode cX6_eveningBy 18 = .ok (.aload_n 0, 1)))))) := by decide +kernel
theorem dX6_towards_52 : decode cX6_towards 52 = .ok (.isub, 1) := dbm_33.1.1.1.1
theorem dX6_towards_53 : decode cX6_towards 53 = .ok (.goto 4, 3) := dbm_33.1.1.1.2
theorem dX6_towards_56 : decode cX6_towards 56 = .ok (.iload_n 0, 1) := dbm_33.1.1.2.1
theorem dX6_towards_57 : decode cX6_towards 57 = .ok (.ireturn, 1) := dbm_33.1.1.2.2
theorem dX6_eveningBy_0 : decode cX6_eveningBy 0 = .ok (.aload_n 0, 1) := dbm_33.1.2.1.1
theorem dX6_eveningBy_1 : decode cX6_eveningBy 1 = .ok (.dup, 1) := dbm_33.1.2.1.2
theorem dX6_eveningBy_2 : decode cX6_eveningBy 2 = .ok (.getfield 122, 3) := dbm_33.1.2.2.1
theorem dX6_eveningBy_5 : decode cX6_eveningBy 5 = .ok (.iconst 1, 1) := dbm_33.1.2.2.2
theorem dX6_eveningBy_6 : decode cX6_eveningBy 6 = .ok (.iadd, 1) := dbm_33.2.1.1.1
theorem dX6_eveningBy_7 : decode cX6_eveningBy 7 = .ok (.putfield 122, 3) := dbm_33.2.1.1.2
theorem dX6_eveningBy_10 : decode cX6_eveningBy 10 = .ok (.iconst 0, 1) := dbm_33.2.1.2.1
theorem dX6_eveningBy_11 : decode cX6_eveningBy 11 = .ok (.istore_n 2, 1) := dbm_33.2.1.2.2
theorem dX6_eveningBy_12 : decode cX6_eveningBy 12 = .ok (.iload_n 2, 1) := dbm_33.2.2.1.1
theorem dX6_eveningBy_13 : decode cX6_eveningBy 13 = .ok (.bipush 42, 2) := dbm_33.2.2.1.2
theorem dX6_eveningBy_15 : decode cX6_eveningBy 15 = .ok (.if_icmp .ge 43, 3) := dbm_33.2.2.2.1
theorem dX6_eveningBy_18 : decode cX6_eveningBy 18 = .ok (.aload_n 0, 1) := dbm_33.2.2.2.2
theorem dbm_34 : (((((decode cX6_eveningBy 19 = .ok (.getfield 31, 3)) ∧ (decode cX6_eveningBy 22 = .ok (.iload_n 2, 1))) ∧ ((decode cX6_eveningBy 23 = .ok (.dup2, 1)) ∧ (decode cX6_eveningBy 24 = .ok (.iaload, 1)))) ∧ (((decode cX6_eveningBy 25 = .ok (.aload_n 0, 1)) ∧ (decode cX6_eveningBy 26 = .ok (.getfield 31, 3))) ∧ ((decode cX6_eveningBy 29 = .ok (.iload_n 2, 1)) ∧ (decode cX6_eveningBy 30 = .ok (.iaload, 1))))) ∧ ((((decode cX6_eveningBy 31 = .ok (.ifCond .le 18, 3)) ∧ (decode cX6_eveningBy 34 = .ok (.aload_n 0, 1))) ∧ ((decode cX6_eveningBy 35 = .ok (.getfield 31, 3)) ∧ (decode cX6_eveningBy 38 = .ok (.iload_n 2, 1)))) ∧ (((decode cX6_eveningBy 39 = .ok (.iaload, 1)) ∧ (decode cX6_eveningBy 40 = .ok (.bipush 100, 2))) ∧ ((decode cX6_eveningBy 42 = .ok (.if_icmp .ge 7, 3)) ∧ (decode cX6_eveningBy 45 = .ok (.iconst 1, 1)))))) := by decide +kernel
theorem dX6_eveningBy_19 : decode cX6_eveningBy 19 = .ok (.getfield 31, 3) := dbm_34.1.1.1.1
theorem dX6_eveningBy_22 : decode cX6_eveningBy 22 = .ok (.iload_n 2, 1) := dbm_34.1.1.1.2
theorem dX6_eveningBy_23 : decode cX6_eveningBy 23 = .ok (.dup2, 1) := dbm_34.1.1.2.1
theorem dX6_eveningBy_24 : decode cX6_eveningBy 24 = .ok (.iaload, 1) := dbm_34.1.1.2.2
theorem dX6_eveningBy_25 : decode cX6_eveningBy 25 = .ok (.aload_n 0, 1) := dbm_34.1.2.1.1
theorem dX6_eveningBy_26 : decode cX6_eveningBy 26 = .ok (.getfield 31, 3) := dbm_34.1.2.1.2
theorem dX6_eveningBy_29 : decode cX6_eveningBy 29 = .ok (.iload_n 2, 1) := dbm_34.1.2.2.1
theorem dX6_eveningBy_30 : decode cX6_eveningBy 30 = .ok (.iaload, 1) := dbm_34.1.2.2.2
theorem dX6_eveningBy_31 : decode cX6_eveningBy 31 = .ok (.ifCond .le 18, 3) := dbm_34.2.1.1.1
theorem dX6_eveningBy_34 : decode cX6_eveningBy 34 = .ok (.aload_n 0, 1) := dbm_34.2.1.1.2
theorem dX6_eveningBy_35 : decode cX6_eveningBy 35 = .ok (.getfield 31, 3) := dbm_34.2.1.2.1
theorem dX6_eveningBy_38 : decode cX6_eveningBy 38 = .ok (.iload_n 2, 1) := dbm_34.2.1.2.2
theorem dX6_eveningBy_39 : decode cX6_eveningBy 39 = .ok (.iaload, 1) := dbm_34.2.2.1.1
theorem dX6_eveningBy_40 : decode cX6_eveningBy 40 = .ok (.bipush 100, 2) := dbm_34.2.2.1.2
theorem dX6_eveningBy_42 : decode cX6_eveningBy 42 = .ok (.if_icmp .ge 7, 3) := dbm_34.2.2.2.1
theorem dX6_eveningBy_45 : decode cX6_eveningBy 45 = .ok (.iconst 1, 1) := dbm_34.2.2.2.2
theorem dbm_35 : (((((decode cX6_eveningBy 46 = .ok (.goto 4, 3)) ∧ (decode cX6_eveningBy 49 = .ok (.iconst 0, 1))) ∧ ((decode cX6_eveningBy 50 = .ok (.iadd, 1)) ∧ (decode cX6_eveningBy 51 = .ok (.iastore, 1)))) ∧ (((decode cX6_eveningBy 52 = .ok (.iinc 2 1, 3)) ∧ (decode cX6_eveningBy 55 = .ok (.goto (-43), 3))) ∧ ((decode cX6_eveningBy 58 = .ok (.iconst 0, 1)) ∧ (decode cX6_eveningBy 59 = .ok (.istore_n 2, 1))))) ∧ ((((decode cX6_eveningBy 60 = .ok (.iload_n 2, 1)) ∧ (decode cX6_eveningBy 61 = .ok (.aload_n 0, 1))) ∧ ((decode cX6_eveningBy 62 = .ok (.getfield 92, 3)) ∧ (decode cX6_eveningBy 65 = .ok (.if_icmp .ge 120, 3)))) ∧ (((decode cX6_eveningBy 68 = .ok (.aload_n 0, 1)) ∧ (decode cX6_eveningBy 69 = .ok (.getfield 22, 3))) ∧ ((decode cX6_eveningBy 72 = .ok (.iload_n 2, 1)) ∧ (decode cX6_eveningBy 73 = .ok (.aload_n 0, 1)))))) := by decide +kernel
theorem dX6_eveningBy_46 : decode cX6_eveningBy 46 = .ok (.goto 4, 3) := dbm_35.1.1.1.1
theorem dX6_eveningBy_49 : decode cX6_eveningBy 49 = .ok (.iconst 0, 1) := dbm_35.1.1.1.2
theorem dX6_eveningBy_50 : decode cX6_eveningBy 50 = .ok (.iadd, 1) := dbm_35.1.1.2.1
theorem dX6_eveningBy_51 : decode cX6_eveningBy 51 = .ok (.iastore, 1) := dbm_35.1.1.2.2
theorem dX6_eveningBy_52 : decode cX6_eveningBy 52 = .ok (.iinc 2 1, 3) := dbm_35.1.2.1.1
theorem dX6_eveningBy_55 : decode cX6_eveningBy 55 = .ok (.goto (-43), 3) := dbm_35.1.2.1.2
theorem dX6_eveningBy_58 : decode cX6_eveningBy 58 = .ok (.iconst 0, 1) := dbm_35.1.2.2.1
theorem dX6_eveningBy_59 : decode cX6_eveningBy 59 = .ok (.istore_n 2, 1) := dbm_35.1.2.2.2
theorem dX6_eveningBy_60 : decode cX6_eveningBy 60 = .ok (.iload_n 2, 1) := dbm_35.2.1.1.1
theorem dX6_eveningBy_61 : decode cX6_eveningBy 61 = .ok (.aload_n 0, 1) := dbm_35.2.1.1.2
theorem dX6_eveningBy_62 : decode cX6_eveningBy 62 = .ok (.getfield 92, 3) := dbm_35.2.1.2.1
theorem dX6_eveningBy_65 : decode cX6_eveningBy 65 = .ok (.if_icmp .ge 120, 3) := dbm_35.2.1.2.2
theorem dX6_eveningBy_68 : decode cX6_eveningBy 68 = .ok (.aload_n 0, 1) := dbm_35.2.2.1.1
theorem dX6_eveningBy_69 : decode cX6_eveningBy 69 = .ok (.getfield 22, 3) := dbm_35.2.2.1.2
theorem dX6_eveningBy_72 : decode cX6_eveningBy 72 = .ok (.iload_n 2, 1) := dbm_35.2.2.2.1
theorem dX6_eveningBy_73 : decode cX6_eveningBy 73 = .ok (.aload_n 0, 1) := dbm_35.2.2.2.2
theorem dbm_36 : (((((decode cX6_eveningBy 74 = .ok (.getfield 22, 3)) ∧ (decode cX6_eveningBy 77 = .ok (.iload_n 2, 1))) ∧ ((decode cX6_eveningBy 78 = .ok (.iaload, 1)) ∧ (decode cX6_eveningBy 79 = .ok (.aload_n 0, 1)))) ∧ (((decode cX6_eveningBy 80 = .ok (.getfield 25, 3)) ∧ (decode cX6_eveningBy 83 = .ok (.iload_n 2, 1))) ∧ ((decode cX6_eveningBy 84 = .ok (.iaload, 1)) ∧ (decode cX6_eveningBy 85 = .ok (.invokestatic 125, 3))))) ∧ ((((decode cX6_eveningBy 88 = .ok (.iastore, 1)) ∧ (decode cX6_eveningBy 89 = .ok (.iload_n 1, 1))) ∧ ((decode cX6_eveningBy 90 = .ok (.ifCond .eq 7, 3)) ∧ (decode cX6_eveningBy 93 = .ok (.iconst 0, 1)))) ∧ (((decode cX6_eveningBy 94 = .ok (.goto 14, 3)) ∧ (decode cX6_eveningBy 97 = .ok (.aload_n 0, 1))) ∧ ((decode cX6_eveningBy 98 = .ok (.iload_n 2, 1)) ∧ (decode cX6_eveningBy 99 = .ok (.aload_n 0, 1)))))) := by decide +kernel
theorem dX6_eveningBy_74 : decode cX6_eveningBy 74 = .ok (.getfield 22, 3) := dbm_36.1.1.1.1
theorem dX6_eveningBy_77 : decode cX6_eveningBy 77 = .ok (.iload_n 2, 1) := dbm_36.1.1.1.2
theorem dX6_eveningBy_78 : decode cX6_eveningBy 78 = .ok (.iaload, 1) := dbm_36.1.1.2.1
theorem dX6_eveningBy_79 : decode cX6_eveningBy 79 = .ok (.aload_n 0, 1) := dbm_36.1.1.2.2
theorem dX6_eveningBy_80 : decode cX6_eveningBy 80 = .ok (.getfield 25, 3) := dbm_36.1.2.1.1
theorem dX6_eveningBy_83 : decode cX6_eveningBy 83 = .ok (.iload_n 2, 1) := dbm_36.1.2.1.2
theorem dX6_eveningBy_84 : decode cX6_eveningBy 84 = .ok (.iaload, 1) := dbm_36.1.2.2.1
theorem dX6_eveningBy_85 : decode cX6_eveningBy 85 = .ok (.invokestatic 125, 3) := dbm_36.1.2.2.2
theorem dX6_eveningBy_88 : decode cX6_eveningBy 88 = .ok (.iastore, 1) := dbm_36.2.1.1.1
theorem dX6_eveningBy_89 : decode cX6_eveningBy 89 = .ok (.iload_n 1, 1) := dbm_36.2.1.1.2
theorem dX6_eveningBy_90 : decode cX6_eveningBy 90 = .ok (.ifCond .eq 7, 3) := dbm_36.2.1.2.1
theorem dX6_eveningBy_93 : decode cX6_eveningBy 93 = .ok (.iconst 0, 1) := dbm_36.2.1.2.2
theorem dX6_eveningBy_94 : decode cX6_eveningBy 94 = .ok (.goto 14, 3) := dbm_36.2.2.1.1
theorem dX6_eveningBy_97 : decode cX6_eveningBy 97 = .ok (.aload_n 0, 1) := dbm_36.2.2.1.2
theorem dX6_eveningBy_98 : decode cX6_eveningBy 98 = .ok (.iload_n 2, 1) := dbm_36.2.2.2.1
theorem dX6_eveningBy_99 : decode cX6_eveningBy 99 = .ok (.aload_n 0, 1) := dbm_36.2.2.2.2
theorem dbm_37 : (((((decode cX6_eveningBy 100 = .ok (.getfield 22, 3)) ∧ (decode cX6_eveningBy 103 = .ok (.iload_n 2, 1))) ∧ ((decode cX6_eveningBy 104 = .ok (.iaload, 1)) ∧ (decode cX6_eveningBy 105 = .ok (.invokevirtual 128, 3)))) ∧ (((decode cX6_eveningBy 108 = .ok (.istore_n 3, 1)) ∧ (decode cX6_eveningBy 109 = .ok (.iconst 0, 1))) ∧ ((decode cX6_eveningBy 110 = .ok (.istore 4, 2)) ∧ (decode cX6_eveningBy 112 = .ok (.iload 4, 2))))) ∧ ((((decode cX6_eveningBy 114 = .ok (.aload_n 0, 1)) ∧ (decode cX6_eveningBy 115 = .ok (.getfield 89, 3))) ∧ ((decode cX6_eveningBy 118 = .ok (.if_icmp .ge 61, 3)) ∧ (decode cX6_eveningBy 121 = .ok (.aload_n 0, 1)))) ∧ (((decode cX6_eveningBy 122 = .ok (.getfield 31, 3)) ∧ (decode cX6_eveningBy 125 = .ok (.bipush 7, 2))) ∧ ((decode cX6_eveningBy 127 = .ok (.iload_n 2, 1)) ∧ (decode cX6_eveningBy 128 = .ok (.imul, 1)))))) := by decide +kernel
theorem dX6_eveningBy_100 : decode cX6_eveningBy 100 = .ok (.getfield 22, 3) := dbm_37.1.1.1.1
theorem dX6_eveningBy_103 : decode cX6_eveningBy 103 = .ok (.iload_n 2, 1) := dbm_37.1.1.1.2
theorem dX6_eveningBy_104 : decode cX6_eveningBy 104 = .ok (.iaload, 1) := dbm_37.1.1.2.1
theorem dX6_eveningBy_105 : decode cX6_eveningBy 105 = .ok (.invokevirtual 128, 3) := dbm_37.1.1.2.2
theorem dX6_eveningBy_108 : decode cX6_eveningBy 108 = .ok (.istore_n 3, 1) := dbm_37.1.2.1.1
theorem dX6_eveningBy_109 : decode cX6_eveningBy 109 = .ok (.iconst 0, 1) := dbm_37.1.2.1.2
theorem dX6_eveningBy_110 : decode cX6_eveningBy 110 = .ok (.istore 4, 2) := dbm_37.1.2.2.1
theorem dX6_eveningBy_112 : decode cX6_eveningBy 112 = .ok (.iload 4, 2) := dbm_37.1.2.2.2
theorem dX6_eveningBy_114 : decode cX6_eveningBy 114 = .ok (.aload_n 0, 1) := dbm_37.2.1.1.1
theorem dX6_eveningBy_115 : decode cX6_eveningBy 115 = .ok (.getfield 89, 3) := dbm_37.2.1.1.2
theorem dX6_eveningBy_118 : decode cX6_eveningBy 118 = .ok (.if_icmp .ge 61, 3) := dbm_37.2.1.2.1
theorem dX6_eveningBy_121 : decode cX6_eveningBy 121 = .ok (.aload_n 0, 1) := dbm_37.2.1.2.2
theorem dX6_eveningBy_122 : decode cX6_eveningBy 122 = .ok (.getfield 31, 3) := dbm_37.2.2.1.1
theorem dX6_eveningBy_125 : decode cX6_eveningBy 125 = .ok (.bipush 7, 2) := dbm_37.2.2.1.2
theorem dX6_eveningBy_127 : decode cX6_eveningBy 127 = .ok (.iload_n 2, 1) := dbm_37.2.2.2.1
theorem dX6_eveningBy_128 : decode cX6_eveningBy 128 = .ok (.imul, 1) := dbm_37.2.2.2.2
theorem dbm_38 : (((((decode cX6_eveningBy 129 = .ok (.iload 4, 2)) ∧ (decode cX6_eveningBy 131 = .ok (.iadd, 1))) ∧ ((decode cX6_eveningBy 132 = .ok (.aload_n 0, 1)) ∧ (decode cX6_eveningBy 133 = .ok (.getfield 31, 3)))) ∧ (((decode cX6_eveningBy 136 = .ok (.bipush 7, 2)) ∧ (decode cX6_eveningBy 138 = .ok (.iload_n 2, 1))) ∧ ((decode cX6_eveningBy 139 = .ok (.imul, 1)) ∧ (decode cX6_eveningBy 140 = .ok (.iload 4, 2))))) ∧ ((((decode cX6_eveningBy 142 = .ok (.iadd, 1)) ∧ (decode cX6_eveningBy 143 = .ok (.iaload, 1))) ∧ ((decode cX6_eveningBy 144 = .ok (.ifCond .ne 16, 3)) ∧ (decode cX6_eveningBy 147 = .ok (.iload_n 3, 1)))) ∧ (((decode cX6_eveningBy 148 = .ok (.iload 4, 2)) ∧ (decode cX6_eveningBy 150 = .ok (.invokestatic 131, 3))) ∧ ((decode cX6_eveningBy 153 = .ok (.ifCond .eq 7, 3)) ∧ (decode cX6_eveningBy 156 = .ok (.iconst 1, 1)))))) := by decide +kernel
theorem dX6_eveningBy_129 : decode cX6_eveningBy 129 = .ok (.iload 4, 2) := dbm_38.1.1.1.1
theorem dX6_eveningBy_131 : decode cX6_eveningBy 131 = .ok (.iadd, 1) := dbm_38.1.1.1.2
theorem dX6_eveningBy_132 : decode cX6_eveningBy 132 = .ok (.aload_n 0, 1) := dbm_38.1.1.2.1
theorem dX6_eveningBy_133 : decode cX6_eveningBy 133 = .ok (.getfield 31, 3) := dbm_38.1.1.2.2
theorem dX6_eveningBy_136 : decode cX6_eveningBy 136 = .ok (.bipush 7, 2) := dbm_38.1.2.1.1
theorem dX6_eveningBy_138 : decode cX6_eveningBy 138 = .ok (.iload_n 2, 1) := dbm_38.1.2.1.2
theorem dX6_eveningBy_139 : decode cX6_eveningBy 139 = .ok (.imul, 1) := dbm_38.1.2.2.1
theorem dX6_eveningBy_140 : decode cX6_eveningBy 140 = .ok (.iload 4, 2) := dbm_38.1.2.2.2
theorem dX6_eveningBy_142 : decode cX6_eveningBy 142 = .ok (.iadd, 1) := dbm_38.2.1.1.1
theorem dX6_eveningBy_143 : decode cX6_eveningBy 143 = .ok (.iaload, 1) := dbm_38.2.1.1.2
theorem dX6_eveningBy_144 : decode cX6_eveningBy 144 = .ok (.ifCond .ne 16, 3) := dbm_38.2.1.2.1
theorem dX6_eveningBy_147 : decode cX6_eveningBy 147 = .ok (.iload_n 3, 1) := dbm_38.2.1.2.2
theorem dX6_eveningBy_148 : decode cX6_eveningBy 148 = .ok (.iload 4, 2) := dbm_38.2.2.1.1
theorem dX6_eveningBy_150 : decode cX6_eveningBy 150 = .ok (.invokestatic 131, 3) := dbm_38.2.2.1.2
theorem dX6_eveningBy_153 : decode cX6_eveningBy 153 = .ok (.ifCond .eq 7, 3) := dbm_38.2.2.2.1
theorem dX6_eveningBy_156 : decode cX6_eveningBy 156 = .ok (.iconst 1, 1) := dbm_38.2.2.2.2
theorem dbm_39 : (((((decode cX6_eveningBy 157 = .ok (.goto 15, 3)) ∧ (decode cX6_eveningBy 160 = .ok (.aload_n 0, 1))) ∧ ((decode cX6_eveningBy 161 = .ok (.getfield 31, 3)) ∧ (decode cX6_eveningBy 164 = .ok (.bipush 7, 2)))) ∧ (((decode cX6_eveningBy 166 = .ok (.iload_n 2, 1)) ∧ (decode cX6_eveningBy 167 = .ok (.imul, 1))) ∧ ((decode cX6_eveningBy 168 = .ok (.iload 4, 2)) ∧ (decode cX6_eveningBy 170 = .ok (.iadd, 1))))) ∧ ((((decode cX6_eveningBy 171 = .ok (.iaload, 1)) ∧ (decode cX6_eveningBy 172 = .ok (.iastore, 1))) ∧ ((decode cX6_eveningBy 173 = .ok (.iinc 4 1, 3)) ∧ (decode cX6_eveningBy 176 = .ok (.goto (-64), 3)))) ∧ (((decode cX6_eveningBy 179 = .ok (.iinc 2 1, 3)) ∧ (decode cX6_eveningBy 182 = .ok (.goto (-122), 3))) ∧ ((decode cX6_eveningBy 185 = .ok (.return_, 1)) ∧ (decode cX6_goEvenings 0 = .ok (.iconst 0, 1)))))) := by decide +kernel
theorem dX6_eveningBy_157 : decode cX6_eveningBy 157 = .ok (.goto 15, 3) := dbm_39.1.1.1.1
theorem dX6_eveningBy_160 : decode cX6_eveningBy 160 = .ok (.aload_n 0, 1) := dbm_39.1.1.1.2
theorem dX6_eveningBy_161 : decode cX6_eveningBy 161 = .ok (.getfield 31, 3) := dbm_39.1.1.2.1
theorem dX6_eveningBy_164 : decode cX6_eveningBy 164 = .ok (.bipush 7, 2) := dbm_39.1.1.2.2
theorem dX6_eveningBy_166 : decode cX6_eveningBy 166 = .ok (.iload_n 2, 1) := dbm_39.1.2.1.1
theorem dX6_eveningBy_167 : decode cX6_eveningBy 167 = .ok (.imul, 1) := dbm_39.1.2.1.2
theorem dX6_eveningBy_168 : decode cX6_eveningBy 168 = .ok (.iload 4, 2) := dbm_39.1.2.2.1
theorem dX6_eveningBy_170 : decode cX6_eveningBy 170 = .ok (.iadd, 1) := dbm_39.1.2.2.2
theorem dX6_eveningBy_171 : decode cX6_eveningBy 171 = .ok (.iaload, 1) := dbm_39.2.1.1.1
theorem dX6_eveningBy_172 : decode cX6_eveningBy 172 = .ok (.iastore, 1) := dbm_39.2.1.1.2
theorem dX6_eveningBy_173 : decode cX6_eveningBy 173 = .ok (.iinc 4 1, 3) := dbm_39.2.1.2.1
theorem dX6_eveningBy_176 : decode cX6_eveningBy 176 = .ok (.goto (-64), 3) := dbm_39.2.1.2.2
theorem dX6_eveningBy_179 : decode cX6_eveningBy 179 = .ok (.iinc 2 1, 3) := dbm_39.2.2.1.1
theorem dX6_eveningBy_182 : decode cX6_eveningBy 182 = .ok (.goto (-122), 3) := dbm_39.2.2.1.2
theorem dX6_eveningBy_185 : decode cX6_eveningBy 185 = .ok (.return_, 1) := dbm_39.2.2.2.1
theorem dX6_goEvenings_0 : decode cX6_goEvenings 0 = .ok (.iconst 0, 1) := dbm_39.2.2.2.2
theorem dbm_40 : (((((decode cX6_goEvenings 1 = .ok (.istore_n 2, 1)) ∧ (decode cX6_goEvenings 2 = .ok (.iload_n 2, 1))) ∧ ((decode cX6_goEvenings 3 = .ok (.iload_n 1, 1)) ∧ (decode cX6_goEvenings 4 = .ok (.if_icmp .ge 14, 3)))) ∧ (((decode cX6_goEvenings 7 = .ok (.aload_n 0, 1)) ∧ (decode cX6_goEvenings 8 = .ok (.iconst 0, 1))) ∧ ((decode cX6_goEvenings 9 = .ok (.invokevirtual 135, 3)) ∧ (decode cX6_goEvenings 12 = .ok (.iinc 2 1, 3))))) ∧ ((((decode cX6_goEvenings 15 = .ok (.goto (-13), 3)) ∧ (decode cX6_goEvenings 18 = .ok (.return_, 1))) ∧ ((decode cX6_houseComes 0 = .ok (.iload_n 1, 1)) ∧ (decode cX6_houseComes 1 = .ok (.bipush 6, 2)))) ∧ (((decode cX6_houseComes 3 = .ok (.if_icmp .ge 23, 3)) ∧ (decode cX6_houseComes 6 = .ok (.iload_n 3, 1))) ∧ ((decode cX6_houseComes 7 = .ok (.invokestatic 139, 3)) ∧ (decode cX6_houseComes 10 = .ok (.ifCond .eq 16, 3)))))) := by decide +kernel
theorem dX6_goEvenings_1 : decode cX6_goEvenings 1 = .ok (.istore_n 2, 1) := dbm_40.1.1.1.1
theorem dX6_goEvenings_2 : decode cX6_goEvenings 2 = .ok (.iload_n 2, 1) := dbm_40.1.1.1.2
theorem dX6_goEvenings_3 : decode cX6_goEvenings 3 = .ok (.iload_n 1, 1) := dbm_40.1.1.2.1
theorem dX6_goEvenings_4 : decode cX6_goEvenings 4 = .ok (.if_icmp .ge 14, 3) := dbm_40.1.1.2.2
theorem dX6_goEvenings_7 : decode cX6_goEvenings 7 = .ok (.aload_n 0, 1) := dbm_40.1.2.1.1
theorem dX6_goEvenings_8 : decode cX6_goEvenings 8 = .ok (.iconst 0, 1) := dbm_40.1.2.1.2
theorem dX6_goEvenings_9 : decode cX6_goEvenings 9 = .ok (.invokevirtual 135, 3) := dbm_40.1.2.2.1
theorem dX6_goEvenings_12 : decode cX6_goEvenings 12 = .ok (.iinc 2 1, 3) := dbm_40.1.2.2.2
theorem dX6_goEvenings_15 : decode cX6_goEvenings 15 = .ok (.goto (-13), 3) := dbm_40.2.1.1.1
theorem dX6_goEvenings_18 : decode cX6_goEvenings 18 = .ok (.return_, 1) := dbm_40.2.1.1.2
theorem dX6_houseComes_0 : decode cX6_houseComes 0 = .ok (.iload_n 1, 1) := dbm_40.2.1.2.1
theorem dX6_houseComes_1 : decode cX6_houseComes 1 = .ok (.bipush 6, 2) := dbm_40.2.1.2.2
theorem dX6_houseComes_3 : decode cX6_houseComes 3 = .ok (.if_icmp .ge 23, 3) := dbm_40.2.2.1.1
theorem dX6_houseComes_6 : decode cX6_houseComes 6 = .ok (.iload_n 3, 1) := dbm_40.2.2.1.2
theorem dX6_houseComes_7 : decode cX6_houseComes 7 = .ok (.invokestatic 139, 3) := dbm_40.2.2.2.1
theorem dX6_houseComes_10 : decode cX6_houseComes 10 = .ok (.ifCond .eq 16, 3) := dbm_40.2.2.2.2
theorem dbm_41 : (((((decode cX6_houseComes 13 = .ok (.aload_n 0, 1)) ∧ (decode cX6_houseComes 14 = .ok (.getfield 89, 3))) ∧ ((decode cX6_houseComes 17 = .ok (.bipush 7, 2)) ∧ (decode cX6_houseComes 19 = .ok (.if_icmp .ge 7, 3)))) ∧ (((decode cX6_houseComes 22 = .ok (.iconst 1, 1)) ∧ (decode cX6_houseComes 23 = .ok (.goto 4, 3))) ∧ ((decode cX6_houseComes 26 = .ok (.iconst 0, 1)) ∧ (decode cX6_houseComes 27 = .ok (.istore 4, 2))))) ∧ ((((decode cX6_houseComes 29 = .ok (.iload 4, 2)) ∧ (decode cX6_houseComes 31 = .ok (.ifCond .eq 85, 3))) ∧ ((decode cX6_houseComes 34 = .ok (.aload_n 0, 1)) ∧ (decode cX6_houseComes 35 = .ok (.getfield 7, 3)))) ∧ (((decode cX6_houseComes 38 = .ok (.aload_n 0, 1)) ∧ (decode cX6_houseComes 39 = .ok (.getfield 89, 3))) ∧ ((decode cX6_houseComes 42 = .ok (.iload_n 1, 1)) ∧ (decode cX6_houseComes 43 = .ok (.iastore, 1)))))) := by decide +kernel
theorem dX6_houseComes_13 : decode cX6_houseComes 13 = .ok (.aload_n 0, 1) := dbm_41.1.1.1.1
theorem dX6_houseComes_14 : decode cX6_houseComes 14 = .ok (.getfield 89, 3) := dbm_41.1.1.1.2
theorem dX6_houseComes_17 : decode cX6_houseComes 17 = .ok (.bipush 7, 2) := dbm_41.1.1.2.1
theorem dX6_houseComes_19 : decode cX6_houseComes 19 = .ok (.if_icmp .ge 7, 3) := dbm_41.1.1.2.2
theorem dX6_houseComes_22 : decode cX6_houseComes 22 = .ok (.iconst 1, 1) := dbm_41.1.2.1.1
theorem dX6_houseComes_23 : decode cX6_houseComes 23 = .ok (.goto 4, 3) := dbm_41.1.2.1.2
theorem dX6_houseComes_26 : decode cX6_houseComes 26 = .ok (.iconst 0, 1) := dbm_41.1.2.2.1
theorem dX6_houseComes_27 : decode cX6_houseComes 27 = .ok (.istore 4, 2) := dbm_41.1.2.2.2
theorem dX6_houseComes_29 : decode cX6_houseComes 29 = .ok (.iload 4, 2) := dbm_41.2.1.1.1
theorem dX6_houseComes_31 : decode cX6_houseComes 31 = .ok (.ifCond .eq 85, 3) := dbm_41.2.1.1.2
theorem dX6_houseComes_34 : decode cX6_houseComes 34 = .ok (.aload_n 0, 1) := dbm_41.2.1.2.1
theorem dX6_houseComes_35 : decode cX6_houseComes 35 = .ok (.getfield 7, 3) := dbm_41.2.1.2.2
theorem dX6_houseComes_38 : decode cX6_houseComes 38 = .ok (.aload_n 0, 1) := dbm_41.2.2.1.1
theorem dX6_houseComes_39 : decode cX6_houseComes 39 = .ok (.getfield 89, 3) := dbm_41.2.2.1.2
theorem dX6_houseComes_42 : decode cX6_houseComes 42 = .ok (.iload_n 1, 1) := dbm_41.2.2.2.1
theorem dX6_houseComes_43 : decode cX6_houseComes 43 = .ok (.iastore, 1) := dbm_41.2.2.2.2
theorem dbm_42 : (((((decode cX6_houseComes 44 = .ok (.aload_n 0, 1)) ∧ (decode cX6_houseComes 45 = .ok (.getfield 13, 3))) ∧ ((decode cX6_houseComes 48 = .ok (.aload_n 0, 1)) ∧ (decode cX6_houseComes 49 = .ok (.getfield 89, 3)))) ∧ (((decode cX6_houseComes 52 = .ok (.iload_n 2, 1)) ∧ (decode cX6_houseComes 53 = .ok (.iastore, 1))) ∧ ((decode cX6_houseComes 54 = .ok (.aload_n 0, 1)) ∧ (decode cX6_houseComes 55 = .ok (.getfield 16, 3))))) ∧ ((((decode cX6_houseComes 58 = .ok (.aload_n 0, 1)) ∧ (decode cX6_houseComes 59 = .ok (.getfield 89, 3))) ∧ ((decode cX6_houseComes 62 = .ok (.iload_n 3, 1)) ∧ (decode cX6_houseComes 63 = .ok (.iastore, 1)))) ∧ (((decode cX6_houseComes 64 = .ok (.aload_n 0, 1)) ∧ (decode cX6_houseComes 65 = .ok (.getfield 19, 3))) ∧ ((decode cX6_houseComes 68 = .ok (.aload_n 0, 1)) ∧ (decode cX6_houseComes 69 = .ok (.getfield 89, 3)))))) := by decide +kernel
theorem dX6_houseComes_44 : decode cX6_houseComes 44 = .ok (.aload_n 0, 1) := dbm_42.1.1.1.1
theorem dX6_houseComes_45 : decode cX6_houseComes 45 = .ok (.getfield 13, 3) := dbm_42.1.1.1.2
theorem dX6_houseComes_48 : decode cX6_houseComes 48 = .ok (.aload_n 0, 1) := dbm_42.1.1.2.1
theorem dX6_houseComes_49 : decode cX6_houseComes 49 = .ok (.getfield 89, 3) := dbm_42.1.1.2.2
theorem dX6_houseComes_52 : decode cX6_houseComes 52 = .ok (.iload_n 2, 1) := dbm_42.1.2.1.1
theorem dX6_houseComes_53 : decode cX6_houseComes 53 = .ok (.iastore, 1) := dbm_42.1.2.1.2
theorem dX6_houseComes_54 : decode cX6_houseComes 54 = .ok (.aload_n 0, 1) := dbm_42.1.2.2.1
theorem dX6_houseComes_55 : decode cX6_houseComes 55 = .ok (.getfield 16, 3) := dbm_42.1.2.2.2
theorem dX6_houseComes_58 : decode cX6_houseComes 58 = .ok (.aload_n 0, 1) := dbm_42.2.1.1.1
theorem dX6_houseComes_59 : decode cX6_houseComes 59 = .ok (.getfield 89, 3) := dbm_42.2.1.1.2
theorem dX6_houseComes_62 : decode cX6_houseComes 62 = .ok (.iload_n 3, 1) := dbm_42.2.1.2.1
theorem dX6_houseComes_63 : decode cX6_houseComes 63 = .ok (.iastore, 1) := dbm_42.2.1.2.2
theorem dX6_houseComes_64 : decode cX6_houseComes 64 = .ok (.aload_n 0, 1) := dbm_42.2.2.1.1
theorem dX6_houseComes_65 : decode cX6_houseComes 65 = .ok (.getfield 19, 3) := dbm_42.2.2.1.2
theorem dX6_houseComes_68 : decode cX6_houseComes 68 = .ok (.aload_n 0, 1) := dbm_42.2.2.2.1
theorem dX6_houseComes_69 : decode cX6_houseComes 69 = .ok (.getfield 89, 3) := dbm_42.2.2.2.2
theorem dbm_43 : (((((decode cX6_houseComes 72 = .ok (.iconst 1, 1)) ∧ (decode cX6_houseComes 73 = .ok (.iastore, 1))) ∧ ((decode cX6_houseComes 74 = .ok (.iconst 0, 1)) ∧ (decode cX6_houseComes 75 = .ok (.istore 5, 2)))) ∧ (((decode cX6_houseComes 77 = .ok (.iload 5, 2)) ∧ (decode cX6_houseComes 79 = .ok (.bipush 6, 2))) ∧ ((decode cX6_houseComes 81 = .ok (.if_icmp .ge 25, 3)) ∧ (decode cX6_houseComes 84 = .ok (.aload_n 0, 1))))) ∧ ((((decode cX6_houseComes 85 = .ok (.getfield 31, 3)) ∧ (decode cX6_houseComes 88 = .ok (.bipush 7, 2))) ∧ ((decode cX6_houseComes 90 = .ok (.iload 5, 2)) ∧ (decode cX6_houseComes 92 = .ok (.imul, 1)))) ∧ (((decode cX6_houseComes 93 = .ok (.aload_n 0, 1)) ∧ (decode cX6_houseComes 94 = .ok (.getfield 89, 3))) ∧ ((decode cX6_houseComes 97 = .ok (.iadd, 1)) ∧ (decode cX6_houseComes 98 = .ok (.iconst 0, 1)))))) := by decide +kernel
theorem dX6_houseComes_72 : decode cX6_houseComes 72 = .ok (.iconst 1, 1) := dbm_43.1.1.1.1
theorem dX6_houseComes_73 : decode cX6_houseComes 73 = .ok (.iastore, 1) := dbm_43.1.1.1.2
theorem dX6_houseComes_74 : decode cX6_houseComes 74 = .ok (.iconst 0, 1) := dbm_43.1.1.2.1
theorem dX6_houseComes_75 : decode cX6_houseComes 75 = .ok (.istore 5, 2) := dbm_43.1.1.2.2
theorem dX6_houseComes_77 : decode cX6_houseComes 77 = .ok (.iload 5, 2) := dbm_43.1.2.1.1
theorem dX6_houseComes_79 : decode cX6_houseComes 79 = .ok (.bipush 6, 2) := dbm_43.1.2.1.2
theorem dX6_houseComes_81 : decode cX6_houseComes 81 = .ok (.if_icmp .ge 25, 3) := dbm_43.1.2.2.1
theorem dX6_houseComes_84 : decode cX6_houseComes 84 = .ok (.aload_n 0, 1) := dbm_43.1.2.2.2
theorem dX6_houseComes_85 : decode cX6_houseComes 85 = .ok (.getfield 31, 3) := dbm_43.2.1.1.1
theorem dX6_houseComes_88 : decode cX6_houseComes 88 = .ok (.bipush 7, 2) := dbm_43.2.1.1.2
theorem dX6_houseComes_90 : decode cX6_houseComes 90 = .ok (.iload 5, 2) := dbm_43.2.1.2.1
theorem dX6_houseComes_92 : decode cX6_houseComes 92 = .ok (.imul, 1) := dbm_43.2.1.2.2
theorem dX6_houseComes_93 : decode cX6_houseComes 93 = .ok (.aload_n 0, 1) := dbm_43.2.2.1.1
theorem dX6_houseComes_94 : decode cX6_houseComes 94 = .ok (.getfield 89, 3) := dbm_43.2.2.1.2
theorem dX6_houseComes_97 : decode cX6_houseComes 97 = .ok (.iadd, 1) := dbm_43.2.2.2.1
theorem dX6_houseComes_98 : decode cX6_houseComes 98 = .ok (.iconst 0, 1) := dbm_43.2.2.2.2
theorem dbm_44 : (((((decode cX6_houseComes 99 = .ok (.iastore, 1)) ∧ (decode cX6_houseComes 100 = .ok (.iinc 5 1, 3))) ∧ ((decode cX6_houseComes 103 = .ok (.goto (-26), 3)) ∧ (decode cX6_houseComes 106 = .ok (.aload_n 0, 1)))) ∧ (((decode cX6_houseComes 107 = .ok (.dup, 1)) ∧ (decode cX6_houseComes 108 = .ok (.getfield 89, 3))) ∧ ((decode cX6_houseComes 111 = .ok (.iconst 1, 1)) ∧ (decode cX6_houseComes 112 = .ok (.iadd, 1))))) ∧ ((((decode cX6_houseComes 113 = .ok (.putfield 89, 3)) ∧ (decode cX6_houseComes 116 = .ok (.iload 4, 2))) ∧ ((decode cX6_houseComes 118 = .ok (.ireturn, 1)) ∧ (decode cX6_walkerComes 0 = .ok (.iload_n 1, 1)))) ∧ (((decode cX6_walkerComes 1 = .ok (.invokestatic 139, 3)) ∧ (decode cX6_walkerComes 4 = .ok (.ifCond .eq 28, 3))) ∧ ((decode cX6_walkerComes 7 = .ok (.iload_n 2, 1)) ∧ (decode cX6_walkerComes 8 = .ok (.invokestatic 139, 3)))))) := by decide +kernel
theorem dX6_houseComes_99 : decode cX6_houseComes 99 = .ok (.iastore, 1) := dbm_44.1.1.1.1
theorem dX6_houseComes_100 : decode cX6_houseComes 100 = .ok (.iinc 5 1, 3) := dbm_44.1.1.1.2
theorem dX6_houseComes_103 : decode cX6_houseComes 103 = .ok (.goto (-26), 3) := dbm_44.1.1.2.1
theorem dX6_houseComes_106 : decode cX6_houseComes 106 = .ok (.aload_n 0, 1) := dbm_44.1.1.2.2
theorem dX6_houseComes_107 : decode cX6_houseComes 107 = .ok (.dup, 1) := dbm_44.1.2.1.1
theorem dX6_houseComes_108 : decode cX6_houseComes 108 = .ok (.getfield 89, 3) := dbm_44.1.2.1.2
theorem dX6_houseComes_111 : decode cX6_houseComes 111 = .ok (.iconst 1, 1) := dbm_44.1.2.2.1
theorem dX6_houseComes_112 : decode cX6_houseComes 112 = .ok (.iadd, 1) := dbm_44.1.2.2.2
theorem dX6_houseComes_113 : decode cX6_houseComes 113 = .ok (.putfield 89, 3) := dbm_44.2.1.1.1
theorem dX6_houseComes_116 : decode cX6_houseComes 116 = .ok (.iload 4, 2) := dbm_44.2.1.1.2
theorem dX6_houseComes_118 : decode cX6_houseComes 118 = .ok (.ireturn, 1) := dbm_44.2.1.2.1
theorem dX6_walkerComes_0 : decode cX6_walkerComes 0 = .ok (.iload_n 1, 1) := dbm_44.2.1.2.2
theorem dX6_walkerComes_1 : decode cX6_walkerComes 1 = .ok (.invokestatic 139, 3) := dbm_44.2.2.1.1
theorem dX6_walkerComes_4 : decode cX6_walkerComes 4 = .ok (.ifCond .eq 28, 3) := dbm_44.2.2.1.2
theorem dX6_walkerComes_7 : decode cX6_walkerComes 7 = .ok (.iload_n 2, 1) := dbm_44.2.2.2.1
theorem dX6_walkerComes_8 : decode cX6_walkerComes 8 = .ok (.invokestatic 139, 3) := dbm_44.2.2.2.2
theorem dbm_45 : (((((decode cX6_walkerComes 11 = .ok (.ifCond .eq 21, 3)) ∧ (decode cX6_walkerComes 14 = .ok (.iload_n 3, 1))) ∧ ((decode cX6_walkerComes 15 = .ok (.iconst 2, 1)) ∧ (decode cX6_walkerComes 16 = .ok (.if_icmp .gt 16, 3)))) ∧ (((decode cX6_walkerComes 19 = .ok (.aload_n 0, 1)) ∧ (decode cX6_walkerComes 20 = .ok (.getfield 92, 3))) ∧ ((decode cX6_walkerComes 23 = .ok (.bipush 6, 2)) ∧ (decode cX6_walkerComes 25 = .ok (.if_icmp .ge 7, 3))))) ∧ ((((decode cX6_walkerComes 28 = .ok (.iconst 1, 1)) ∧ (decode cX6_walkerComes 29 = .ok (.goto 4, 3))) ∧ ((decode cX6_walkerComes 32 = .ok (.iconst 0, 1)) ∧ (decode cX6_walkerComes 33 = .ok (.istore 4, 2)))) ∧ (((decode cX6_walkerComes 35 = .ok (.iload 4, 2)) ∧ (decode cX6_walkerComes 37 = .ok (.ifCond .eq 75, 3))) ∧ ((decode cX6_walkerComes 40 = .ok (.aload_n 0, 1)) ∧ (decode cX6_walkerComes 41 = .ok (.getfield 22, 3)))))) := by decide +kernel
theorem dX6_walkerComes_11 : decode cX6_walkerComes 11 = .ok (.ifCond .eq 21, 3) := dbm_45.1.1.1.1
theorem dX6_walkerComes_14 : decode cX6_walkerComes 14 = .ok (.iload_n 3, 1) := dbm_45.1.1.1.2
theorem dX6_walkerComes_15 : decode cX6_walkerComes 15 = .ok (.iconst 2, 1) := dbm_45.1.1.2.1
theorem dX6_walkerComes_16 : decode cX6_walkerComes 16 = .ok (.if_icmp .gt 16, 3) := dbm_45.1.1.2.2
theorem dX6_walkerComes_19 : decode cX6_walkerComes 19 = .ok (.aload_n 0, 1) := dbm_45.1.2.1.1
theorem dX6_walkerComes_20 : decode cX6_walkerComes 20 = .ok (.getfield 92, 3) := dbm_45.1.2.1.2
theorem dX6_walkerComes_23 : decode cX6_walkerComes 23 = .ok (.bipush 6, 2) := dbm_45.1.2.2.1
theorem dX6_walkerComes_25 : decode cX6_walkerComes 25 = .ok (.if_icmp .ge 7, 3) := dbm_45.1.2.2.2
theorem dX6_walkerComes_28 : decode cX6_walkerComes 28 = .ok (.iconst 1, 1) := dbm_45.2.1.1.1
theorem dX6_walkerComes_29 : decode cX6_walkerComes 29 = .ok (.goto 4, 3) := dbm_45.2.1.1.2
theorem dX6_walkerComes_32 : decode cX6_walkerComes 32 = .ok (.iconst 0, 1) := dbm_45.2.1.2.1
theorem dX6_walkerComes_33 : decode cX6_walkerComes 33 = .ok (.istore 4, 2) := dbm_45.2.1.2.2
theorem dX6_walkerComes_35 : decode cX6_walkerComes 35 = .ok (.iload 4, 2) := dbm_45.2.2.1.1
theorem dX6_walkerComes_37 : decode cX6_walkerComes 37 = .ok (.ifCond .eq 75, 3) := dbm_45.2.2.1.2
theorem dX6_walkerComes_40 : decode cX6_walkerComes 40 = .ok (.aload_n 0, 1) := dbm_45.2.2.2.1
theorem dX6_walkerComes_41 : decode cX6_walkerComes 41 = .ok (.getfield 22, 3) := dbm_45.2.2.2.2
theorem dbm_46 : (((((decode cX6_walkerComes 44 = .ok (.aload_n 0, 1)) ∧ (decode cX6_walkerComes 45 = .ok (.getfield 92, 3))) ∧ ((decode cX6_walkerComes 48 = .ok (.iload_n 1, 1)) ∧ (decode cX6_walkerComes 49 = .ok (.iastore, 1)))) ∧ (((decode cX6_walkerComes 50 = .ok (.aload_n 0, 1)) ∧ (decode cX6_walkerComes 51 = .ok (.getfield 25, 3))) ∧ ((decode cX6_walkerComes 54 = .ok (.aload_n 0, 1)) ∧ (decode cX6_walkerComes 55 = .ok (.getfield 92, 3))))) ∧ ((((decode cX6_walkerComes 58 = .ok (.iload_n 2, 1)) ∧ (decode cX6_walkerComes 59 = .ok (.iastore, 1))) ∧ ((decode cX6_walkerComes 60 = .ok (.aload_n 0, 1)) ∧ (decode cX6_walkerComes 61 = .ok (.getfield 28, 3)))) ∧ (((decode cX6_walkerComes 64 = .ok (.aload_n 0, 1)) ∧ (decode cX6_walkerComes 65 = .ok (.getfield 92, 3))) ∧ ((decode cX6_walkerComes 68 = .ok (.iload_n 3, 1)) ∧ (decode cX6_walkerComes 69 = .ok (.iastore, 1)))))) := by decide +kernel
theorem dX6_walkerComes_44 : decode cX6_walkerComes 44 = .ok (.aload_n 0, 1) := dbm_46.1.1.1.1
theorem dX6_walkerComes_45 : decode cX6_walkerComes 45 = .ok (.getfield 92, 3) := dbm_46.1.1.1.2
theorem dX6_walkerComes_48 : decode cX6_walkerComes 48 = .ok (.iload_n 1, 1) := dbm_46.1.1.2.1
theorem dX6_walkerComes_49 : decode cX6_walkerComes 49 = .ok (.iastore, 1) := dbm_46.1.1.2.2
theorem dX6_walkerComes_50 : decode cX6_walkerComes 50 = .ok (.aload_n 0, 1) := dbm_46.1.2.1.1
theorem dX6_walkerComes_51 : decode cX6_walkerComes 51 = .ok (.getfield 25, 3) := dbm_46.1.2.1.2
theorem dX6_walkerComes_54 : decode cX6_walkerComes 54 = .ok (.aload_n 0, 1) := dbm_46.1.2.2.1
theorem dX6_walkerComes_55 : decode cX6_walkerComes 55 = .ok (.getfield 92, 3) := dbm_46.1.2.2.2
theorem dX6_walkerComes_58 : decode cX6_walkerComes 58 = .ok (.iload_n 2, 1) := dbm_46.2.1.1.1
theorem dX6_walkerComes_59 : decode cX6_walkerComes 59 = .ok (.iastore, 1) := dbm_46.2.1.1.2
theorem dX6_walkerComes_60 : decode cX6_walkerComes 60 = .ok (.aload_n 0, 1) := dbm_46.2.1.2.1
theorem dX6_walkerComes_61 : decode cX6_walkerComes 61 = .ok (.getfield 28, 3) := dbm_46.2.1.2.2
theorem dX6_walkerComes_64 : decode cX6_walkerComes 64 = .ok (.aload_n 0, 1) := dbm_46.2.2.1.1
theorem dX6_walkerComes_65 : decode cX6_walkerComes 65 = .ok (.getfield 92, 3) := dbm_46.2.2.1.2
theorem dX6_walkerComes_68 : decode cX6_walkerComes 68 = .ok (.iload_n 3, 1) := dbm_46.2.2.2.1
theorem dX6_walkerComes_69 : decode cX6_walkerComes 69 = .ok (.iastore, 1) := dbm_46.2.2.2.2
theorem dbm_47 : (((((decode cX6_walkerComes 70 = .ok (.iconst 0, 1)) ∧ (decode cX6_walkerComes 71 = .ok (.istore 5, 2))) ∧ ((decode cX6_walkerComes 73 = .ok (.iload 5, 2)) ∧ (decode cX6_walkerComes 75 = .ok (.bipush 7, 2)))) ∧ (((decode cX6_walkerComes 77 = .ok (.if_icmp .ge 25, 3)) ∧ (decode cX6_walkerComes 80 = .ok (.aload_n 0, 1))) ∧ ((decode cX6_walkerComes 81 = .ok (.getfield 31, 3)) ∧ (decode cX6_walkerComes 84 = .ok (.bipush 7, 2))))) ∧ ((((decode cX6_walkerComes 86 = .ok (.aload_n 0, 1)) ∧ (decode cX6_walkerComes 87 = .ok (.getfield 92, 3))) ∧ ((decode cX6_walkerComes 90 = .ok (.imul, 1)) ∧ (decode cX6_walkerComes 91 = .ok (.iload 5, 2)))) ∧ (((decode cX6_walkerComes 93 = .ok (.iadd, 1)) ∧ (decode cX6_walkerComes 94 = .ok (.iconst 0, 1))) ∧ ((decode cX6_walkerComes 95 = .ok (.iastore, 1)) ∧ (decode cX6_walkerComes 96 = .ok (.iinc 5 1, 3)))))) := by decide +kernel
theorem dX6_walkerComes_70 : decode cX6_walkerComes 70 = .ok (.iconst 0, 1) := dbm_47.1.1.1.1
theorem dX6_walkerComes_71 : decode cX6_walkerComes 71 = .ok (.istore 5, 2) := dbm_47.1.1.1.2
theorem dX6_walkerComes_73 : decode cX6_walkerComes 73 = .ok (.iload 5, 2) := dbm_47.1.1.2.1
theorem dX6_walkerComes_75 : decode cX6_walkerComes 75 = .ok (.bipush 7, 2) := dbm_47.1.1.2.2
theorem dX6_walkerComes_77 : decode cX6_walkerComes 77 = .ok (.if_icmp .ge 25, 3) := dbm_47.1.2.1.1
theorem dX6_walkerComes_80 : decode cX6_walkerComes 80 = .ok (.aload_n 0, 1) := dbm_47.1.2.1.2
theorem dX6_walkerComes_81 : decode cX6_walkerComes 81 = .ok (.getfield 31, 3) := dbm_47.1.2.2.1
theorem dX6_walkerComes_84 : decode cX6_walkerComes 84 = .ok (.bipush 7, 2) := dbm_47.1.2.2.2
theorem dX6_walkerComes_86 : decode cX6_walkerComes 86 = .ok (.aload_n 0, 1) := dbm_47.2.1.1.1
theorem dX6_walkerComes_87 : decode cX6_walkerComes 87 = .ok (.getfield 92, 3) := dbm_47.2.1.1.2
theorem dX6_walkerComes_90 : decode cX6_walkerComes 90 = .ok (.imul, 1) := dbm_47.2.1.2.1
theorem dX6_walkerComes_91 : decode cX6_walkerComes 91 = .ok (.iload 5, 2) := dbm_47.2.1.2.2
theorem dX6_walkerComes_93 : decode cX6_walkerComes 93 = .ok (.iadd, 1) := dbm_47.2.2.1.1
theorem dX6_walkerComes_94 : decode cX6_walkerComes 94 = .ok (.iconst 0, 1) := dbm_47.2.2.1.2
theorem dX6_walkerComes_95 : decode cX6_walkerComes 95 = .ok (.iastore, 1) := dbm_47.2.2.2.1
theorem dX6_walkerComes_96 : decode cX6_walkerComes 96 = .ok (.iinc 5 1, 3) := dbm_47.2.2.2.2
theorem dbm_48 : (((((decode cX6_walkerComes 99 = .ok (.goto (-26), 3)) ∧ (decode cX6_walkerComes 102 = .ok (.aload_n 0, 1))) ∧ ((decode cX6_walkerComes 103 = .ok (.dup, 1)) ∧ (decode cX6_walkerComes 104 = .ok (.getfield 92, 3)))) ∧ (((decode cX6_walkerComes 107 = .ok (.iconst 1, 1)) ∧ (decode cX6_walkerComes 108 = .ok (.iadd, 1))) ∧ ((decode cX6_walkerComes 109 = .ok (.putfield 92, 3)) ∧ (decode cX6_walkerComes 112 = .ok (.iload 4, 2))))) ∧ ((((decode cX6_walkerComes 114 = .ok (.ireturn, 1)) ∧ (decode cX6_feed 0 = .ok (.aload_n 0, 1))) ∧ ((decode cX6_feed 1 = .ok (.iconst 0, 1)) ∧ (decode cX6_feed 2 = .ok (.putfield 79, 3)))) ∧ (((decode cX6_feed 5 = .ok (.iload_n 1, 1)) ∧ (decode cX6_feed 6 = .ok (.ifCond .ge 10, 3))) ∧ ((decode cX6_feed 9 = .ok (.aload_n 0, 1)) ∧ (decode cX6_feed 10 = .ok (.bipush (-4), 2)))))) := by decide +kernel
theorem dX6_walkerComes_99 : decode cX6_walkerComes 99 = .ok (.goto (-26), 3) := dbm_48.1.1.1.1
theorem dX6_walkerComes_102 : decode cX6_walkerComes 102 = .ok (.aload_n 0, 1) := dbm_48.1.1.1.2
theorem dX6_walkerComes_103 : decode cX6_walkerComes 103 = .ok (.dup, 1) := dbm_48.1.1.2.1
theorem dX6_walkerComes_104 : decode cX6_walkerComes 104 = .ok (.getfield 92, 3) := dbm_48.1.1.2.2
theorem dX6_walkerComes_107 : decode cX6_walkerComes 107 = .ok (.iconst 1, 1) := dbm_48.1.2.1.1
theorem dX6_walkerComes_108 : decode cX6_walkerComes 108 = .ok (.iadd, 1) := dbm_48.1.2.1.2
theorem dX6_walkerComes_109 : decode cX6_walkerComes 109 = .ok (.putfield 92, 3) := dbm_48.1.2.2.1
theorem dX6_walkerComes_112 : decode cX6_walkerComes 112 = .ok (.iload 4, 2) := dbm_48.1.2.2.2
theorem dX6_walkerComes_114 : decode cX6_walkerComes 114 = .ok (.ireturn, 1) := dbm_48.2.1.1.1
theorem dX6_feed_0 : decode cX6_feed 0 = .ok (.aload_n 0, 1) := dbm_48.2.1.1.2
theorem dX6_feed_1 : decode cX6_feed 1 = .ok (.iconst 0, 1) := dbm_48.2.1.2.1
theorem dX6_feed_2 : decode cX6_feed 2 = .ok (.putfield 79, 3) := dbm_48.2.1.2.2
theorem dX6_feed_5 : decode cX6_feed 5 = .ok (.iload_n 1, 1) := dbm_48.2.2.1.1
theorem dX6_feed_6 : decode cX6_feed 6 = .ok (.ifCond .ge 10, 3) := dbm_48.2.2.1.2
theorem dX6_feed_9 : decode cX6_feed 9 = .ok (.aload_n 0, 1) := dbm_48.2.2.2.1
theorem dX6_feed_10 : decode cX6_feed 10 = .ok (.bipush (-4), 2) := dbm_48.2.2.2.2
theorem dbm_49 : (((((decode cX6_feed 12 = .ok (.invokevirtual 143, 3)) ∧ (decode cX6_feed 15 = .ok (.ireturn, 1))) ∧ ((decode cX6_feed 16 = .ok (.iload_n 1, 1)) ∧ (decode cX6_feed 17 = .ok (.sipush 255, 3)))) ∧ (((decode cX6_feed 20 = .ok (.if_icmp .gt 12, 3)) ∧ (decode cX6_feed 23 = .ok (.aload_n 0, 1))) ∧ ((decode cX6_feed 24 = .ok (.getfield 146, 3)) ∧ (decode cX6_feed 27 = .ok (.bipush 96, 2))))) ∧ ((((decode cX6_feed 29 = .ok (.if_icmp .ne 10, 3)) ∧ (decode cX6_feed 32 = .ok (.aload_n 0, 1))) ∧ ((decode cX6_feed 33 = .ok (.bipush (-6), 2)) ∧ (decode cX6_feed 35 = .ok (.invokevirtual 143, 3)))) ∧ (((decode cX6_feed 38 = .ok (.ireturn, 1)) ∧ (decode cX6_feed 39 = .ok (.aload_n 0, 1))) ∧ ((decode cX6_feed 40 = .ok (.getfield 37, 3)) ∧ (decode cX6_feed 43 = .ok (.aload_n 0, 1)))))) := by decide +kernel
theorem dX6_feed_12 : decode cX6_feed 12 = .ok (.invokevirtual 143, 3) := dbm_49.1.1.1.1
theorem dX6_feed_15 : decode cX6_feed 15 = .ok (.ireturn, 1) := dbm_49.1.1.1.2
theorem dX6_feed_16 : decode cX6_feed 16 = .ok (.iload_n 1, 1) := dbm_49.1.1.2.1
theorem dX6_feed_17 : decode cX6_feed 17 = .ok (.sipush 255, 3) := dbm_49.1.1.2.2
theorem dX6_feed_20 : decode cX6_feed 20 = .ok (.if_icmp .gt 12, 3) := dbm_49.1.2.1.1
theorem dX6_feed_23 : decode cX6_feed 23 = .ok (.aload_n 0, 1) := dbm_49.1.2.1.2
theorem dX6_feed_24 : decode cX6_feed 24 = .ok (.getfield 146, 3) := dbm_49.1.2.2.1
theorem dX6_feed_27 : decode cX6_feed 27 = .ok (.bipush 96, 2) := dbm_49.1.2.2.2
theorem dX6_feed_29 : decode cX6_feed 29 = .ok (.if_icmp .ne 10, 3) := dbm_49.2.1.1.1
theorem dX6_feed_32 : decode cX6_feed 32 = .ok (.aload_n 0, 1) := dbm_49.2.1.1.2
theorem dX6_feed_33 : decode cX6_feed 33 = .ok (.bipush (-6), 2) := dbm_49.2.1.2.1
theorem dX6_feed_35 : decode cX6_feed 35 = .ok (.invokevirtual 143, 3) := dbm_49.2.1.2.2
theorem dX6_feed_38 : decode cX6_feed 38 = .ok (.ireturn, 1) := dbm_49.2.2.1.1
theorem dX6_feed_39 : decode cX6_feed 39 = .ok (.aload_n 0, 1) := dbm_49.2.2.1.2
theorem dX6_feed_40 : decode cX6_feed 40 = .ok (.getfield 37, 3) := dbm_49.2.2.2.1
theorem dX6_feed_43 : decode cX6_feed 43 = .ok (.aload_n 0, 1) := dbm_49.2.2.2.2
theorem dbm_50 : (((((decode cX6_feed 44 = .ok (.getfield 146, 3)) ∧ (decode cX6_feed 47 = .ok (.iload_n 1, 1))) ∧ ((decode cX6_feed 48 = .ok (.iastore, 1)) ∧ (decode cX6_feed 49 = .ok (.aload_n 0, 1)))) ∧ (((decode cX6_feed 50 = .ok (.dup, 1)) ∧ (decode cX6_feed 51 = .ok (.getfield 146, 3))) ∧ ((decode cX6_feed 54 = .ok (.iconst 1, 1)) ∧ (decode cX6_feed 55 = .ok (.iadd, 1))))) ∧ ((((decode cX6_feed 56 = .ok (.putfield 146, 3)) ∧ (decode cX6_feed 59 = .ok (.aload_n 0, 1))) ∧ ((decode cX6_feed 60 = .ok (.getfield 146, 3)) ∧ (decode cX6_feed 63 = .ok (.ireturn, 1)))) ∧ (((decode cX6_here 0 = .ok (.aload_n 0, 1)) ∧ (decode cX6_here 1 = .ok (.getfield 149, 3))) ∧ ((decode cX6_here 4 = .ok (.aload_n 0, 1)) ∧ (decode cX6_here 5 = .ok (.getfield 146, 3)))))) := by decide +kernel
theorem dX6_feed_44 : decode cX6_feed 44 = .ok (.getfield 146, 3) := dbm_50.1.1.1.1
theorem dX6_feed_47 : decode cX6_feed 47 = .ok (.iload_n 1, 1) := dbm_50.1.1.1.2
theorem dX6_feed_48 : decode cX6_feed 48 = .ok (.iastore, 1) := dbm_50.1.1.2.1
theorem dX6_feed_49 : decode cX6_feed 49 = .ok (.aload_n 0, 1) := dbm_50.1.1.2.2
theorem dX6_feed_50 : decode cX6_feed 50 = .ok (.dup, 1) := dbm_50.1.2.1.1
theorem dX6_feed_51 : decode cX6_feed 51 = .ok (.getfield 146, 3) := dbm_50.1.2.1.2
theorem dX6_feed_54 : decode cX6_feed 54 = .ok (.iconst 1, 1) := dbm_50.1.2.2.1
theorem dX6_feed_55 : decode cX6_feed 55 = .ok (.iadd, 1) := dbm_50.1.2.2.2
theorem dX6_feed_56 : decode cX6_feed 56 = .ok (.putfield 146, 3) := dbm_50.2.1.1.1
theorem dX6_feed_59 : decode cX6_feed 59 = .ok (.aload_n 0, 1) := dbm_50.2.1.1.2
theorem dX6_feed_60 : decode cX6_feed 60 = .ok (.getfield 146, 3) := dbm_50.2.1.2.1
theorem dX6_feed_63 : decode cX6_feed 63 = .ok (.ireturn, 1) := dbm_50.2.1.2.2
theorem dX6_here_0 : decode cX6_here 0 = .ok (.aload_n 0, 1) := dbm_50.2.2.1.1
theorem dX6_here_1 : decode cX6_here 1 = .ok (.getfield 149, 3) := dbm_50.2.2.1.2
theorem dX6_here_4 : decode cX6_here 4 = .ok (.aload_n 0, 1) := dbm_50.2.2.2.1
theorem dX6_here_5 : decode cX6_here 5 = .ok (.getfield 146, 3) := dbm_50.2.2.2.2
theorem dbm_51 : (((((decode cX6_here 8 = .ok (.if_icmp .ge 15, 3)) ∧ (decode cX6_here 11 = .ok (.aload_n 0, 1))) ∧ ((decode cX6_here 12 = .ok (.getfield 37, 3)) ∧ (decode cX6_here 15 = .ok (.aload_n 0, 1)))) ∧ (((decode cX6_here 16 = .ok (.getfield 149, 3)) ∧ (decode cX6_here 19 = .ok (.iaload, 1))) ∧ ((decode cX6_here 20 = .ok (.goto 4, 3)) ∧ (decode cX6_here 23 = .ok (.iconst (-1), 1))))) ∧ ((((decode cX6_here 24 = .ok (.ireturn, 1)) ∧ (decode cX6_readDigits 0 = .ok (.iconst 0, 1))) ∧ ((decode cX6_readDigits 1 = .ok (.istore_n 2, 1)) ∧ (decode cX6_readDigits 2 = .ok (.iconst 0, 1)))) ∧ (((decode cX6_readDigits 3 = .ok (.istore_n 3, 1)) ∧ (decode cX6_readDigits 4 = .ok (.iload_n 3, 1))) ∧ ((decode cX6_readDigits 5 = .ok (.iload_n 1, 1)) ∧ (decode cX6_readDigits 6 = .ok (.if_icmp .ge 92, 3)))))) := by decide +kernel
theorem dX6_here_8 : decode cX6_here 8 = .ok (.if_icmp .ge 15, 3) := dbm_51.1.1.1.1
theorem dX6_here_11 : decode cX6_here 11 = .ok (.aload_n 0, 1) := dbm_51.1.1.1.2
theorem dX6_here_12 : decode cX6_here 12 = .ok (.getfield 37, 3) := dbm_51.1.1.2.1
theorem dX6_here_15 : decode cX6_here 15 = .ok (.aload_n 0, 1) := dbm_51.1.1.2.2
theorem dX6_here_16 : decode cX6_here 16 = .ok (.getfield 149, 3) := dbm_51.1.2.1.1
theorem dX6_here_19 : decode cX6_here 19 = .ok (.iaload, 1) := dbm_51.1.2.1.2
theorem dX6_here_20 : decode cX6_here 20 = .ok (.goto 4, 3) := dbm_51.1.2.2.1
theorem dX6_here_23 : decode cX6_here 23 = .ok (.iconst (-1), 1) := dbm_51.1.2.2.2
theorem dX6_here_24 : decode cX6_here 24 = .ok (.ireturn, 1) := dbm_51.2.1.1.1
theorem dX6_readDigits_0 : decode cX6_readDigits 0 = .ok (.iconst 0, 1) := dbm_51.2.1.1.2
theorem dX6_readDigits_1 : decode cX6_readDigits 1 = .ok (.istore_n 2, 1) := dbm_51.2.1.2.1
theorem dX6_readDigits_2 : decode cX6_readDigits 2 = .ok (.iconst 0, 1) := dbm_51.2.1.2.2
theorem dX6_readDigits_3 : decode cX6_readDigits 3 = .ok (.istore_n 3, 1) := dbm_51.2.2.1.1
theorem dX6_readDigits_4 : decode cX6_readDigits 4 = .ok (.iload_n 3, 1) := dbm_51.2.2.1.2
theorem dX6_readDigits_5 : decode cX6_readDigits 5 = .ok (.iload_n 1, 1) := dbm_51.2.2.2.1
theorem dX6_readDigits_6 : decode cX6_readDigits 6 = .ok (.if_icmp .ge 92, 3) := dbm_51.2.2.2.2
theorem dbm_52 : (((((decode cX6_readDigits 9 = .ok (.aload_n 0, 1)) ∧ (decode cX6_readDigits 10 = .ok (.aload_n 0, 1))) ∧ ((decode cX6_readDigits 11 = .ok (.getfield 152, 3)) ∧ (decode cX6_readDigits 14 = .ok (.ifCond .ne 20, 3)))) ∧ (((decode cX6_readDigits 17 = .ok (.aload_n 0, 1)) ∧ (decode cX6_readDigits 18 = .ok (.invokevirtual 156, 3))) ∧ ((decode cX6_readDigits 21 = .ok (.i2l, 1)) ∧ (decode cX6_readDigits 22 = .ok (.ldc2_w 83, 3))))) ∧ ((((decode cX6_readDigits 25 = .ok (.ldc2_w 160, 3)) ∧ (decode cX6_readDigits 28 = .ok (.invokestatic 85, 3))) ∧ ((decode cX6_readDigits 31 = .ok (.ifCond .ne 7, 3)) ∧ (decode cX6_readDigits 34 = .ok (.iconst 1, 1)))) ∧ (((decode cX6_readDigits 35 = .ok (.goto 4, 3)) ∧ (decode cX6_readDigits 38 = .ok (.iconst 0, 1))) ∧ ((decode cX6_readDigits 39 = .ok (.putfield 152, 3)) ∧ (decode cX6_readDigits 42 = .ok (.aload_n 0, 1)))))) := by decide +kernel
theorem dX6_readDigits_9 : decode cX6_readDigits 9 = .ok (.aload_n 0, 1) := dbm_52.1.1.1.1
theorem dX6_readDigits_10 : decode cX6_readDigits 10 = .ok (.aload_n 0, 1) := dbm_52.1.1.1.2
theorem dX6_readDigits_11 : decode cX6_readDigits 11 = .ok (.getfield 152, 3) := dbm_52.1.1.2.1
theorem dX6_readDigits_14 : decode cX6_readDigits 14 = .ok (.ifCond .ne 20, 3) := dbm_52.1.1.2.2
theorem dX6_readDigits_17 : decode cX6_readDigits 17 = .ok (.aload_n 0, 1) := dbm_52.1.2.1.1
theorem dX6_readDigits_18 : decode cX6_readDigits 18 = .ok (.invokevirtual 156, 3) := dbm_52.1.2.1.2
theorem dX6_readDigits_21 : decode cX6_readDigits 21 = .ok (.i2l, 1) := dbm_52.1.2.2.1
theorem dX6_readDigits_22 : decode cX6_readDigits 22 = .ok (.ldc2_w 83, 3) := dbm_52.1.2.2.2
theorem dX6_readDigits_25 : decode cX6_readDigits 25 = .ok (.ldc2_w 160, 3) := dbm_52.2.1.1.1
theorem dX6_readDigits_28 : decode cX6_readDigits 28 = .ok (.invokestatic 85, 3) := dbm_52.2.1.1.2
theorem dX6_readDigits_31 : decode cX6_readDigits 31 = .ok (.ifCond .ne 7, 3) := dbm_52.2.1.2.1
theorem dX6_readDigits_34 : decode cX6_readDigits 34 = .ok (.iconst 1, 1) := dbm_52.2.1.2.2
theorem dX6_readDigits_35 : decode cX6_readDigits 35 = .ok (.goto 4, 3) := dbm_52.2.2.1.1
theorem dX6_readDigits_38 : decode cX6_readDigits 38 = .ok (.iconst 0, 1) := dbm_52.2.2.1.2
theorem dX6_readDigits_39 : decode cX6_readDigits 39 = .ok (.putfield 152, 3) := dbm_52.2.2.2.1
theorem dX6_readDigits_42 : decode cX6_readDigits 42 = .ok (.aload_n 0, 1) := dbm_52.2.2.2.2
theorem dbm_53 : (((((decode cX6_readDigits 43 = .ok (.getfield 152, 3)) ∧ (decode cX6_readDigits 46 = .ok (.ifCond .eq 7, 3))) ∧ ((decode cX6_readDigits 49 = .ok (.iconst 0, 1)) ∧ (decode cX6_readDigits 50 = .ok (.goto 20, 3)))) ∧ (((decode cX6_readDigits 53 = .ok (.bipush 10, 2)) ∧ (decode cX6_readDigits 55 = .ok (.iload_n 2, 1))) ∧ ((decode cX6_readDigits 56 = .ok (.imul, 1)) ∧ (decode cX6_readDigits 57 = .ok (.aload_n 0, 1))))) ∧ ((((decode cX6_readDigits 58 = .ok (.getfield 37, 3)) ∧ (decode cX6_readDigits 61 = .ok (.aload_n 0, 1))) ∧ ((decode cX6_readDigits 62 = .ok (.getfield 149, 3)) ∧ (decode cX6_readDigits 65 = .ok (.iaload, 1)))) ∧ (((decode cX6_readDigits 66 = .ok (.iadd, 1)) ∧ (decode cX6_readDigits 67 = .ok (.bipush 48, 2))) ∧ ((decode cX6_readDigits 69 = .ok (.isub, 1)) ∧ (decode cX6_readDigits 70 = .ok (.istore_n 2, 1)))))) := by decide +kernel
theorem dX6_readDigits_43 : decode cX6_readDigits 43 = .ok (.getfield 152, 3) := dbm_53.1.1.1.1
theorem dX6_readDigits_46 : decode cX6_readDigits 46 = .ok (.ifCond .eq 7, 3) := dbm_53.1.1.1.2
theorem dX6_readDigits_49 : decode cX6_readDigits 49 = .ok (.iconst 0, 1) := dbm_53.1.1.2.1
theorem dX6_readDigits_50 : decode cX6_readDigits 50 = .ok (.goto 20, 3) := dbm_53.1.1.2.2
theorem dX6_readDigits_53 : decode cX6_readDigits 53 = .ok (.bipush 10, 2) := dbm_53.1.2.1.1
theorem dX6_readDigits_55 : decode cX6_readDigits 55 = .ok (.iload_n 2, 1) := dbm_53.1.2.1.2
theorem dX6_readDigits_56 : decode cX6_readDigits 56 = .ok (.imul, 1) := dbm_53.1.2.2.1
theorem dX6_readDigits_57 : decode cX6_readDigits 57 = .ok (.aload_n 0, 1) := dbm_53.1.2.2.2
theorem dX6_readDigits_58 : decode cX6_readDigits 58 = .ok (.getfield 37, 3) := dbm_53.2.1.1.1
theorem dX6_readDigits_61 : decode cX6_readDigits 61 = .ok (.aload_n 0, 1) := dbm_53.2.1.1.2
theorem dX6_readDigits_62 : decode cX6_readDigits 62 = .ok (.getfield 149, 3) := dbm_53.2.1.2.1
theorem dX6_readDigits_65 : decode cX6_readDigits 65 = .ok (.iaload, 1) := dbm_53.2.1.2.2
theorem dX6_readDigits_66 : decode cX6_readDigits 66 = .ok (.iadd, 1) := dbm_53.2.2.1.1
theorem dX6_readDigits_67 : decode cX6_readDigits 67 = .ok (.bipush 48, 2) := dbm_53.2.2.1.2
theorem dX6_readDigits_69 : decode cX6_readDigits 69 = .ok (.isub, 1) := dbm_53.2.2.2.1
theorem dX6_readDigits_70 : decode cX6_readDigits 70 = .ok (.istore_n 2, 1) := dbm_53.2.2.2.2
theorem dbm_54 : (((((decode cX6_readDigits 71 = .ok (.aload_n 0, 1)) ∧ (decode cX6_readDigits 72 = .ok (.dup, 1))) ∧ ((decode cX6_readDigits 73 = .ok (.getfield 149, 3)) ∧ (decode cX6_readDigits 76 = .ok (.aload_n 0, 1)))) ∧ (((decode cX6_readDigits 77 = .ok (.getfield 152, 3)) ∧ (decode cX6_readDigits 80 = .ok (.ifCond .eq 7, 3))) ∧ ((decode cX6_readDigits 83 = .ok (.iconst 0, 1)) ∧ (decode cX6_readDigits 84 = .ok (.goto 4, 3))))) ∧ ((((decode cX6_readDigits 87 = .ok (.iconst 1, 1)) ∧ (decode cX6_readDigits 88 = .ok (.iadd, 1))) ∧ ((decode cX6_readDigits 89 = .ok (.putfield 149, 3)) ∧ (decode cX6_readDigits 92 = .ok (.iinc 3 1, 3)))) ∧ (((decode cX6_readDigits 95 = .ok (.goto (-91), 3)) ∧ (decode cX6_readDigits 98 = .ok (.iload_n 2, 1))) ∧ ((decode cX6_readDigits 99 = .ok (.ireturn, 1)) ∧ (decode cX6_isLetter 0 = .ok (.iload_n 0, 1)))))) := by decide +kernel
theorem dX6_readDigits_71 : decode cX6_readDigits 71 = .ok (.aload_n 0, 1) := dbm_54.1.1.1.1
theorem dX6_readDigits_72 : decode cX6_readDigits 72 = .ok (.dup, 1) := dbm_54.1.1.1.2
theorem dX6_readDigits_73 : decode cX6_readDigits 73 = .ok (.getfield 149, 3) := dbm_54.1.1.2.1
theorem dX6_readDigits_76 : decode cX6_readDigits 76 = .ok (.aload_n 0, 1) := dbm_54.1.1.2.2
theorem dX6_readDigits_77 : decode cX6_readDigits 77 = .ok (.getfield 152, 3) := dbm_54.1.2.1.1
theorem dX6_readDigits_80 : decode cX6_readDigits 80 = .ok (.ifCond .eq 7, 3) := dbm_54.1.2.1.2
theorem dX6_readDigits_83 : decode cX6_readDigits 83 = .ok (.iconst 0, 1) := dbm_54.1.2.2.1
theorem dX6_readDigits_84 : decode cX6_readDigits 84 = .ok (.goto 4, 3) := dbm_54.1.2.2.2
theorem dX6_readDigits_87 : decode cX6_readDigits 87 = .ok (.iconst 1, 1) := dbm_54.2.1.1.1
theorem dX6_readDigits_88 : decode cX6_readDigits 88 = .ok (.iadd, 1) := dbm_54.2.1.1.2
theorem dX6_readDigits_89 : decode cX6_readDigits 89 = .ok (.putfield 149, 3) := dbm_54.2.1.2.1
theorem dX6_readDigits_92 : decode cX6_readDigits 92 = .ok (.iinc 3 1, 3) := dbm_54.2.1.2.2
theorem dX6_readDigits_95 : decode cX6_readDigits 95 = .ok (.goto (-91), 3) := dbm_54.2.2.1.1
theorem dX6_readDigits_98 : decode cX6_readDigits 98 = .ok (.iload_n 2, 1) := dbm_54.2.2.1.2
theorem dX6_readDigits_99 : decode cX6_readDigits 99 = .ok (.ireturn, 1) := dbm_54.2.2.2.1
theorem dX6_isLetter_0 : decode cX6_isLetter 0 = .ok (.iload_n 0, 1) := dbm_54.2.2.2.2
theorem dbm_55 : (((((decode cX6_isLetter 1 = .ok (.bipush 104, 2)) ∧ (decode cX6_isLetter 3 = .ok (.if_icmp .eq 33, 3))) ∧ ((decode cX6_isLetter 6 = .ok (.iload_n 0, 1)) ∧ (decode cX6_isLetter 7 = .ok (.bipush 119, 2)))) ∧ (((decode cX6_isLetter 9 = .ok (.if_icmp .eq 27, 3)) ∧ (decode cX6_isLetter 12 = .ok (.iload_n 0, 1))) ∧ ((decode cX6_isLetter 13 = .ok (.bipush 108, 2)) ∧ (decode cX6_isLetter 15 = .ok (.if_icmp .eq 21, 3))))) ∧ ((((decode cX6_isLetter 18 = .ok (.iload_n 0, 1)) ∧ (decode cX6_isLetter 19 = .ok (.bipush 103, 2))) ∧ ((decode cX6_isLetter 21 = .ok (.if_icmp .eq 15, 3)) ∧ (decode cX6_isLetter 24 = .ok (.iload_n 0, 1)))) ∧ (((decode cX6_isLetter 25 = .ok (.bipush 111, 2)) ∧ (decode cX6_isLetter 27 = .ok (.if_icmp .eq 9, 3))) ∧ ((decode cX6_isLetter 30 = .ok (.iload_n 0, 1)) ∧ (decode cX6_isLetter 31 = .ok (.bipush 101, 2)))))) := by decide +kernel
theorem dX6_isLetter_1 : decode cX6_isLetter 1 = .ok (.bipush 104, 2) := dbm_55.1.1.1.1
theorem dX6_isLetter_3 : decode cX6_isLetter 3 = .ok (.if_icmp .eq 33, 3) := dbm_55.1.1.1.2
theorem dX6_isLetter_6 : decode cX6_isLetter 6 = .ok (.iload_n 0, 1) := dbm_55.1.1.2.1
theorem dX6_isLetter_7 : decode cX6_isLetter 7 = .ok (.bipush 119, 2) := dbm_55.1.1.2.2
theorem dX6_isLetter_9 : decode cX6_isLetter 9 = .ok (.if_icmp .eq 27, 3) := dbm_55.1.2.1.1
theorem dX6_isLetter_12 : decode cX6_isLetter 12 = .ok (.iload_n 0, 1) := dbm_55.1.2.1.2
theorem dX6_isLetter_13 : decode cX6_isLetter 13 = .ok (.bipush 108, 2) := dbm_55.1.2.2.1
theorem dX6_isLetter_15 : decode cX6_isLetter 15 = .ok (.if_icmp .eq 21, 3) := dbm_55.1.2.2.2
theorem dX6_isLetter_18 : decode cX6_isLetter 18 = .ok (.iload_n 0, 1) := dbm_55.2.1.1.1
theorem dX6_isLetter_19 : decode cX6_isLetter 19 = .ok (.bipush 103, 2) := dbm_55.2.1.1.2
theorem dX6_isLetter_21 : decode cX6_isLetter 21 = .ok (.if_icmp .eq 15, 3) := dbm_55.2.1.2.1
theorem dX6_isLetter_24 : decode cX6_isLetter 24 = .ok (.iload_n 0, 1) := dbm_55.2.1.2.2
theorem dX6_isLetter_25 : decode cX6_isLetter 25 = .ok (.bipush 111, 2) := dbm_55.2.2.1.1
theorem dX6_isLetter_27 : decode cX6_isLetter 27 = .ok (.if_icmp .eq 9, 3) := dbm_55.2.2.1.2
theorem dX6_isLetter_30 : decode cX6_isLetter 30 = .ok (.iload_n 0, 1) := dbm_55.2.2.2.1
theorem dX6_isLetter_31 : decode cX6_isLetter 31 = .ok (.bipush 101, 2) := dbm_55.2.2.2.2
theorem dbm_56 : (((((decode cX6_isLetter 33 = .ok (.if_icmp .ne 7, 3)) ∧ (decode cX6_isLetter 36 = .ok (.iconst 1, 1))) ∧ ((decode cX6_isLetter 37 = .ok (.goto 4, 3)) ∧ (decode cX6_isLetter 40 = .ok (.iconst 0, 1)))) ∧ (((decode cX6_isLetter 41 = .ok (.ireturn, 1)) ∧ (decode cX6_readNumbers 0 = .ok (.aload_n 0, 1))) ∧ ((decode cX6_readNumbers 1 = .ok (.getfield 46, 3)) ∧ (decode cX6_readNumbers 4 = .ok (.iload_n 2, 1))))) ∧ ((((decode cX6_readNumbers 5 = .ok (.aload_n 0, 1)) ∧ (decode cX6_readNumbers 6 = .ok (.iload_n 1, 1))) ∧ ((decode cX6_readNumbers 7 = .ok (.bipush 119, 2)) ∧ (decode cX6_readNumbers 9 = .ok (.if_icmp .eq 9, 3)))) ∧ (((decode cX6_readNumbers 12 = .ok (.iload_n 1, 1)) ∧ (decode cX6_readNumbers 13 = .ok (.bipush 101, 2))) ∧ ((decode cX6_readNumbers 15 = .ok (.if_icmp .ne 7, 3)) ∧ (decode cX6_readNumbers 18 = .ok (.iconst 2, 1)))))) := by decide +kernel
theorem dX6_isLetter_33 : decode cX6_isLetter 33 = .ok (.if_icmp .ne 7, 3) := dbm_56.1.1.1.1
theorem dX6_isLetter_36 : decode cX6_isLetter 36 = .ok (.iconst 1, 1) := dbm_56.1.1.1.2
theorem dX6_isLetter_37 : decode cX6_isLetter 37 = .ok (.goto 4, 3) := dbm_56.1.1.2.1
theorem dX6_isLetter_40 : decode cX6_isLetter 40 = .ok (.iconst 0, 1) := dbm_56.1.1.2.2
theorem dX6_isLetter_41 : decode cX6_isLetter 41 = .ok (.ireturn, 1) := dbm_56.1.2.1.1
theorem dX6_readNumbers_0 : decode cX6_readNumbers 0 = .ok (.aload_n 0, 1) := dbm_56.1.2.1.2
theorem dX6_readNumbers_1 : decode cX6_readNumbers 1 = .ok (.getfield 46, 3) := dbm_56.1.2.2.1
theorem dX6_readNumbers_4 : decode cX6_readNumbers 4 = .ok (.iload_n 2, 1) := dbm_56.1.2.2.2
theorem dX6_readNumbers_5 : decode cX6_readNumbers 5 = .ok (.aload_n 0, 1) := dbm_56.2.1.1.1
theorem dX6_readNumbers_6 : decode cX6_readNumbers 6 = .ok (.iload_n 1, 1) := dbm_56.2.1.1.2
theorem dX6_readNumbers_7 : decode cX6_readNumbers 7 = .ok (.bipush 119, 2) := dbm_56.2.1.2.1
theorem dX6_readNumbers_9 : decode cX6_readNumbers 9 = .ok (.if_icmp .eq 9, 3) := dbm_56.2.1.2.2
theorem dX6_readNumbers_12 : decode cX6_readNumbers 12 = .ok (.iload_n 1, 1) := dbm_56.2.2.1.1
theorem dX6_readNumbers_13 : decode cX6_readNumbers 13 = .ok (.bipush 101, 2) := dbm_56.2.2.1.2
theorem dX6_readNumbers_15 : decode cX6_readNumbers 15 = .ok (.if_icmp .ne 7, 3) := dbm_56.2.2.2.1
theorem dX6_readNumbers_18 : decode cX6_readNumbers 18 = .ok (.iconst 2, 1) := dbm_56.2.2.2.2
theorem dbm_57 : (((((decode cX6_readNumbers 19 = .ok (.goto 4, 3)) ∧ (decode cX6_readNumbers 22 = .ok (.iconst 1, 1))) ∧ ((decode cX6_readNumbers 23 = .ok (.invokevirtual 162, 3)) ∧ (decode cX6_readNumbers 26 = .ok (.iastore, 1)))) ∧ (((decode cX6_readNumbers 27 = .ok (.iload_n 1, 1)) ∧ (decode cX6_readNumbers 28 = .ok (.bipush 104, 2))) ∧ ((decode cX6_readNumbers 30 = .ok (.if_icmp .ne 32, 3)) ∧ (decode cX6_readNumbers 33 = .ok (.aload_n 0, 1))))) ∧ ((((decode cX6_readNumbers 34 = .ok (.getfield 46, 3)) ∧ (decode cX6_readNumbers 37 = .ok (.iload_n 2, 1))) ∧ ((decode cX6_readNumbers 38 = .ok (.iconst 1, 1)) ∧ (decode cX6_readNumbers 39 = .ok (.iadd, 1)))) ∧ (((decode cX6_readNumbers 40 = .ok (.aload_n 0, 1)) ∧ (decode cX6_readNumbers 41 = .ok (.iconst 1, 1))) ∧ ((decode cX6_readNumbers 42 = .ok (.invokevirtual 162, 3)) ∧ (decode cX6_readNumbers 45 = .ok (.iastore, 1)))))) := by decide +kernel
theorem dX6_readNumbers_19 : decode cX6_readNumbers 19 = .ok (.goto 4, 3) := dbm_57.1.1.1.1
theorem dX6_readNumbers_22 : decode cX6_readNumbers 22 = .ok (.iconst 1, 1) := dbm_57.1.1.1.2
theorem dX6_readNumbers_23 : decode cX6_readNumbers 23 = .ok (.invokevirtual 162, 3) := dbm_57.1.1.2.1
theorem dX6_readNumbers_26 : decode cX6_readNumbers 26 = .ok (.iastore, 1) := dbm_57.1.1.2.2
theorem dX6_readNumbers_27 : decode cX6_readNumbers 27 = .ok (.iload_n 1, 1) := dbm_57.1.2.1.1
theorem dX6_readNumbers_28 : decode cX6_readNumbers 28 = .ok (.bipush 104, 2) := dbm_57.1.2.1.2
theorem dX6_readNumbers_30 : decode cX6_readNumbers 30 = .ok (.if_icmp .ne 32, 3) := dbm_57.1.2.2.1
theorem dX6_readNumbers_33 : decode cX6_readNumbers 33 = .ok (.aload_n 0, 1) := dbm_57.1.2.2.2
theorem dX6_readNumbers_34 : decode cX6_readNumbers 34 = .ok (.getfield 46, 3) := dbm_57.2.1.1.1
theorem dX6_readNumbers_37 : decode cX6_readNumbers 37 = .ok (.iload_n 2, 1) := dbm_57.2.1.1.2
theorem dX6_readNumbers_38 : decode cX6_readNumbers 38 = .ok (.iconst 1, 1) := dbm_57.2.1.2.1
theorem dX6_readNumbers_39 : decode cX6_readNumbers 39 = .ok (.iadd, 1) := dbm_57.2.1.2.2
theorem dX6_readNumbers_40 : decode cX6_readNumbers 40 = .ok (.aload_n 0, 1) := dbm_57.2.2.1.1
theorem dX6_readNumbers_41 : decode cX6_readNumbers 41 = .ok (.iconst 1, 1) := dbm_57.2.2.1.2
theorem dX6_readNumbers_42 : decode cX6_readNumbers 42 = .ok (.invokevirtual 162, 3) := dbm_57.2.2.2.1
theorem dX6_readNumbers_45 : decode cX6_readNumbers 45 = .ok (.iastore, 1) := dbm_57.2.2.2.2
theorem dbm_58 : (((((decode cX6_readNumbers 46 = .ok (.aload_n 0, 1)) ∧ (decode cX6_readNumbers 47 = .ok (.getfield 46, 3))) ∧ ((decode cX6_readNumbers 50 = .ok (.iload_n 2, 1)) ∧ (decode cX6_readNumbers 51 = .ok (.iconst 2, 1)))) ∧ (((decode cX6_readNumbers 52 = .ok (.iadd, 1)) ∧ (decode cX6_readNumbers 53 = .ok (.aload_n 0, 1))) ∧ ((decode cX6_readNumbers 54 = .ok (.iconst 2, 1)) ∧ (decode cX6_readNumbers 55 = .ok (.invokevirtual 162, 3))))) ∧ ((((decode cX6_readNumbers 58 = .ok (.iastore, 1)) ∧ (decode cX6_readNumbers 59 = .ok (.goto 79, 3))) ∧ ((decode cX6_readNumbers 62 = .ok (.iload_n 1, 1)) ∧ (decode cX6_readNumbers 63 = .ok (.bipush 119, 2)))) ∧ (((decode cX6_readNumbers 65 = .ok (.if_icmp .ne 32, 3)) ∧ (decode cX6_readNumbers 68 = .ok (.aload_n 0, 1))) ∧ ((decode cX6_readNumbers 69 = .ok (.getfield 46, 3)) ∧ (decode cX6_readNumbers 72 = .ok (.iload_n 2, 1)))))) := by decide +kernel
theorem dX6_readNumbers_46 : decode cX6_readNumbers 46 = .ok (.aload_n 0, 1) := dbm_58.1.1.1.1
theorem dX6_readNumbers_47 : decode cX6_readNumbers 47 = .ok (.getfield 46, 3) := dbm_58.1.1.1.2
theorem dX6_readNumbers_50 : decode cX6_readNumbers 50 = .ok (.iload_n 2, 1) := dbm_58.1.1.2.1
theorem dX6_readNumbers_51 : decode cX6_readNumbers 51 = .ok (.iconst 2, 1) := dbm_58.1.1.2.2
theorem dX6_readNumbers_52 : decode cX6_readNumbers 52 = .ok (.iadd, 1) := dbm_58.1.2.1.1
theorem dX6_readNumbers_53 : decode cX6_readNumbers 53 = .ok (.aload_n 0, 1) := dbm_58.1.2.1.2
theorem dX6_readNumbers_54 : decode cX6_readNumbers 54 = .ok (.iconst 2, 1) := dbm_58.1.2.2.1
theorem dX6_readNumbers_55 : decode cX6_readNumbers 55 = .ok (.invokevirtual 162, 3) := dbm_58.1.2.2.2
theorem dX6_readNumbers_58 : decode cX6_readNumbers 58 = .ok (.iastore, 1) := dbm_58.2.1.1.1
theorem dX6_readNumbers_59 : decode cX6_readNumbers 59 = .ok (.goto 79, 3) := dbm_58.2.1.1.2
theorem dX6_readNumbers_62 : decode cX6_readNumbers 62 = .ok (.iload_n 1, 1) := dbm_58.2.1.2.1
theorem dX6_readNumbers_63 : decode cX6_readNumbers 63 = .ok (.bipush 119, 2) := dbm_58.2.1.2.2
theorem dX6_readNumbers_65 : decode cX6_readNumbers 65 = .ok (.if_icmp .ne 32, 3) := dbm_58.2.2.1.1
theorem dX6_readNumbers_68 : decode cX6_readNumbers 68 = .ok (.aload_n 0, 1) := dbm_58.2.2.1.2
theorem dX6_readNumbers_69 : decode cX6_readNumbers 69 = .ok (.getfield 46, 3) := dbm_58.2.2.2.1
theorem dX6_readNumbers_72 : decode cX6_readNumbers 72 = .ok (.iload_n 2, 1) := dbm_58.2.2.2.2
theorem dbm_59 : (((((decode cX6_readNumbers 73 = .ok (.iconst 1, 1)) ∧ (decode cX6_readNumbers 74 = .ok (.iadd, 1))) ∧ ((decode cX6_readNumbers 75 = .ok (.aload_n 0, 1)) ∧ (decode cX6_readNumbers 76 = .ok (.iconst 2, 1)))) ∧ (((decode cX6_readNumbers 77 = .ok (.invokevirtual 162, 3)) ∧ (decode cX6_readNumbers 80 = .ok (.iastore, 1))) ∧ ((decode cX6_readNumbers 81 = .ok (.aload_n 0, 1)) ∧ (decode cX6_readNumbers 82 = .ok (.getfield 46, 3))))) ∧ ((((decode cX6_readNumbers 85 = .ok (.iload_n 2, 1)) ∧ (decode cX6_readNumbers 86 = .ok (.iconst 2, 1))) ∧ ((decode cX6_readNumbers 87 = .ok (.iadd, 1)) ∧ (decode cX6_readNumbers 88 = .ok (.aload_n 0, 1)))) ∧ (((decode cX6_readNumbers 89 = .ok (.iconst 1, 1)) ∧ (decode cX6_readNumbers 90 = .ok (.invokevirtual 162, 3))) ∧ ((decode cX6_readNumbers 93 = .ok (.iastore, 1)) ∧ (decode cX6_readNumbers 94 = .ok (.goto 44, 3)))))) := by decide +kernel
theorem dX6_readNumbers_73 : decode cX6_readNumbers 73 = .ok (.iconst 1, 1) := dbm_59.1.1.1.1
theorem dX6_readNumbers_74 : decode cX6_readNumbers 74 = .ok (.iadd, 1) := dbm_59.1.1.1.2
theorem dX6_readNumbers_75 : decode cX6_readNumbers 75 = .ok (.aload_n 0, 1) := dbm_59.1.1.2.1
theorem dX6_readNumbers_76 : decode cX6_readNumbers 76 = .ok (.iconst 2, 1) := dbm_59.1.1.2.2
theorem dX6_readNumbers_77 : decode cX6_readNumbers 77 = .ok (.invokevirtual 162, 3) := dbm_59.1.2.1.1
theorem dX6_readNumbers_80 : decode cX6_readNumbers 80 = .ok (.iastore, 1) := dbm_59.1.2.1.2
theorem dX6_readNumbers_81 : decode cX6_readNumbers 81 = .ok (.aload_n 0, 1) := dbm_59.1.2.2.1
theorem dX6_readNumbers_82 : decode cX6_readNumbers 82 = .ok (.getfield 46, 3) := dbm_59.1.2.2.2
theorem dX6_readNumbers_85 : decode cX6_readNumbers 85 = .ok (.iload_n 2, 1) := dbm_59.2.1.1.1
theorem dX6_readNumbers_86 : decode cX6_readNumbers 86 = .ok (.iconst 2, 1) := dbm_59.2.1.1.2
theorem dX6_readNumbers_87 : decode cX6_readNumbers 87 = .ok (.iadd, 1) := dbm_59.2.1.2.1
theorem dX6_readNumbers_88 : decode cX6_readNumbers 88 = .ok (.aload_n 0, 1) := dbm_59.2.1.2.2
theorem dX6_readNumbers_89 : decode cX6_readNumbers 89 = .ok (.iconst 1, 1) := dbm_59.2.2.1.1
theorem dX6_readNumbers_90 : decode cX6_readNumbers 90 = .ok (.invokevirtual 162, 3) := dbm_59.2.2.1.2
theorem dX6_readNumbers_93 : decode cX6_readNumbers 93 = .ok (.iastore, 1) := dbm_59.2.2.2.1
theorem dX6_readNumbers_94 : decode cX6_readNumbers 94 = .ok (.goto 44, 3) := dbm_59.2.2.2.2
theorem dbm_60 : (((((decode cX6_readNumbers 97 = .ok (.iload_n 1, 1)) ∧ (decode cX6_readNumbers 98 = .ok (.bipush 103, 2))) ∧ ((decode cX6_readNumbers 100 = .ok (.if_icmp .ne 19, 3)) ∧ (decode cX6_readNumbers 103 = .ok (.aload_n 0, 1)))) ∧ (((decode cX6_readNumbers 104 = .ok (.getfield 46, 3)) ∧ (decode cX6_readNumbers 107 = .ok (.iload_n 2, 1))) ∧ ((decode cX6_readNumbers 108 = .ok (.iconst 1, 1)) ∧ (decode cX6_readNumbers 109 = .ok (.iadd, 1))))) ∧ ((((decode cX6_readNumbers 110 = .ok (.aload_n 0, 1)) ∧ (decode cX6_readNumbers 111 = .ok (.iconst 2, 1))) ∧ ((decode cX6_readNumbers 112 = .ok (.invokevirtual 162, 3)) ∧ (decode cX6_readNumbers 115 = .ok (.iastore, 1)))) ∧ (((decode cX6_readNumbers 116 = .ok (.goto 22, 3)) ∧ (decode cX6_readNumbers 119 = .ok (.iload_n 1, 1))) ∧ ((decode cX6_readNumbers 120 = .ok (.bipush 111, 2)) ∧ (decode cX6_readNumbers 122 = .ok (.if_icmp .ne 16, 3)))))) := by decide +kernel
theorem dX6_readNumbers_97 : decode cX6_readNumbers 97 = .ok (.iload_n 1, 1) := dbm_60.1.1.1.1
theorem dX6_readNumbers_98 : decode cX6_readNumbers 98 = .ok (.bipush 103, 2) := dbm_60.1.1.1.2
theorem dX6_readNumbers_100 : decode cX6_readNumbers 100 = .ok (.if_icmp .ne 19, 3) := dbm_60.1.1.2.1
theorem dX6_readNumbers_103 : decode cX6_readNumbers 103 = .ok (.aload_n 0, 1) := dbm_60.1.1.2.2
theorem dX6_readNumbers_104 : decode cX6_readNumbers 104 = .ok (.getfield 46, 3) := dbm_60.1.2.1.1
theorem dX6_readNumbers_107 : decode cX6_readNumbers 107 = .ok (.iload_n 2, 1) := dbm_60.1.2.1.2
theorem dX6_readNumbers_108 : decode cX6_readNumbers 108 = .ok (.iconst 1, 1) := dbm_60.1.2.2.1
theorem dX6_readNumbers_109 : decode cX6_readNumbers 109 = .ok (.iadd, 1) := dbm_60.1.2.2.2
theorem dX6_readNumbers_110 : decode cX6_readNumbers 110 = .ok (.aload_n 0, 1) := dbm_60.2.1.1.1
theorem dX6_readNumbers_111 : decode cX6_readNumbers 111 = .ok (.iconst 2, 1) := dbm_60.2.1.1.2
theorem dX6_readNumbers_112 : decode cX6_readNumbers 112 = .ok (.invokevirtual 162, 3) := dbm_60.2.1.2.1
theorem dX6_readNumbers_115 : decode cX6_readNumbers 115 = .ok (.iastore, 1) := dbm_60.2.1.2.2
theorem dX6_readNumbers_116 : decode cX6_readNumbers 116 = .ok (.goto 22, 3) := dbm_60.2.2.1.1
theorem dX6_readNumbers_119 : decode cX6_readNumbers 119 = .ok (.iload_n 1, 1) := dbm_60.2.2.1.2
theorem dX6_readNumbers_120 : decode cX6_readNumbers 120 = .ok (.bipush 111, 2) := dbm_60.2.2.2.1
theorem dX6_readNumbers_122 : decode cX6_readNumbers 122 = .ok (.if_icmp .ne 16, 3) := dbm_60.2.2.2.2
theorem dbm_61 : (((((decode cX6_readNumbers 125 = .ok (.aload_n 0, 1)) ∧ (decode cX6_readNumbers 126 = .ok (.getfield 46, 3))) ∧ ((decode cX6_readNumbers 129 = .ok (.iload_n 2, 1)) ∧ (decode cX6_readNumbers 130 = .ok (.iconst 1, 1)))) ∧ (((decode cX6_readNumbers 131 = .ok (.iadd, 1)) ∧ (decode cX6_readNumbers 132 = .ok (.aload_n 0, 1))) ∧ ((decode cX6_readNumbers 133 = .ok (.iconst 1, 1)) ∧ (decode cX6_readNumbers 134 = .ok (.invokevirtual 162, 3))))) ∧ ((((decode cX6_readNumbers 137 = .ok (.iastore, 1)) ∧ (decode cX6_readNumbers 138 = .ok (.return_, 1))) ∧ ((decode cX6_readStatement 0 = .ok (.aload_n 0, 1)) ∧ (decode cX6_readStatement 1 = .ok (.getfield 165, 3)))) ∧ (((decode cX6_readStatement 4 = .ok (.istore_n 1, 1)) ∧ (decode cX6_readStatement 5 = .ok (.aload_n 0, 1))) ∧ ((decode cX6_readStatement 6 = .ok (.invokevirtual 156, 3)) ∧ (decode cX6_readStatement 9 = .ok (.istore_n 2, 1)))))) := by decide +kernel
theorem dX6_readNumbers_125 : decode cX6_readNumbers 125 = .ok (.aload_n 0, 1) := dbm_61.1.1.1.1
theorem dX6_readNumbers_126 : decode cX6_readNumbers 126 = .ok (.getfield 46, 3) := dbm_61.1.1.1.2
theorem dX6_readNumbers_129 : decode cX6_readNumbers 129 = .ok (.iload_n 2, 1) := dbm_61.1.1.2.1
theorem dX6_readNumbers_130 : decode cX6_readNumbers 130 = .ok (.iconst 1, 1) := dbm_61.1.1.2.2
theorem dX6_readNumbers_131 : decode cX6_readNumbers 131 = .ok (.iadd, 1) := dbm_61.1.2.1.1
theorem dX6_readNumbers_132 : decode cX6_readNumbers 132 = .ok (.aload_n 0, 1) := dbm_61.1.2.1.2
theorem dX6_readNumbers_133 : decode cX6_readNumbers 133 = .ok (.iconst 1, 1) := dbm_61.1.2.2.1
theorem dX6_readNumbers_134 : decode cX6_readNumbers 134 = .ok (.invokevirtual 162, 3) := dbm_61.1.2.2.2
theorem dX6_readNumbers_137 : decode cX6_readNumbers 137 = .ok (.iastore, 1) := dbm_61.2.1.1.1
theorem dX6_readNumbers_138 : decode cX6_readNumbers 138 = .ok (.return_, 1) := dbm_61.2.1.1.2
theorem dX6_readStatement_0 : decode cX6_readStatement 0 = .ok (.aload_n 0, 1) := dbm_61.2.1.2.1
theorem dX6_readStatement_1 : decode cX6_readStatement 1 = .ok (.getfield 165, 3) := dbm_61.2.1.2.2
theorem dX6_readStatement_4 : decode cX6_readStatement 4 = .ok (.istore_n 1, 1) := dbm_61.2.2.1.1
theorem dX6_readStatement_5 : decode cX6_readStatement 5 = .ok (.aload_n 0, 1) := dbm_61.2.2.1.2
theorem dX6_readStatement_6 : decode cX6_readStatement 6 = .ok (.invokevirtual 156, 3) := dbm_61.2.2.2.1
theorem dX6_readStatement_9 : decode cX6_readStatement 9 = .ok (.istore_n 2, 1) := dbm_61.2.2.2.2
theorem dbm_62 : (((((decode cX6_readStatement 10 = .ok (.aload_n 0, 1)) ∧ (decode cX6_readStatement 11 = .ok (.getfield 40, 3))) ∧ ((decode cX6_readStatement 14 = .ok (.iload_n 1, 1)) ∧ (decode cX6_readStatement 15 = .ok (.aload_n 0, 1)))) ∧ (((decode cX6_readStatement 16 = .ok (.getfield 149, 3)) ∧ (decode cX6_readStatement 19 = .ok (.iastore, 1))) ∧ ((decode cX6_readStatement 20 = .ok (.aload_n 0, 1)) ∧ (decode cX6_readStatement 21 = .ok (.getfield 43, 3))))) ∧ ((((decode cX6_readStatement 24 = .ok (.iload_n 1, 1)) ∧ (decode cX6_readStatement 25 = .ok (.iload_n 2, 1))) ∧ ((decode cX6_readStatement 26 = .ok (.iastore, 1)) ∧ (decode cX6_readStatement 27 = .ok (.aload_n 0, 1)))) ∧ (((decode cX6_readStatement 28 = .ok (.aload_n 0, 1)) ∧ (decode cX6_readStatement 29 = .ok (.getfield 152, 3))) ∧ ((decode cX6_readStatement 32 = .ok (.ifCond .ne 10, 3)) ∧ (decode cX6_readStatement 35 = .ok (.iload_n 2, 1)))))) := by decide +kernel
theorem dX6_readStatement_10 : decode cX6_readStatement 10 = .ok (.aload_n 0, 1) := dbm_62.1.1.1.1
theorem dX6_readStatement_11 : decode cX6_readStatement 11 = .ok (.getfield 40, 3) := dbm_62.1.1.1.2
theorem dX6_readStatement_14 : decode cX6_readStatement 14 = .ok (.iload_n 1, 1) := dbm_62.1.1.2.1
theorem dX6_readStatement_15 : decode cX6_readStatement 15 = .ok (.aload_n 0, 1) := dbm_62.1.1.2.2
theorem dX6_readStatement_16 : decode cX6_readStatement 16 = .ok (.getfield 149, 3) := dbm_62.1.2.1.1
theorem dX6_readStatement_19 : decode cX6_readStatement 19 = .ok (.iastore, 1) := dbm_62.1.2.1.2
theorem dX6_readStatement_20 : decode cX6_readStatement 20 = .ok (.aload_n 0, 1) := dbm_62.1.2.2.1
theorem dX6_readStatement_21 : decode cX6_readStatement 21 = .ok (.getfield 43, 3) := dbm_62.1.2.2.2
theorem dX6_readStatement_24 : decode cX6_readStatement 24 = .ok (.iload_n 1, 1) := dbm_62.2.1.1.1
theorem dX6_readStatement_25 : decode cX6_readStatement 25 = .ok (.iload_n 2, 1) := dbm_62.2.1.1.2
theorem dX6_readStatement_26 : decode cX6_readStatement 26 = .ok (.iastore, 1) := dbm_62.2.1.2.1
theorem dX6_readStatement_27 : decode cX6_readStatement 27 = .ok (.aload_n 0, 1) := dbm_62.2.1.2.2
theorem dX6_readStatement_28 : decode cX6_readStatement 28 = .ok (.aload_n 0, 1) := dbm_62.2.2.1.1
theorem dX6_readStatement_29 : decode cX6_readStatement 29 = .ok (.getfield 152, 3) := dbm_62.2.2.1.2
theorem dX6_readStatement_32 : decode cX6_readStatement 32 = .ok (.ifCond .ne 10, 3) := dbm_62.2.2.2.1
theorem dX6_readStatement_35 : decode cX6_readStatement 35 = .ok (.iload_n 2, 1) := dbm_62.2.2.2.2
theorem dbm_63 : (((((decode cX6_readStatement 36 = .ok (.invokestatic 168, 3)) ∧ (decode cX6_readStatement 39 = .ok (.ifCond .ne 7, 3))) ∧ ((decode cX6_readStatement 42 = .ok (.iconst 1, 1)) ∧ (decode cX6_readStatement 43 = .ok (.goto 4, 3)))) ∧ (((decode cX6_readStatement 46 = .ok (.iconst 0, 1)) ∧ (decode cX6_readStatement 47 = .ok (.putfield 152, 3))) ∧ ((decode cX6_readStatement 50 = .ok (.aload_n 0, 1)) ∧ (decode cX6_readStatement 51 = .ok (.dup, 1))))) ∧ ((((decode cX6_readStatement 52 = .ok (.getfield 149, 3)) ∧ (decode cX6_readStatement 55 = .ok (.aload_n 0, 1))) ∧ ((decode cX6_readStatement 56 = .ok (.getfield 152, 3)) ∧ (decode cX6_readStatement 59 = .ok (.ifCond .eq 7, 3)))) ∧ (((decode cX6_readStatement 62 = .ok (.iconst 0, 1)) ∧ (decode cX6_readStatement 63 = .ok (.goto 4, 3))) ∧ ((decode cX6_readStatement 66 = .ok (.iconst 1, 1)) ∧ (decode cX6_readStatement 67 = .ok (.iadd, 1)))))) := by decide +kernel
theorem dX6_readStatement_36 : decode cX6_readStatement 36 = .ok (.invokestatic 168, 3) := dbm_63.1.1.1.1
theorem dX6_readStatement_39 : decode cX6_readStatement 39 = .ok (.ifCond .ne 7, 3) := dbm_63.1.1.1.2
theorem dX6_readStatement_42 : decode cX6_readStatement 42 = .ok (.iconst 1, 1) := dbm_63.1.1.2.1
theorem dX6_readStatement_43 : decode cX6_readStatement 43 = .ok (.goto 4, 3) := dbm_63.1.1.2.2
theorem dX6_readStatement_46 : decode cX6_readStatement 46 = .ok (.iconst 0, 1) := dbm_63.1.2.1.1
theorem dX6_readStatement_47 : decode cX6_readStatement 47 = .ok (.putfield 152, 3) := dbm_63.1.2.1.2
theorem dX6_readStatement_50 : decode cX6_readStatement 50 = .ok (.aload_n 0, 1) := dbm_63.1.2.2.1
theorem dX6_readStatement_51 : decode cX6_readStatement 51 = .ok (.dup, 1) := dbm_63.1.2.2.2
theorem dX6_readStatement_52 : decode cX6_readStatement 52 = .ok (.getfield 149, 3) := dbm_63.2.1.1.1
theorem dX6_readStatement_55 : decode cX6_readStatement 55 = .ok (.aload_n 0, 1) := dbm_63.2.1.1.2
theorem dX6_readStatement_56 : decode cX6_readStatement 56 = .ok (.getfield 152, 3) := dbm_63.2.1.2.1
theorem dX6_readStatement_59 : decode cX6_readStatement 59 = .ok (.ifCond .eq 7, 3) := dbm_63.2.1.2.2
theorem dX6_readStatement_62 : decode cX6_readStatement 62 = .ok (.iconst 0, 1) := dbm_63.2.2.1.1
theorem dX6_readStatement_63 : decode cX6_readStatement 63 = .ok (.goto 4, 3) := dbm_63.2.2.1.2
theorem dX6_readStatement_66 : decode cX6_readStatement 66 = .ok (.iconst 1, 1) := dbm_63.2.2.2.1
theorem dX6_readStatement_67 : decode cX6_readStatement 67 = .ok (.iadd, 1) := dbm_63.2.2.2.2
theorem dbm_64 : (((((decode cX6_readStatement 68 = .ok (.putfield 149, 3)) ∧ (decode cX6_readStatement 71 = .ok (.aload_n 0, 1))) ∧ ((decode cX6_readStatement 72 = .ok (.getfield 152, 3)) ∧ (decode cX6_readStatement 75 = .ok (.ifCond .ne 11, 3)))) ∧ (((decode cX6_readStatement 78 = .ok (.aload_n 0, 1)) ∧ (decode cX6_readStatement 79 = .ok (.iload_n 2, 1))) ∧ ((decode cX6_readStatement 80 = .ok (.iconst 3, 1)) ∧ (decode cX6_readStatement 81 = .ok (.iload_n 1, 1))))) ∧ ((((decode cX6_readStatement 82 = .ok (.imul, 1)) ∧ (decode cX6_readStatement 83 = .ok (.invokevirtual 171, 3))) ∧ ((decode cX6_readStatement 86 = .ok (.aload_n 0, 1)) ∧ (decode cX6_readStatement 87 = .ok (.aload_n 0, 1)))) ∧ (((decode cX6_readStatement 88 = .ok (.getfield 152, 3)) ∧ (decode cX6_readStatement 91 = .ok (.ifCond .ne 12, 3))) ∧ ((decode cX6_readStatement 94 = .ok (.aload_n 0, 1)) ∧ (decode cX6_readStatement 95 = .ok (.invokevirtual 156, 3)))))) := by decide +kernel
theorem dX6_readStatement_68 : decode cX6_readStatement 68 = .ok (.putfield 149, 3) := dbm_64.1.1.1.1
theorem dX6_readStatement_71 : decode cX6_readStatement 71 = .ok (.aload_n 0, 1) := dbm_64.1.1.1.2
theorem dX6_readStatement_72 : decode cX6_readStatement 72 = .ok (.getfield 152, 3) := dbm_64.1.1.2.1
theorem dX6_readStatement_75 : decode cX6_readStatement 75 = .ok (.ifCond .ne 11, 3) := dbm_64.1.1.2.2
theorem dX6_readStatement_78 : decode cX6_readStatement 78 = .ok (.aload_n 0, 1) := dbm_64.1.2.1.1
theorem dX6_readStatement_79 : decode cX6_readStatement 79 = .ok (.iload_n 2, 1) := dbm_64.1.2.1.2
theorem dX6_readStatement_80 : decode cX6_readStatement 80 = .ok (.iconst 3, 1) := dbm_64.1.2.2.1
theorem dX6_readStatement_81 : decode cX6_readStatement 81 = .ok (.iload_n 1, 1) := dbm_64.1.2.2.2
theorem dX6_readStatement_82 : decode cX6_readStatement 82 = .ok (.imul, 1) := dbm_64.2.1.1.1
theorem dX6_readStatement_83 : decode cX6_readStatement 83 = .ok (.invokevirtual 171, 3) := dbm_64.2.1.1.2
theorem dX6_readStatement_86 : decode cX6_readStatement 86 = .ok (.aload_n 0, 1) := dbm_64.2.1.2.1
theorem dX6_readStatement_87 : decode cX6_readStatement 87 = .ok (.aload_n 0, 1) := dbm_64.2.1.2.2
theorem dX6_readStatement_88 : decode cX6_readStatement 88 = .ok (.getfield 152, 3) := dbm_64.2.2.1.1
theorem dX6_readStatement_91 : decode cX6_readStatement 91 = .ok (.ifCond .ne 12, 3) := dbm_64.2.2.1.2
theorem dX6_readStatement_94 : decode cX6_readStatement 94 = .ok (.aload_n 0, 1) := dbm_64.2.2.2.1
theorem dX6_readStatement_95 : decode cX6_readStatement 95 = .ok (.invokevirtual 156, 3) := dbm_64.2.2.2.2
theorem dbm_65 : (((((decode cX6_readStatement 98 = .ok (.bipush 59, 2)) ∧ (decode cX6_readStatement 100 = .ok (.if_icmp .eq 7, 3))) ∧ ((decode cX6_readStatement 103 = .ok (.iconst 1, 1)) ∧ (decode cX6_readStatement 104 = .ok (.goto 4, 3)))) ∧ (((decode cX6_readStatement 107 = .ok (.iconst 0, 1)) ∧ (decode cX6_readStatement 108 = .ok (.putfield 152, 3))) ∧ ((decode cX6_readStatement 111 = .ok (.aload_n 0, 1)) ∧ (decode cX6_readStatement 112 = .ok (.dup, 1))))) ∧ ((((decode cX6_readStatement 113 = .ok (.getfield 149, 3)) ∧ (decode cX6_readStatement 116 = .ok (.aload_n 0, 1))) ∧ ((decode cX6_readStatement 117 = .ok (.getfield 152, 3)) ∧ (decode cX6_readStatement 120 = .ok (.ifCond .eq 7, 3)))) ∧ (((decode cX6_readStatement 123 = .ok (.iconst 0, 1)) ∧ (decode cX6_readStatement 124 = .ok (.goto 4, 3))) ∧ ((decode cX6_readStatement 127 = .ok (.iconst 1, 1)) ∧ (decode cX6_readStatement 128 = .ok (.iadd, 1)))))) := by decide +kernel
theorem dX6_readStatement_98 : decode cX6_readStatement 98 = .ok (.bipush 59, 2) := dbm_65.1.1.1.1
theorem dX6_readStatement_100 : decode cX6_readStatement 100 = .ok (.if_icmp .eq 7, 3) := dbm_65.1.1.1.2
theorem dX6_readStatement_103 : decode cX6_readStatement 103 = .ok (.iconst 1, 1) := dbm_65.1.1.2.1
theorem dX6_readStatement_104 : decode cX6_readStatement 104 = .ok (.goto 4, 3) := dbm_65.1.1.2.2
theorem dX6_readStatement_107 : decode cX6_readStatement 107 = .ok (.iconst 0, 1) := dbm_65.1.2.1.1
theorem dX6_readStatement_108 : decode cX6_readStatement 108 = .ok (.putfield 152, 3) := dbm_65.1.2.1.2
theorem dX6_readStatement_111 : decode cX6_readStatement 111 = .ok (.aload_n 0, 1) := dbm_65.1.2.2.1
theorem dX6_readStatement_112 : decode cX6_readStatement 112 = .ok (.dup, 1) := dbm_65.1.2.2.2
theorem dX6_readStatement_113 : decode cX6_readStatement 113 = .ok (.getfield 149, 3) := dbm_65.2.1.1.1
theorem dX6_readStatement_116 : decode cX6_readStatement 116 = .ok (.aload_n 0, 1) := dbm_65.2.1.1.2
theorem dX6_readStatement_117 : decode cX6_readStatement 117 = .ok (.getfield 152, 3) := dbm_65.2.1.2.1
theorem dX6_readStatement_120 : decode cX6_readStatement 120 = .ok (.ifCond .eq 7, 3) := dbm_65.2.1.2.2
theorem dX6_readStatement_123 : decode cX6_readStatement 123 = .ok (.iconst 0, 1) := dbm_65.2.2.1.1
theorem dX6_readStatement_124 : decode cX6_readStatement 124 = .ok (.goto 4, 3) := dbm_65.2.2.1.2
theorem dX6_readStatement_127 : decode cX6_readStatement 127 = .ok (.iconst 1, 1) := dbm_65.2.2.2.1
theorem dX6_readStatement_128 : decode cX6_readStatement 128 = .ok (.iadd, 1) := dbm_65.2.2.2.2
theorem dbm_66 : (((((decode cX6_readStatement 129 = .ok (.putfield 149, 3)) ∧ (decode cX6_readStatement 132 = .ok (.aload_n 0, 1))) ∧ ((decode cX6_readStatement 133 = .ok (.dup, 1)) ∧ (decode cX6_readStatement 134 = .ok (.getfield 165, 3)))) ∧ (((decode cX6_readStatement 137 = .ok (.iconst 1, 1)) ∧ (decode cX6_readStatement 138 = .ok (.iadd, 1))) ∧ ((decode cX6_readStatement 139 = .ok (.putfield 165, 3)) ∧ (decode cX6_readStatement 142 = .ok (.return_, 1))))) ∧ ((((decode cX6_comesTold 0 = .ok (.aload_n 0, 1)) ∧ (decode cX6_comesTold 1 = .ok (.getfield 46, 3))) ∧ ((decode cX6_comesTold 4 = .ok (.iconst 3, 1)) ∧ (decode cX6_comesTold 5 = .ok (.iload_n 1, 1)))) ∧ (((decode cX6_comesTold 6 = .ok (.imul, 1)) ∧ (decode cX6_comesTold 7 = .ok (.iaload, 1))) ∧ ((decode cX6_comesTold 8 = .ok (.istore_n 2, 1)) ∧ (decode cX6_comesTold 9 = .ok (.aload_n 0, 1)))))) := by decide +kernel
theorem dX6_readStatement_129 : decode cX6_readStatement 129 = .ok (.putfield 149, 3) := dbm_66.1.1.1.1
theorem dX6_readStatement_132 : decode cX6_readStatement 132 = .ok (.aload_n 0, 1) := dbm_66.1.1.1.2
theorem dX6_readStatement_133 : decode cX6_readStatement 133 = .ok (.dup, 1) := dbm_66.1.1.2.1
theorem dX6_readStatement_134 : decode cX6_readStatement 134 = .ok (.getfield 165, 3) := dbm_66.1.1.2.2
theorem dX6_readStatement_137 : decode cX6_readStatement 137 = .ok (.iconst 1, 1) := dbm_66.1.2.1.1
theorem dX6_readStatement_138 : decode cX6_readStatement 138 = .ok (.iadd, 1) := dbm_66.1.2.1.2
theorem dX6_readStatement_139 : decode cX6_readStatement 139 = .ok (.putfield 165, 3) := dbm_66.1.2.2.1
theorem dX6_readStatement_142 : decode cX6_readStatement 142 = .ok (.return_, 1) := dbm_66.1.2.2.2
theorem dX6_comesTold_0 : decode cX6_comesTold 0 = .ok (.aload_n 0, 1) := dbm_66.2.1.1.1
theorem dX6_comesTold_1 : decode cX6_comesTold 1 = .ok (.getfield 46, 3) := dbm_66.2.1.1.2
theorem dX6_comesTold_4 : decode cX6_comesTold 4 = .ok (.iconst 3, 1) := dbm_66.2.1.2.1
theorem dX6_comesTold_5 : decode cX6_comesTold 5 = .ok (.iload_n 1, 1) := dbm_66.2.1.2.2
theorem dX6_comesTold_6 : decode cX6_comesTold 6 = .ok (.imul, 1) := dbm_66.2.2.1.1
theorem dX6_comesTold_7 : decode cX6_comesTold 7 = .ok (.iaload, 1) := dbm_66.2.2.1.2
theorem dX6_comesTold_8 : decode cX6_comesTold 8 = .ok (.istore_n 2, 1) := dbm_66.2.2.2.1
theorem dX6_comesTold_9 : decode cX6_comesTold 9 = .ok (.aload_n 0, 1) := dbm_66.2.2.2.2
theorem dbm_67 : (((((decode cX6_comesTold 10 = .ok (.getfield 46, 3)) ∧ (decode cX6_comesTold 13 = .ok (.iconst 3, 1))) ∧ ((decode cX6_comesTold 14 = .ok (.iload_n 1, 1)) ∧ (decode cX6_comesTold 15 = .ok (.imul, 1)))) ∧ (((decode cX6_comesTold 16 = .ok (.iconst 1, 1)) ∧ (decode cX6_comesTold 17 = .ok (.iadd, 1))) ∧ ((decode cX6_comesTold 18 = .ok (.iaload, 1)) ∧ (decode cX6_comesTold 19 = .ok (.istore_n 3, 1))))) ∧ ((((decode cX6_comesTold 20 = .ok (.aload_n 0, 1)) ∧ (decode cX6_comesTold 21 = .ok (.getfield 46, 3))) ∧ ((decode cX6_comesTold 24 = .ok (.iconst 3, 1)) ∧ (decode cX6_comesTold 25 = .ok (.iload_n 1, 1)))) ∧ (((decode cX6_comesTold 26 = .ok (.imul, 1)) ∧ (decode cX6_comesTold 27 = .ok (.iconst 2, 1))) ∧ ((decode cX6_comesTold 28 = .ok (.iadd, 1)) ∧ (decode cX6_comesTold 29 = .ok (.iaload, 1)))))) := by decide +kernel
theorem dX6_comesTold_10 : decode cX6_comesTold 10 = .ok (.getfield 46, 3) := dbm_67.1.1.1.1
theorem dX6_comesTold_13 : decode cX6_comesTold 13 = .ok (.iconst 3, 1) := dbm_67.1.1.1.2
theorem dX6_comesTold_14 : decode cX6_comesTold 14 = .ok (.iload_n 1, 1) := dbm_67.1.1.2.1
theorem dX6_comesTold_15 : decode cX6_comesTold 15 = .ok (.imul, 1) := dbm_67.1.1.2.2
theorem dX6_comesTold_16 : decode cX6_comesTold 16 = .ok (.iconst 1, 1) := dbm_67.1.2.1.1
theorem dX6_comesTold_17 : decode cX6_comesTold 17 = .ok (.iadd, 1) := dbm_67.1.2.1.2
theorem dX6_comesTold_18 : decode cX6_comesTold 18 = .ok (.iaload, 1) := dbm_67.1.2.2.1
theorem dX6_comesTold_19 : decode cX6_comesTold 19 = .ok (.istore_n 3, 1) := dbm_67.1.2.2.2
theorem dX6_comesTold_20 : decode cX6_comesTold 20 = .ok (.aload_n 0, 1) := dbm_67.2.1.1.1
theorem dX6_comesTold_21 : decode cX6_comesTold 21 = .ok (.getfield 46, 3) := dbm_67.2.1.1.2
theorem dX6_comesTold_24 : decode cX6_comesTold 24 = .ok (.iconst 3, 1) := dbm_67.2.1.2.1
theorem dX6_comesTold_25 : decode cX6_comesTold 25 = .ok (.iload_n 1, 1) := dbm_67.2.1.2.2
theorem dX6_comesTold_26 : decode cX6_comesTold 26 = .ok (.imul, 1) := dbm_67.2.2.1.1
theorem dX6_comesTold_27 : decode cX6_comesTold 27 = .ok (.iconst 2, 1) := dbm_67.2.2.1.2
theorem dX6_comesTold_28 : decode cX6_comesTold 28 = .ok (.iadd, 1) := dbm_67.2.2.2.1
theorem dX6_comesTold_29 : decode cX6_comesTold 29 = .ok (.iaload, 1) := dbm_67.2.2.2.2
theorem dbm_68 : (((((decode cX6_comesTold 30 = .ok (.istore 4, 2)) ∧ (decode cX6_comesTold 32 = .ok (.iconst 1, 1))) ∧ ((decode cX6_comesTold 33 = .ok (.istore 5, 2)) ∧ (decode cX6_comesTold 35 = .ok (.aload_n 0, 1)))) ∧ (((decode cX6_comesTold 36 = .ok (.getfield 43, 3)) ∧ (decode cX6_comesTold 39 = .ok (.iload_n 1, 1))) ∧ ((decode cX6_comesTold 40 = .ok (.iaload, 1)) ∧ (decode cX6_comesTold 41 = .ok (.lookupswitch 192 #[(103, 98), (104, 51), (108, 69), (111, 135), (119, 60)], 51))))) ∧ ((((decode cX6_comesTold 92 = .ok (.aload_n 0, 1)) ∧ (decode cX6_comesTold 93 = .ok (.iload_n 2, 1))) ∧ ((decode cX6_comesTold 94 = .ok (.iload_n 3, 1)) ∧ (decode cX6_comesTold 95 = .ok (.iload 4, 2)))) ∧ (((decode cX6_comesTold 97 = .ok (.invokevirtual 175, 3)) ∧ (decode cX6_comesTold 100 = .ok (.ireturn, 1))) ∧ ((decode cX6_comesTold 101 = .ok (.aload_n 0, 1)) ∧ (decode cX6_comesTold 102 = .ok (.iload_n 2, 1)))))) := by decide +kernel
theorem dX6_comesTold_30 : decode cX6_comesTold 30 = .ok (.istore 4, 2) := dbm_68.1.1.1.1
theorem dX6_comesTold_32 : decode cX6_comesTold 32 = .ok (.iconst 1, 1) := dbm_68.1.1.1.2
theorem dX6_comesTold_33 : decode cX6_comesTold 33 = .ok (.istore 5, 2) := dbm_68.1.1.2.1
theorem dX6_comesTold_35 : decode cX6_comesTold 35 = .ok (.aload_n 0, 1) := dbm_68.1.1.2.2
theorem dX6_comesTold_36 : decode cX6_comesTold 36 = .ok (.getfield 43, 3) := dbm_68.1.2.1.1
theorem dX6_comesTold_39 : decode cX6_comesTold 39 = .ok (.iload_n 1, 1) := dbm_68.1.2.1.2
theorem dX6_comesTold_40 : decode cX6_comesTold 40 = .ok (.iaload, 1) := dbm_68.1.2.2.1
theorem dX6_comesTold_41 : decode cX6_comesTold 41 = .ok (.lookupswitch 192 #[(103, 98), (104, 51), (108, 69), (111, 135), (119, 60)], 51) := dbm_68.1.2.2.2
theorem dX6_comesTold_92 : decode cX6_comesTold 92 = .ok (.aload_n 0, 1) := dbm_68.2.1.1.1
theorem dX6_comesTold_93 : decode cX6_comesTold 93 = .ok (.iload_n 2, 1) := dbm_68.2.1.1.2
theorem dX6_comesTold_94 : decode cX6_comesTold 94 = .ok (.iload_n 3, 1) := dbm_68.2.1.2.1
theorem dX6_comesTold_95 : decode cX6_comesTold 95 = .ok (.iload 4, 2) := dbm_68.2.1.2.2
theorem dX6_comesTold_97 : decode cX6_comesTold 97 = .ok (.invokevirtual 175, 3) := dbm_68.2.2.1.1
theorem dX6_comesTold_100 : decode cX6_comesTold 100 = .ok (.ireturn, 1) := dbm_68.2.2.1.2
theorem dX6_comesTold_101 : decode cX6_comesTold 101 = .ok (.aload_n 0, 1) := dbm_68.2.2.2.1
theorem dX6_comesTold_102 : decode cX6_comesTold 102 = .ok (.iload_n 2, 1) := dbm_68.2.2.2.2
theorem dbm_69 : (((((decode cX6_comesTold 103 = .ok (.iload_n 3, 1)) ∧ (decode cX6_comesTold 104 = .ok (.iload 4, 2))) ∧ ((decode cX6_comesTold 106 = .ok (.invokevirtual 178, 3)) ∧ (decode cX6_comesTold 109 = .ok (.ireturn, 1)))) ∧ (((decode cX6_comesTold 110 = .ok (.aload_n 0, 1)) ∧ (decode cX6_comesTold 111 = .ok (.iload_n 2, 1))) ∧ ((decode cX6_comesTold 112 = .ok (.invokevirtual 181, 3)) ∧ (decode cX6_comesTold 115 = .ok (.istore 5, 2))))) ∧ ((((decode cX6_comesTold 117 = .ok (.iload 5, 2)) ∧ (decode cX6_comesTold 119 = .ok (.ifCond .eq 17, 3))) ∧ ((decode cX6_comesTold 122 = .ok (.aload_n 0, 1)) ∧ (decode cX6_comesTold 123 = .ok (.getfield 19, 3)))) ∧ (((decode cX6_comesTold 126 = .ok (.iload_n 2, 1)) ∧ (decode cX6_comesTold 127 = .ok (.iconst 1, 1))) ∧ ((decode cX6_comesTold 128 = .ok (.aload_n 0, 1)) ∧ (decode cX6_comesTold 129 = .ok (.getfield 19, 3)))))) := by decide +kernel
theorem dX6_comesTold_103 : decode cX6_comesTold 103 = .ok (.iload_n 3, 1) := dbm_69.1.1.1.1
theorem dX6_comesTold_104 : decode cX6_comesTold 104 = .ok (.iload 4, 2) := dbm_69.1.1.1.2
theorem dX6_comesTold_106 : decode cX6_comesTold 106 = .ok (.invokevirtual 178, 3) := dbm_69.1.1.2.1
theorem dX6_comesTold_109 : decode cX6_comesTold 109 = .ok (.ireturn, 1) := dbm_69.1.1.2.2
theorem dX6_comesTold_110 : decode cX6_comesTold 110 = .ok (.aload_n 0, 1) := dbm_69.1.2.1.1
theorem dX6_comesTold_111 : decode cX6_comesTold 111 = .ok (.iload_n 2, 1) := dbm_69.1.2.1.2
theorem dX6_comesTold_112 : decode cX6_comesTold 112 = .ok (.invokevirtual 181, 3) := dbm_69.1.2.2.1
theorem dX6_comesTold_115 : decode cX6_comesTold 115 = .ok (.istore 5, 2) := dbm_69.1.2.2.2
theorem dX6_comesTold_117 : decode cX6_comesTold 117 = .ok (.iload 5, 2) := dbm_69.2.1.1.1
theorem dX6_comesTold_119 : decode cX6_comesTold 119 = .ok (.ifCond .eq 17, 3) := dbm_69.2.1.1.2
theorem dX6_comesTold_122 : decode cX6_comesTold 122 = .ok (.aload_n 0, 1) := dbm_69.2.1.2.1
theorem dX6_comesTold_123 : decode cX6_comesTold 123 = .ok (.getfield 19, 3) := dbm_69.2.1.2.2
theorem dX6_comesTold_126 : decode cX6_comesTold 126 = .ok (.iload_n 2, 1) := dbm_69.2.2.1.1
theorem dX6_comesTold_127 : decode cX6_comesTold 127 = .ok (.iconst 1, 1) := dbm_69.2.2.1.2
theorem dX6_comesTold_128 : decode cX6_comesTold 128 = .ok (.aload_n 0, 1) := dbm_69.2.2.2.1
theorem dX6_comesTold_129 : decode cX6_comesTold 129 = .ok (.getfield 19, 3) := dbm_69.2.2.2.2
theorem dbm_70 : (((((decode cX6_comesTold 132 = .ok (.iload_n 2, 1)) ∧ (decode cX6_comesTold 133 = .ok (.iaload, 1))) ∧ ((decode cX6_comesTold 134 = .ok (.isub, 1)) ∧ (decode cX6_comesTold 135 = .ok (.iastore, 1)))) ∧ (((decode cX6_comesTold 136 = .ok (.iload 5, 2)) ∧ (decode cX6_comesTold 138 = .ok (.ireturn, 1))) ∧ ((decode cX6_comesTold 139 = .ok (.aload_n 0, 1)) ∧ (decode cX6_comesTold 140 = .ok (.iload_n 2, 1))))) ∧ ((((decode cX6_comesTold 141 = .ok (.invokevirtual 184, 3)) ∧ (decode cX6_comesTold 144 = .ok (.ifCond .eq 14, 3))) ∧ ((decode cX6_comesTold 147 = .ok (.iload_n 3, 1)) ∧ (decode cX6_comesTold 148 = .ok (.invokestatic 139, 3)))) ∧ (((decode cX6_comesTold 151 = .ok (.ifCond .eq 7, 3)) ∧ (decode cX6_comesTold 154 = .ok (.iconst 1, 1))) ∧ ((decode cX6_comesTold 155 = .ok (.goto 4, 3)) ∧ (decode cX6_comesTold 158 = .ok (.iconst 0, 1)))))) := by decide +kernel
theorem dX6_comesTold_132 : decode cX6_comesTold 132 = .ok (.iload_n 2, 1) := dbm_70.1.1.1.1
theorem dX6_comesTold_133 : decode cX6_comesTold 133 = .ok (.iaload, 1) := dbm_70.1.1.1.2
theorem dX6_comesTold_134 : decode cX6_comesTold 134 = .ok (.isub, 1) := dbm_70.1.1.2.1
theorem dX6_comesTold_135 : decode cX6_comesTold 135 = .ok (.iastore, 1) := dbm_70.1.1.2.2
theorem dX6_comesTold_136 : decode cX6_comesTold 136 = .ok (.iload 5, 2) := dbm_70.1.2.1.1
theorem dX6_comesTold_138 : decode cX6_comesTold 138 = .ok (.ireturn, 1) := dbm_70.1.2.1.2
theorem dX6_comesTold_139 : decode cX6_comesTold 139 = .ok (.aload_n 0, 1) := dbm_70.1.2.2.1
theorem dX6_comesTold_140 : decode cX6_comesTold 140 = .ok (.iload_n 2, 1) := dbm_70.1.2.2.2
theorem dX6_comesTold_141 : decode cX6_comesTold 141 = .ok (.invokevirtual 184, 3) := dbm_70.2.1.1.1
theorem dX6_comesTold_144 : decode cX6_comesTold 144 = .ok (.ifCond .eq 14, 3) := dbm_70.2.1.1.2
theorem dX6_comesTold_147 : decode cX6_comesTold 147 = .ok (.iload_n 3, 1) := dbm_70.2.1.2.1
theorem dX6_comesTold_148 : decode cX6_comesTold 148 = .ok (.invokestatic 139, 3) := dbm_70.2.1.2.2
theorem dX6_comesTold_151 : decode cX6_comesTold 151 = .ok (.ifCond .eq 7, 3) := dbm_70.2.2.1.1
theorem dX6_comesTold_154 : decode cX6_comesTold 154 = .ok (.iconst 1, 1) := dbm_70.2.2.1.2
theorem dX6_comesTold_155 : decode cX6_comesTold 155 = .ok (.goto 4, 3) := dbm_70.2.2.2.1
theorem dX6_comesTold_158 : decode cX6_comesTold 158 = .ok (.iconst 0, 1) := dbm_70.2.2.2.2
theorem dbm_71 : (((((decode cX6_comesTold 159 = .ok (.istore 5, 2)) ∧ (decode cX6_comesTold 161 = .ok (.iload 5, 2))) ∧ ((decode cX6_comesTold 163 = .ok (.ifCond .eq 10, 3)) ∧ (decode cX6_comesTold 166 = .ok (.aload_n 0, 1)))) ∧ (((decode cX6_comesTold 167 = .ok (.getfield 25, 3)) ∧ (decode cX6_comesTold 170 = .ok (.iload_n 2, 1))) ∧ ((decode cX6_comesTold 171 = .ok (.iload_n 3, 1)) ∧ (decode cX6_comesTold 172 = .ok (.iastore, 1))))) ∧ ((((decode cX6_comesTold 173 = .ok (.iload 5, 2)) ∧ (decode cX6_comesTold 175 = .ok (.ireturn, 1))) ∧ ((decode cX6_comesTold 176 = .ok (.aload_n 0, 1)) ∧ (decode cX6_comesTold 177 = .ok (.iload_n 2, 1)))) ∧ (((decode cX6_comesTold 178 = .ok (.invokevirtual 184, 3)) ∧ (decode cX6_comesTold 181 = .ok (.ifCond .eq 15, 3))) ∧ ((decode cX6_comesTold 184 = .ok (.aload_n 0, 1)) ∧ (decode cX6_comesTold 185 = .ok (.iload_n 3, 1)))))) := by decide +kernel
theorem dX6_comesTold_159 : decode cX6_comesTold 159 = .ok (.istore 5, 2) := dbm_71.1.1.1.1
theorem dX6_comesTold_161 : decode cX6_comesTold 161 = .ok (.iload 5, 2) := dbm_71.1.1.1.2
theorem dX6_comesTold_163 : decode cX6_comesTold 163 = .ok (.ifCond .eq 10, 3) := dbm_71.1.1.2.1
theorem dX6_comesTold_166 : decode cX6_comesTold 166 = .ok (.aload_n 0, 1) := dbm_71.1.1.2.2
theorem dX6_comesTold_167 : decode cX6_comesTold 167 = .ok (.getfield 25, 3) := dbm_71.1.2.1.1
theorem dX6_comesTold_170 : decode cX6_comesTold 170 = .ok (.iload_n 2, 1) := dbm_71.1.2.1.2
theorem dX6_comesTold_171 : decode cX6_comesTold 171 = .ok (.iload_n 3, 1) := dbm_71.1.2.2.1
theorem dX6_comesTold_172 : decode cX6_comesTold 172 = .ok (.iastore, 1) := dbm_71.1.2.2.2
theorem dX6_comesTold_173 : decode cX6_comesTold 173 = .ok (.iload 5, 2) := dbm_71.2.1.1.1
theorem dX6_comesTold_175 : decode cX6_comesTold 175 = .ok (.ireturn, 1) := dbm_71.2.1.1.2
theorem dX6_comesTold_176 : decode cX6_comesTold 176 = .ok (.aload_n 0, 1) := dbm_71.2.1.2.1
theorem dX6_comesTold_177 : decode cX6_comesTold 177 = .ok (.iload_n 2, 1) := dbm_71.2.1.2.2
theorem dX6_comesTold_178 : decode cX6_comesTold 178 = .ok (.invokevirtual 184, 3) := dbm_71.2.2.1.1
theorem dX6_comesTold_181 : decode cX6_comesTold 181 = .ok (.ifCond .eq 15, 3) := dbm_71.2.2.1.2
theorem dX6_comesTold_184 : decode cX6_comesTold 184 = .ok (.aload_n 0, 1) := dbm_71.2.2.2.1
theorem dX6_comesTold_185 : decode cX6_comesTold 185 = .ok (.iload_n 3, 1) := dbm_71.2.2.2.2
theorem dbm_72 : (((((decode cX6_comesTold 186 = .ok (.invokevirtual 181, 3)) ∧ (decode cX6_comesTold 189 = .ok (.ifCond .eq 7, 3))) ∧ ((decode cX6_comesTold 192 = .ok (.iconst 1, 1)) ∧ (decode cX6_comesTold 193 = .ok (.goto 4, 3)))) ∧ (((decode cX6_comesTold 196 = .ok (.iconst 0, 1)) ∧ (decode cX6_comesTold 197 = .ok (.istore 5, 2))) ∧ ((decode cX6_comesTold 199 = .ok (.iload 5, 2)) ∧ (decode cX6_comesTold 201 = .ok (.ifCond .eq 29, 3))))) ∧ ((((decode cX6_comesTold 204 = .ok (.aload_n 0, 1)) ∧ (decode cX6_comesTold 205 = .ok (.getfield 31, 3))) ∧ ((decode cX6_comesTold 208 = .ok (.bipush 7, 2)) ∧ (decode cX6_comesTold 210 = .ok (.iload_n 2, 1)))) ∧ (((decode cX6_comesTold 211 = .ok (.imul, 1)) ∧ (decode cX6_comesTold 212 = .ok (.iload_n 3, 1))) ∧ ((decode cX6_comesTold 213 = .ok (.iadd, 1)) ∧ (decode cX6_comesTold 214 = .ok (.iaload, 1)))))) := by decide +kernel
theorem dX6_comesTold_186 : decode cX6_comesTold 186 = .ok (.invokevirtual 181, 3) := dbm_72.1.1.1.1
theorem dX6_comesTold_189 : decode cX6_comesTold 189 = .ok (.ifCond .eq 7, 3) := dbm_72.1.1.1.2
theorem dX6_comesTold_192 : decode cX6_comesTold 192 = .ok (.iconst 1, 1) := dbm_72.1.1.2.1
theorem dX6_comesTold_193 : decode cX6_comesTold 193 = .ok (.goto 4, 3) := dbm_72.1.1.2.2
theorem dX6_comesTold_196 : decode cX6_comesTold 196 = .ok (.iconst 0, 1) := dbm_72.1.2.1.1
theorem dX6_comesTold_197 : decode cX6_comesTold 197 = .ok (.istore 5, 2) := dbm_72.1.2.1.2
theorem dX6_comesTold_199 : decode cX6_comesTold 199 = .ok (.iload 5, 2) := dbm_72.1.2.2.1
theorem dX6_comesTold_201 : decode cX6_comesTold 201 = .ok (.ifCond .eq 29, 3) := dbm_72.1.2.2.2
theorem dX6_comesTold_204 : decode cX6_comesTold 204 = .ok (.aload_n 0, 1) := dbm_72.2.1.1.1
theorem dX6_comesTold_205 : decode cX6_comesTold 205 = .ok (.getfield 31, 3) := dbm_72.2.1.1.2
theorem dX6_comesTold_208 : decode cX6_comesTold 208 = .ok (.bipush 7, 2) := dbm_72.2.1.2.1
theorem dX6_comesTold_210 : decode cX6_comesTold 210 = .ok (.iload_n 2, 1) := dbm_72.2.1.2.2
theorem dX6_comesTold_211 : decode cX6_comesTold 211 = .ok (.imul, 1) := dbm_72.2.2.1.1
theorem dX6_comesTold_212 : decode cX6_comesTold 212 = .ok (.iload_n 3, 1) := dbm_72.2.2.1.2
theorem dX6_comesTold_213 : decode cX6_comesTold 213 = .ok (.iadd, 1) := dbm_72.2.2.2.1
theorem dX6_comesTold_214 : decode cX6_comesTold 214 = .ok (.iaload, 1) := dbm_72.2.2.2.2
theorem dbm_73 : (((((decode cX6_comesTold 215 = .ok (.ifCond .ne 15, 3)) ∧ (decode cX6_comesTold 218 = .ok (.aload_n 0, 1))) ∧ ((decode cX6_comesTold 219 = .ok (.getfield 31, 3)) ∧ (decode cX6_comesTold 222 = .ok (.bipush 7, 2)))) ∧ (((decode cX6_comesTold 224 = .ok (.iload_n 2, 1)) ∧ (decode cX6_comesTold 225 = .ok (.imul, 1))) ∧ ((decode cX6_comesTold 226 = .ok (.iload_n 3, 1)) ∧ (decode cX6_comesTold 227 = .ok (.iadd, 1))))) ∧ ((((decode cX6_comesTold 228 = .ok (.iconst 1, 1)) ∧ (decode cX6_comesTold 229 = .ok (.iastore, 1))) ∧ ((decode cX6_comesTold 230 = .ok (.iload 5, 2)) ∧ (decode cX6_comesTold 232 = .ok (.ireturn, 1)))) ∧ (((decode cX6_comesTold 233 = .ok (.iload_n 2, 1)) ∧ (decode cX6_comesTold 234 = .ok (.i2l, 1))) ∧ ((decode cX6_comesTold 235 = .ok (.lconst 1, 1)) ∧ (decode cX6_comesTold 236 = .ok (.ldc2_w 187, 3)))))) := by decide +kernel
theorem dX6_comesTold_215 : decode cX6_comesTold 215 = .ok (.ifCond .ne 15, 3) := dbm_73.1.1.1.1
theorem dX6_comesTold_218 : decode cX6_comesTold 218 = .ok (.aload_n 0, 1) := dbm_73.1.1.1.2
theorem dX6_comesTold_219 : decode cX6_comesTold 219 = .ok (.getfield 31, 3) := dbm_73.1.1.2.1
theorem dX6_comesTold_222 : decode cX6_comesTold 222 = .ok (.bipush 7, 2) := dbm_73.1.1.2.2
theorem dX6_comesTold_224 : decode cX6_comesTold 224 = .ok (.iload_n 2, 1) := dbm_73.1.2.1.1
theorem dX6_comesTold_225 : decode cX6_comesTold 225 = .ok (.imul, 1) := dbm_73.1.2.1.2
theorem dX6_comesTold_226 : decode cX6_comesTold 226 = .ok (.iload_n 3, 1) := dbm_73.1.2.2.1
theorem dX6_comesTold_227 : decode cX6_comesTold 227 = .ok (.iadd, 1) := dbm_73.1.2.2.2
theorem dX6_comesTold_228 : decode cX6_comesTold 228 = .ok (.iconst 1, 1) := dbm_73.2.1.1.1
theorem dX6_comesTold_229 : decode cX6_comesTold 229 = .ok (.iastore, 1) := dbm_73.2.1.1.2
theorem dX6_comesTold_230 : decode cX6_comesTold 230 = .ok (.iload 5, 2) := dbm_73.2.1.2.1
theorem dX6_comesTold_232 : decode cX6_comesTold 232 = .ok (.ireturn, 1) := dbm_73.2.1.2.2
theorem dX6_comesTold_233 : decode cX6_comesTold 233 = .ok (.iload_n 2, 1) := dbm_73.2.2.1.1
theorem dX6_comesTold_234 : decode cX6_comesTold 234 = .ok (.i2l, 1) := dbm_73.2.2.1.2
theorem dX6_comesTold_235 : decode cX6_comesTold 235 = .ok (.lconst 1, 1) := dbm_73.2.2.2.1
theorem dX6_comesTold_236 : decode cX6_comesTold 236 = .ok (.ldc2_w 187, 3) := dbm_73.2.2.2.2
theorem dbm_74 : (((((decode cX6_comesTold 239 = .ok (.invokestatic 85, 3)) ∧ (decode cX6_comesTold 242 = .ok (.ifCond .eq 19, 3))) ∧ ((decode cX6_comesTold 245 = .ok (.aload_n 0, 1)) ∧ (decode cX6_comesTold 246 = .ok (.getfield 122, 3)))) ∧ (((decode cX6_comesTold 249 = .ok (.iload_n 2, 1)) ∧ (decode cX6_comesTold 250 = .ok (.iadd, 1))) ∧ ((decode cX6_comesTold 251 = .ok (.sipush 999, 3)) ∧ (decode cX6_comesTold 254 = .ok (.if_icmp .gt 7, 3))))) ∧ ((((decode cX6_comesTold 257 = .ok (.iconst 1, 1)) ∧ (decode cX6_comesTold 258 = .ok (.goto 4, 3))) ∧ ((decode cX6_comesTold 261 = .ok (.iconst 0, 1)) ∧ (decode cX6_comesTold 262 = .ok (.istore 5, 2)))) ∧ (((decode cX6_comesTold 264 = .ok (.iload 5, 2)) ∧ (decode cX6_comesTold 266 = .ok (.ifCond .eq 8, 3))) ∧ ((decode cX6_comesTold 269 = .ok (.aload_n 0, 1)) ∧ (decode cX6_comesTold 270 = .ok (.iload_n 2, 1)))))) := by decide +kernel
theorem dX6_comesTold_239 : decode cX6_comesTold 239 = .ok (.invokestatic 85, 3) := dbm_74.1.1.1.1
theorem dX6_comesTold_242 : decode cX6_comesTold 242 = .ok (.ifCond .eq 19, 3) := dbm_74.1.1.1.2
theorem dX6_comesTold_245 : decode cX6_comesTold 245 = .ok (.aload_n 0, 1) := dbm_74.1.1.2.1
theorem dX6_comesTold_246 : decode cX6_comesTold 246 = .ok (.getfield 122, 3) := dbm_74.1.1.2.2
theorem dX6_comesTold_249 : decode cX6_comesTold 249 = .ok (.iload_n 2, 1) := dbm_74.1.2.1.1
theorem dX6_comesTold_250 : decode cX6_comesTold 250 = .ok (.iadd, 1) := dbm_74.1.2.1.2
theorem dX6_comesTold_251 : decode cX6_comesTold 251 = .ok (.sipush 999, 3) := dbm_74.1.2.2.1
theorem dX6_comesTold_254 : decode cX6_comesTold 254 = .ok (.if_icmp .gt 7, 3) := dbm_74.1.2.2.2
theorem dX6_comesTold_257 : decode cX6_comesTold 257 = .ok (.iconst 1, 1) := dbm_74.2.1.1.1
theorem dX6_comesTold_258 : decode cX6_comesTold 258 = .ok (.goto 4, 3) := dbm_74.2.1.1.2
theorem dX6_comesTold_261 : decode cX6_comesTold 261 = .ok (.iconst 0, 1) := dbm_74.2.1.2.1
theorem dX6_comesTold_262 : decode cX6_comesTold 262 = .ok (.istore 5, 2) := dbm_74.2.1.2.2
theorem dX6_comesTold_264 : decode cX6_comesTold 264 = .ok (.iload 5, 2) := dbm_74.2.2.1.1
theorem dX6_comesTold_266 : decode cX6_comesTold 266 = .ok (.ifCond .eq 8, 3) := dbm_74.2.2.1.2
theorem dX6_comesTold_269 : decode cX6_comesTold 269 = .ok (.aload_n 0, 1) := dbm_74.2.2.2.1
theorem dX6_comesTold_270 : decode cX6_comesTold 270 = .ok (.iload_n 2, 1) := dbm_74.2.2.2.2
theorem dbm_75 : (((((decode cX6_comesTold 271 = .ok (.invokevirtual 189, 3)) ∧ (decode cX6_comesTold 274 = .ok (.iload 5, 2))) ∧ ((decode cX6_comesTold 276 = .ok (.ireturn, 1)) ∧ (decode cX6_village 0 = .ok (.aload_n 0, 1)))) ∧ (((decode cX6_village 1 = .ok (.iconst 0, 1)) ∧ (decode cX6_village 2 = .ok (.putfield 79, 3))) ∧ ((decode cX6_village 5 = .ok (.aload_n 0, 1)) ∧ (decode cX6_village 6 = .ok (.iconst 0, 1))))) ∧ ((((decode cX6_village 7 = .ok (.putfield 149, 3)) ∧ (decode cX6_village 10 = .ok (.aload_n 0, 1))) ∧ ((decode cX6_village 11 = .ok (.iconst 0, 1)) ∧ (decode cX6_village 12 = .ok (.putfield 152, 3)))) ∧ (((decode cX6_village 15 = .ok (.aload_n 0, 1)) ∧ (decode cX6_village 16 = .ok (.iconst 0, 1))) ∧ ((decode cX6_village 17 = .ok (.putfield 165, 3)) ∧ (decode cX6_village 20 = .ok (.aload_n 0, 1)))))) := by decide +kernel
theorem dX6_comesTold_271 : decode cX6_comesTold 271 = .ok (.invokevirtual 189, 3) := dbm_75.1.1.1.1
theorem dX6_comesTold_274 : decode cX6_comesTold 274 = .ok (.iload 5, 2) := dbm_75.1.1.1.2
theorem dX6_comesTold_276 : decode cX6_comesTold 276 = .ok (.ireturn, 1) := dbm_75.1.1.2.1
theorem dX6_village_0 : decode cX6_village 0 = .ok (.aload_n 0, 1) := dbm_75.1.1.2.2
theorem dX6_village_1 : decode cX6_village 1 = .ok (.iconst 0, 1) := dbm_75.1.2.1.1
theorem dX6_village_2 : decode cX6_village 2 = .ok (.putfield 79, 3) := dbm_75.1.2.1.2
theorem dX6_village_5 : decode cX6_village 5 = .ok (.aload_n 0, 1) := dbm_75.1.2.2.1
theorem dX6_village_6 : decode cX6_village 6 = .ok (.iconst 0, 1) := dbm_75.1.2.2.2
theorem dX6_village_7 : decode cX6_village 7 = .ok (.putfield 149, 3) := dbm_75.2.1.1.1
theorem dX6_village_10 : decode cX6_village 10 = .ok (.aload_n 0, 1) := dbm_75.2.1.1.2
theorem dX6_village_11 : decode cX6_village 11 = .ok (.iconst 0, 1) := dbm_75.2.1.2.1
theorem dX6_village_12 : decode cX6_village 12 = .ok (.putfield 152, 3) := dbm_75.2.1.2.2
theorem dX6_village_15 : decode cX6_village 15 = .ok (.aload_n 0, 1) := dbm_75.2.2.1.1
theorem dX6_village_16 : decode cX6_village 16 = .ok (.iconst 0, 1) := dbm_75.2.2.1.2
theorem dX6_village_17 : decode cX6_village 17 = .ok (.putfield 165, 3) := dbm_75.2.2.2.1
theorem dX6_village_20 : decode cX6_village 20 = .ok (.aload_n 0, 1) := dbm_75.2.2.2.2
theorem dbm_76 : (((((decode cX6_village 21 = .ok (.getfield 152, 3)) ∧ (decode cX6_village 24 = .ok (.ifCond .ne 28, 3))) ∧ ((decode cX6_village 27 = .ok (.aload_n 0, 1)) ∧ (decode cX6_village 28 = .ok (.getfield 165, 3)))) ∧ (((decode cX6_village 31 = .ok (.ifCond .eq 14, 3)) ∧ (decode cX6_village 34 = .ok (.aload_n 0, 1))) ∧ ((decode cX6_village 35 = .ok (.getfield 149, 3)) ∧ (decode cX6_village 38 = .ok (.aload_n 0, 1))))) ∧ ((((decode cX6_village 39 = .ok (.getfield 146, 3)) ∧ (decode cX6_village 42 = .ok (.if_icmp .ge 10, 3))) ∧ ((decode cX6_village 45 = .ok (.aload_n 0, 1)) ∧ (decode cX6_village 46 = .ok (.invokevirtual 193, 3)))) ∧ (((decode cX6_village 49 = .ok (.goto (-29), 3)) ∧ (decode cX6_village 52 = .ok (.aload_n 0, 1))) ∧ ((decode cX6_village 53 = .ok (.iconst 0, 1)) ∧ (decode cX6_village 54 = .ok (.putfield 146, 3)))))) := by decide +kernel
theorem dX6_village_21 : decode cX6_village 21 = .ok (.getfield 152, 3) := dbm_76.1.1.1.1
theorem dX6_village_24 : decode cX6_village 24 = .ok (.ifCond .ne 28, 3) := dbm_76.1.1.1.2
theorem dX6_village_27 : decode cX6_village 27 = .ok (.aload_n 0, 1) := dbm_76.1.1.2.1
theorem dX6_village_28 : decode cX6_village 28 = .ok (.getfield 165, 3) := dbm_76.1.1.2.2
theorem dX6_village_31 : decode cX6_village 31 = .ok (.ifCond .eq 14, 3) := dbm_76.1.2.1.1
theorem dX6_village_34 : decode cX6_village 34 = .ok (.aload_n 0, 1) := dbm_76.1.2.1.2
theorem dX6_village_35 : decode cX6_village 35 = .ok (.getfield 149, 3) := dbm_76.1.2.2.1
theorem dX6_village_38 : decode cX6_village 38 = .ok (.aload_n 0, 1) := dbm_76.1.2.2.2
theorem dX6_village_39 : decode cX6_village 39 = .ok (.getfield 146, 3) := dbm_76.2.1.1.1
theorem dX6_village_42 : decode cX6_village 42 = .ok (.if_icmp .ge 10, 3) := dbm_76.2.1.1.2
theorem dX6_village_45 : decode cX6_village 45 = .ok (.aload_n 0, 1) := dbm_76.2.1.2.1
theorem dX6_village_46 : decode cX6_village 46 = .ok (.invokevirtual 193, 3) := dbm_76.2.1.2.2
theorem dX6_village_49 : decode cX6_village 49 = .ok (.goto (-29), 3) := dbm_76.2.2.1.1
theorem dX6_village_52 : decode cX6_village 52 = .ok (.aload_n 0, 1) := dbm_76.2.2.1.2
theorem dX6_village_53 : decode cX6_village 53 = .ok (.iconst 0, 1) := dbm_76.2.2.2.1
theorem dX6_village_54 : decode cX6_village 54 = .ok (.putfield 146, 3) := dbm_76.2.2.2.2
theorem dbm_77 : (((((decode cX6_village 57 = .ok (.aload_n 0, 1)) ∧ (decode cX6_village 58 = .ok (.getfield 152, 3))) ∧ ((decode cX6_village 61 = .ok (.ifCond .eq 12, 3)) ∧ (decode cX6_village 64 = .ok (.sipush (-1000), 3)))) ∧ (((decode cX6_village 67 = .ok (.aload_n 0, 1)) ∧ (decode cX6_village 68 = .ok (.getfield 149, 3))) ∧ ((decode cX6_village 71 = .ok (.isub, 1)) ∧ (decode cX6_village 72 = .ok (.ireturn, 1))))) ∧ ((((decode cX6_village 73 = .ok (.aload_n 0, 1)) ∧ (decode cX6_village 74 = .ok (.invokevirtual 196, 3))) ∧ ((decode cX6_village 77 = .ok (.iconst 0, 1)) ∧ (decode cX6_village 78 = .ok (.istore_n 1, 1)))) ∧ (((decode cX6_village 79 = .ok (.iload_n 1, 1)) ∧ (decode cX6_village 80 = .ok (.aload_n 0, 1))) ∧ ((decode cX6_village 81 = .ok (.getfield 165, 3)) ∧ (decode cX6_village 84 = .ok (.if_icmp .ge 32, 3)))))) := by decide +kernel
theorem dX6_village_57 : decode cX6_village 57 = .ok (.aload_n 0, 1) := dbm_77.1.1.1.1
theorem dX6_village_58 : decode cX6_village 58 = .ok (.getfield 152, 3) := dbm_77.1.1.1.2
theorem dX6_village_61 : decode cX6_village 61 = .ok (.ifCond .eq 12, 3) := dbm_77.1.1.2.1
theorem dX6_village_64 : decode cX6_village 64 = .ok (.sipush (-1000), 3) := dbm_77.1.1.2.2
theorem dX6_village_67 : decode cX6_village 67 = .ok (.aload_n 0, 1) := dbm_77.1.2.1.1
theorem dX6_village_68 : decode cX6_village 68 = .ok (.getfield 149, 3) := dbm_77.1.2.1.2
theorem dX6_village_71 : decode cX6_village 71 = .ok (.isub, 1) := dbm_77.1.2.2.1
theorem dX6_village_72 : decode cX6_village 72 = .ok (.ireturn, 1) := dbm_77.1.2.2.2
theorem dX6_village_73 : decode cX6_village 73 = .ok (.aload_n 0, 1) := dbm_77.2.1.1.1
theorem dX6_village_74 : decode cX6_village 74 = .ok (.invokevirtual 196, 3) := dbm_77.2.1.1.2
theorem dX6_village_77 : decode cX6_village 77 = .ok (.iconst 0, 1) := dbm_77.2.1.2.1
theorem dX6_village_78 : decode cX6_village 78 = .ok (.istore_n 1, 1) := dbm_77.2.1.2.2
theorem dX6_village_79 : decode cX6_village 79 = .ok (.iload_n 1, 1) := dbm_77.2.2.1.1
theorem dX6_village_80 : decode cX6_village 80 = .ok (.aload_n 0, 1) := dbm_77.2.2.1.2
theorem dX6_village_81 : decode cX6_village 81 = .ok (.getfield 165, 3) := dbm_77.2.2.2.1
theorem dX6_village_84 : decode cX6_village 84 = .ok (.if_icmp .ge 32, 3) := dbm_77.2.2.2.2
theorem dbm_78 : (((((decode cX6_village 87 = .ok (.aload_n 0, 1)) ∧ (decode cX6_village 88 = .ok (.iload_n 1, 1))) ∧ ((decode cX6_village 89 = .ok (.invokevirtual 199, 3)) ∧ (decode cX6_village 92 = .ok (.ifCond .ne 18, 3)))) ∧ (((decode cX6_village 95 = .ok (.aload_n 0, 1)) ∧ (decode cX6_village 96 = .ok (.invokevirtual 202, 3))) ∧ ((decode cX6_village 99 = .ok (.sipush (-2000), 3)) ∧ (decode cX6_village 102 = .ok (.aload_n 0, 1))))) ∧ ((((decode cX6_village 103 = .ok (.getfield 40, 3)) ∧ (decode cX6_village 106 = .ok (.iload_n 1, 1))) ∧ ((decode cX6_village 107 = .ok (.iaload, 1)) ∧ (decode cX6_village 108 = .ok (.isub, 1)))) ∧ (((decode cX6_village 109 = .ok (.ireturn, 1)) ∧ (decode cX6_village 110 = .ok (.iinc 1 1, 3))) ∧ ((decode cX6_village 113 = .ok (.goto (-34), 3)) ∧ (decode cX6_village 116 = .ok (.aload_n 0, 1)))))) := by decide +kernel
theorem dX6_village_87 : decode cX6_village 87 = .ok (.aload_n 0, 1) := dbm_78.1.1.1.1
theorem dX6_village_88 : decode cX6_village 88 = .ok (.iload_n 1, 1) := dbm_78.1.1.1.2
theorem dX6_village_89 : decode cX6_village 89 = .ok (.invokevirtual 199, 3) := dbm_78.1.1.2.1
theorem dX6_village_92 : decode cX6_village 92 = .ok (.ifCond .ne 18, 3) := dbm_78.1.1.2.2
theorem dX6_village_95 : decode cX6_village 95 = .ok (.aload_n 0, 1) := dbm_78.1.2.1.1
theorem dX6_village_96 : decode cX6_village 96 = .ok (.invokevirtual 202, 3) := dbm_78.1.2.1.2
theorem dX6_village_99 : decode cX6_village 99 = .ok (.sipush (-2000), 3) := dbm_78.1.2.2.1
theorem dX6_village_102 : decode cX6_village 102 = .ok (.aload_n 0, 1) := dbm_78.1.2.2.2
theorem dX6_village_103 : decode cX6_village 103 = .ok (.getfield 40, 3) := dbm_78.2.1.1.1
theorem dX6_village_106 : decode cX6_village 106 = .ok (.iload_n 1, 1) := dbm_78.2.1.1.2
theorem dX6_village_107 : decode cX6_village 107 = .ok (.iaload, 1) := dbm_78.2.1.2.1
theorem dX6_village_108 : decode cX6_village 108 = .ok (.isub, 1) := dbm_78.2.1.2.2
theorem dX6_village_109 : decode cX6_village 109 = .ok (.ireturn, 1) := dbm_78.2.2.1.1
theorem dX6_village_110 : decode cX6_village 110 = .ok (.iinc 1 1, 3) := dbm_78.2.2.1.2
theorem dX6_village_113 : decode cX6_village 113 = .ok (.goto (-34), 3) := dbm_78.2.2.2.1
theorem dX6_village_116 : decode cX6_village 116 = .ok (.aload_n 0, 1) := dbm_78.2.2.2.2
theorem dbm_79 : (((((decode cX6_village 117 = .ok (.iconst 0, 1)) ∧ (decode cX6_village 118 = .ok (.putfield 205, 3))) ∧ ((decode cX6_village 121 = .ok (.aload_n 0, 1)) ∧ (decode cX6_village 122 = .ok (.getfield 165, 3)))) ∧ (((decode cX6_village 125 = .ok (.ireturn, 1)) ∧ (decode cX6_carry 0 = .ok (.aload_n 0, 1))) ∧ ((decode cX6_carry 1 = .ok (.getfield 208, 3)) ∧ (decode cX6_carry 4 = .ok (.ifCond .eq 13, 3))))) ∧ ((((decode cX6_carry 7 = .ok (.aload_n 0, 1)) ∧ (decode cX6_carry 8 = .ok (.getfield 211, 3))) ∧ ((decode cX6_carry 11 = .ok (.aload_n 0, 1)) ∧ (decode cX6_carry 12 = .ok (.getfield 214, 3)))) ∧ (((decode cX6_carry 15 = .ok (.iload_n 1, 1)) ∧ (decode cX6_carry 16 = .ok (.iastore, 1))) ∧ ((decode cX6_carry 17 = .ok (.aload_n 0, 1)) ∧ (decode cX6_carry 18 = .ok (.dup, 1)))))) := by decide +kernel
theorem dX6_village_117 : decode cX6_village 117 = .ok (.iconst 0, 1) := dbm_79.1.1.1.1
theorem dX6_village_118 : decode cX6_village 118 = .ok (.putfield 205, 3) := dbm_79.1.1.1.2
theorem dX6_village_121 : decode cX6_village 121 = .ok (.aload_n 0, 1) := dbm_79.1.1.2.1
theorem dX6_village_122 : decode cX6_village 122 = .ok (.getfield 165, 3) := dbm_79.1.1.2.2
theorem dX6_village_125 : decode cX6_village 125 = .ok (.ireturn, 1) := dbm_79.1.2.1.1
theorem dX6_carry_0 : decode cX6_carry 0 = .ok (.aload_n 0, 1) := dbm_79.1.2.1.2
theorem dX6_carry_1 : decode cX6_carry 1 = .ok (.getfield 208, 3) := dbm_79.1.2.2.1
theorem dX6_carry_4 : decode cX6_carry 4 = .ok (.ifCond .eq 13, 3) := dbm_79.1.2.2.2
theorem dX6_carry_7 : decode cX6_carry 7 = .ok (.aload_n 0, 1) := dbm_79.2.1.1.1
theorem dX6_carry_8 : decode cX6_carry 8 = .ok (.getfield 211, 3) := dbm_79.2.1.1.2
theorem dX6_carry_11 : decode cX6_carry 11 = .ok (.aload_n 0, 1) := dbm_79.2.1.2.1
theorem dX6_carry_12 : decode cX6_carry 12 = .ok (.getfield 214, 3) := dbm_79.2.1.2.2
theorem dX6_carry_15 : decode cX6_carry 15 = .ok (.iload_n 1, 1) := dbm_79.2.2.1.1
theorem dX6_carry_16 : decode cX6_carry 16 = .ok (.iastore, 1) := dbm_79.2.2.1.2
theorem dX6_carry_17 : decode cX6_carry 17 = .ok (.aload_n 0, 1) := dbm_79.2.2.2.1
theorem dX6_carry_18 : decode cX6_carry 18 = .ok (.dup, 1) := dbm_79.2.2.2.2
theorem dbm_80 : (((((decode cX6_carry 19 = .ok (.getfield 214, 3)) ∧ (decode cX6_carry 22 = .ok (.iconst 1, 1))) ∧ ((decode cX6_carry 23 = .ok (.iadd, 1)) ∧ (decode cX6_carry 24 = .ok (.putfield 214, 3)))) ∧ (((decode cX6_carry 27 = .ok (.aload_n 0, 1)) ∧ (decode cX6_carry 28 = .ok (.getfield 211, 3))) ∧ ((decode cX6_carry 31 = .ok (.aload_n 0, 1)) ∧ (decode cX6_carry 32 = .ok (.getfield 214, 3))))) ∧ ((((decode cX6_carry 35 = .ok (.iconst 1, 1)) ∧ (decode cX6_carry 36 = .ok (.isub, 1))) ∧ ((decode cX6_carry 37 = .ok (.iaload, 1)) ∧ (decode cX6_carry 38 = .ok (.ireturn, 1)))) ∧ (((decode cX6_carryAll 0 = .ok (.aload_n 0, 1)) ∧ (decode cX6_carryAll 1 = .ok (.aload_n 1, 1))) ∧ ((decode cX6_carryAll 2 = .ok (.putfield 211, 3)) ∧ (decode cX6_carryAll 5 = .ok (.aload_n 0, 1)))))) := by decide +kernel
theorem dX6_carry_19 : decode cX6_carry 19 = .ok (.getfield 214, 3) := dbm_80.1.1.1.1
theorem dX6_carry_22 : decode cX6_carry 22 = .ok (.iconst 1, 1) := dbm_80.1.1.1.2
theorem dX6_carry_23 : decode cX6_carry 23 = .ok (.iadd, 1) := dbm_80.1.1.2.1
theorem dX6_carry_24 : decode cX6_carry 24 = .ok (.putfield 214, 3) := dbm_80.1.1.2.2
theorem dX6_carry_27 : decode cX6_carry 27 = .ok (.aload_n 0, 1) := dbm_80.1.2.1.1
theorem dX6_carry_28 : decode cX6_carry 28 = .ok (.getfield 211, 3) := dbm_80.1.2.1.2
theorem dX6_carry_31 : decode cX6_carry 31 = .ok (.aload_n 0, 1) := dbm_80.1.2.2.1
theorem dX6_carry_32 : decode cX6_carry 32 = .ok (.getfield 214, 3) := dbm_80.1.2.2.2
theorem dX6_carry_35 : decode cX6_carry 35 = .ok (.iconst 1, 1) := dbm_80.2.1.1.1
theorem dX6_carry_36 : decode cX6_carry 36 = .ok (.isub, 1) := dbm_80.2.1.1.2
theorem dX6_carry_37 : decode cX6_carry 37 = .ok (.iaload, 1) := dbm_80.2.1.2.1
theorem dX6_carry_38 : decode cX6_carry 38 = .ok (.ireturn, 1) := dbm_80.2.1.2.2
theorem dX6_carryAll_0 : decode cX6_carryAll 0 = .ok (.aload_n 0, 1) := dbm_80.2.2.1.1
theorem dX6_carryAll_1 : decode cX6_carryAll 1 = .ok (.aload_n 1, 1) := dbm_80.2.2.1.2
theorem dX6_carryAll_2 : decode cX6_carryAll 2 = .ok (.putfield 211, 3) := dbm_80.2.2.2.1
theorem dX6_carryAll_5 : decode cX6_carryAll 5 = .ok (.aload_n 0, 1) := dbm_80.2.2.2.2
theorem dbm_81 : (((((decode cX6_carryAll 6 = .ok (.iload_n 2, 1)) ∧ (decode cX6_carryAll 7 = .ok (.putfield 208, 3))) ∧ ((decode cX6_carryAll 10 = .ok (.aload_n 0, 1)) ∧ (decode cX6_carryAll 11 = .ok (.iconst 0, 1)))) ∧ (((decode cX6_carryAll 12 = .ok (.putfield 214, 3)) ∧ (decode cX6_carryAll 15 = .ok (.aload_n 0, 1))) ∧ ((decode cX6_carryAll 16 = .ok (.aload_n 0, 1)) ∧ (decode cX6_carryAll 17 = .ok (.aload_n 0, 1))))) ∧ ((((decode cX6_carryAll 18 = .ok (.getfield 89, 3)) ∧ (decode cX6_carryAll 21 = .ok (.invokevirtual 217, 3))) ∧ ((decode cX6_carryAll 24 = .ok (.putfield 89, 3)) ∧ (decode cX6_carryAll 27 = .ok (.aload_n 0, 1)))) ∧ (((decode cX6_carryAll 28 = .ok (.aload_n 0, 1)) ∧ (decode cX6_carryAll 29 = .ok (.aload_n 0, 1))) ∧ ((decode cX6_carryAll 30 = .ok (.getfield 92, 3)) ∧ (decode cX6_carryAll 33 = .ok (.invokevirtual 217, 3)))))) := by decide +kernel
theorem dX6_carryAll_6 : decode cX6_carryAll 6 = .ok (.iload_n 2, 1) := dbm_81.1.1.1.1
theorem dX6_carryAll_7 : decode cX6_carryAll 7 = .ok (.putfield 208, 3) := dbm_81.1.1.1.2
theorem dX6_carryAll_10 : decode cX6_carryAll 10 = .ok (.aload_n 0, 1) := dbm_81.1.1.2.1
theorem dX6_carryAll_11 : decode cX6_carryAll 11 = .ok (.iconst 0, 1) := dbm_81.1.1.2.2
theorem dX6_carryAll_12 : decode cX6_carryAll 12 = .ok (.putfield 214, 3) := dbm_81.1.2.1.1
theorem dX6_carryAll_15 : decode cX6_carryAll 15 = .ok (.aload_n 0, 1) := dbm_81.1.2.1.2
theorem dX6_carryAll_16 : decode cX6_carryAll 16 = .ok (.aload_n 0, 1) := dbm_81.1.2.2.1
theorem dX6_carryAll_17 : decode cX6_carryAll 17 = .ok (.aload_n 0, 1) := dbm_81.1.2.2.2
theorem dX6_carryAll_18 : decode cX6_carryAll 18 = .ok (.getfield 89, 3) := dbm_81.2.1.1.1
theorem dX6_carryAll_21 : decode cX6_carryAll 21 = .ok (.invokevirtual 217, 3) := dbm_81.2.1.1.2
theorem dX6_carryAll_24 : decode cX6_carryAll 24 = .ok (.putfield 89, 3) := dbm_81.2.1.2.1
theorem dX6_carryAll_27 : decode cX6_carryAll 27 = .ok (.aload_n 0, 1) := dbm_81.2.1.2.2
theorem dX6_carryAll_28 : decode cX6_carryAll 28 = .ok (.aload_n 0, 1) := dbm_81.2.2.1.1
theorem dX6_carryAll_29 : decode cX6_carryAll 29 = .ok (.aload_n 0, 1) := dbm_81.2.2.1.2
theorem dX6_carryAll_30 : decode cX6_carryAll 30 = .ok (.getfield 92, 3) := dbm_81.2.2.2.1
theorem dX6_carryAll_33 : decode cX6_carryAll 33 = .ok (.invokevirtual 217, 3) := dbm_81.2.2.2.2
theorem dbm_82 : (((((decode cX6_carryAll 36 = .ok (.putfield 92, 3)) ∧ (decode cX6_carryAll 39 = .ok (.aload_n 0, 1))) ∧ ((decode cX6_carryAll 40 = .ok (.aload_n 0, 1)) ∧ (decode cX6_carryAll 41 = .ok (.aload_n 0, 1)))) ∧ (((decode cX6_carryAll 42 = .ok (.getfield 122, 3)) ∧ (decode cX6_carryAll 45 = .ok (.invokevirtual 217, 3))) ∧ ((decode cX6_carryAll 48 = .ok (.putfield 122, 3)) ∧ (decode cX6_carryAll 51 = .ok (.iconst 0, 1))))) ∧ ((((decode cX6_carryAll 52 = .ok (.istore_n 3, 1)) ∧ (decode cX6_carryAll 53 = .ok (.iload_n 3, 1))) ∧ ((decode cX6_carryAll 54 = .ok (.bipush 7, 2)) ∧ (decode cX6_carryAll 56 = .ok (.if_icmp .ge 73, 3)))) ∧ (((decode cX6_carryAll 59 = .ok (.aload_n 0, 1)) ∧ (decode cX6_carryAll 60 = .ok (.getfield 7, 3))) ∧ ((decode cX6_carryAll 63 = .ok (.iload_n 3, 1)) ∧ (decode cX6_carryAll 64 = .ok (.aload_n 0, 1)))))) := by decide +kernel
theorem dX6_carryAll_36 : decode cX6_carryAll 36 = .ok (.putfield 92, 3) := dbm_82.1.1.1.1
theorem dX6_carryAll_39 : decode cX6_carryAll 39 = .ok (.aload_n 0, 1) := dbm_82.1.1.1.2
theorem dX6_carryAll_40 : decode cX6_carryAll 40 = .ok (.aload_n 0, 1) := dbm_82.1.1.2.1
theorem dX6_carryAll_41 : decode cX6_carryAll 41 = .ok (.aload_n 0, 1) := dbm_82.1.1.2.2
theorem dX6_carryAll_42 : decode cX6_carryAll 42 = .ok (.getfield 122, 3) := dbm_82.1.2.1.1
theorem dX6_carryAll_45 : decode cX6_carryAll 45 = .ok (.invokevirtual 217, 3) := dbm_82.1.2.1.2
theorem dX6_carryAll_48 : decode cX6_carryAll 48 = .ok (.putfield 122, 3) := dbm_82.1.2.2.1
theorem dX6_carryAll_51 : decode cX6_carryAll 51 = .ok (.iconst 0, 1) := dbm_82.1.2.2.2
theorem dX6_carryAll_52 : decode cX6_carryAll 52 = .ok (.istore_n 3, 1) := dbm_82.2.1.1.1
theorem dX6_carryAll_53 : decode cX6_carryAll 53 = .ok (.iload_n 3, 1) := dbm_82.2.1.1.2
theorem dX6_carryAll_54 : decode cX6_carryAll 54 = .ok (.bipush 7, 2) := dbm_82.2.1.2.1
theorem dX6_carryAll_56 : decode cX6_carryAll 56 = .ok (.if_icmp .ge 73, 3) := dbm_82.2.1.2.2
theorem dX6_carryAll_59 : decode cX6_carryAll 59 = .ok (.aload_n 0, 1) := dbm_82.2.2.1.1
theorem dX6_carryAll_60 : decode cX6_carryAll 60 = .ok (.getfield 7, 3) := dbm_82.2.2.1.2
theorem dX6_carryAll_63 : decode cX6_carryAll 63 = .ok (.iload_n 3, 1) := dbm_82.2.2.2.1
theorem dX6_carryAll_64 : decode cX6_carryAll 64 = .ok (.aload_n 0, 1) := dbm_82.2.2.2.2
theorem dbm_83 : (((((decode cX6_carryAll 65 = .ok (.aload_n 0, 1)) ∧ (decode cX6_carryAll 66 = .ok (.getfield 7, 3))) ∧ ((decode cX6_carryAll 69 = .ok (.iload_n 3, 1)) ∧ (decode cX6_carryAll 70 = .ok (.iaload, 1)))) ∧ (((decode cX6_carryAll 71 = .ok (.invokevirtual 217, 3)) ∧ (decode cX6_carryAll 74 = .ok (.iastore, 1))) ∧ ((decode cX6_carryAll 75 = .ok (.aload_n 0, 1)) ∧ (decode cX6_carryAll 76 = .ok (.getfield 13, 3))))) ∧ ((((decode cX6_carryAll 79 = .ok (.iload_n 3, 1)) ∧ (decode cX6_carryAll 80 = .ok (.aload_n 0, 1))) ∧ ((decode cX6_carryAll 81 = .ok (.aload_n 0, 1)) ∧ (decode cX6_carryAll 82 = .ok (.getfield 13, 3)))) ∧ (((decode cX6_carryAll 85 = .ok (.iload_n 3, 1)) ∧ (decode cX6_carryAll 86 = .ok (.iaload, 1))) ∧ ((decode cX6_carryAll 87 = .ok (.invokevirtual 217, 3)) ∧ (decode cX6_carryAll 90 = .ok (.iastore, 1)))))) := by decide +kernel
theorem dX6_carryAll_65 : decode cX6_carryAll 65 = .ok (.aload_n 0, 1) := dbm_83.1.1.1.1
theorem dX6_carryAll_66 : decode cX6_carryAll 66 = .ok (.getfield 7, 3) := dbm_83.1.1.1.2
theorem dX6_carryAll_69 : decode cX6_carryAll 69 = .ok (.iload_n 3, 1) := dbm_83.1.1.2.1
theorem dX6_carryAll_70 : decode cX6_carryAll 70 = .ok (.iaload, 1) := dbm_83.1.1.2.2
theorem dX6_carryAll_71 : decode cX6_carryAll 71 = .ok (.invokevirtual 217, 3) := dbm_83.1.2.1.1
theorem dX6_carryAll_74 : decode cX6_carryAll 74 = .ok (.iastore, 1) := dbm_83.1.2.1.2
theorem dX6_carryAll_75 : decode cX6_carryAll 75 = .ok (.aload_n 0, 1) := dbm_83.1.2.2.1
theorem dX6_carryAll_76 : decode cX6_carryAll 76 = .ok (.getfield 13, 3) := dbm_83.1.2.2.2
theorem dX6_carryAll_79 : decode cX6_carryAll 79 = .ok (.iload_n 3, 1) := dbm_83.2.1.1.1
theorem dX6_carryAll_80 : decode cX6_carryAll 80 = .ok (.aload_n 0, 1) := dbm_83.2.1.1.2
theorem dX6_carryAll_81 : decode cX6_carryAll 81 = .ok (.aload_n 0, 1) := dbm_83.2.1.2.1
theorem dX6_carryAll_82 : decode cX6_carryAll 82 = .ok (.getfield 13, 3) := dbm_83.2.1.2.2
theorem dX6_carryAll_85 : decode cX6_carryAll 85 = .ok (.iload_n 3, 1) := dbm_83.2.2.1.1
theorem dX6_carryAll_86 : decode cX6_carryAll 86 = .ok (.iaload, 1) := dbm_83.2.2.1.2
theorem dX6_carryAll_87 : decode cX6_carryAll 87 = .ok (.invokevirtual 217, 3) := dbm_83.2.2.2.1
theorem dX6_carryAll_90 : decode cX6_carryAll 90 = .ok (.iastore, 1) := dbm_83.2.2.2.2
theorem dbm_84 : (((((decode cX6_carryAll 91 = .ok (.aload_n 0, 1)) ∧ (decode cX6_carryAll 92 = .ok (.getfield 16, 3))) ∧ ((decode cX6_carryAll 95 = .ok (.iload_n 3, 1)) ∧ (decode cX6_carryAll 96 = .ok (.aload_n 0, 1)))) ∧ (((decode cX6_carryAll 97 = .ok (.aload_n 0, 1)) ∧ (decode cX6_carryAll 98 = .ok (.getfield 16, 3))) ∧ ((decode cX6_carryAll 101 = .ok (.iload_n 3, 1)) ∧ (decode cX6_carryAll 102 = .ok (.iaload, 1))))) ∧ ((((decode cX6_carryAll 103 = .ok (.invokevirtual 217, 3)) ∧ (decode cX6_carryAll 106 = .ok (.iastore, 1))) ∧ ((decode cX6_carryAll 107 = .ok (.aload_n 0, 1)) ∧ (decode cX6_carryAll 108 = .ok (.getfield 19, 3)))) ∧ (((decode cX6_carryAll 111 = .ok (.iload_n 3, 1)) ∧ (decode cX6_carryAll 112 = .ok (.aload_n 0, 1))) ∧ ((decode cX6_carryAll 113 = .ok (.aload_n 0, 1)) ∧ (decode cX6_carryAll 114 = .ok (.getfield 19, 3)))))) := by decide +kernel
theorem dX6_carryAll_91 : decode cX6_carryAll 91 = .ok (.aload_n 0, 1) := dbm_84.1.1.1.1
theorem dX6_carryAll_92 : decode cX6_carryAll 92 = .ok (.getfield 16, 3) := dbm_84.1.1.1.2
theorem dX6_carryAll_95 : decode cX6_carryAll 95 = .ok (.iload_n 3, 1) := dbm_84.1.1.2.1
theorem dX6_carryAll_96 : decode cX6_carryAll 96 = .ok (.aload_n 0, 1) := dbm_84.1.1.2.2
theorem dX6_carryAll_97 : decode cX6_carryAll 97 = .ok (.aload_n 0, 1) := dbm_84.1.2.1.1
theorem dX6_carryAll_98 : decode cX6_carryAll 98 = .ok (.getfield 16, 3) := dbm_84.1.2.1.2
theorem dX6_carryAll_101 : decode cX6_carryAll 101 = .ok (.iload_n 3, 1) := dbm_84.1.2.2.1
theorem dX6_carryAll_102 : decode cX6_carryAll 102 = .ok (.iaload, 1) := dbm_84.1.2.2.2
theorem dX6_carryAll_103 : decode cX6_carryAll 103 = .ok (.invokevirtual 217, 3) := dbm_84.2.1.1.1
theorem dX6_carryAll_106 : decode cX6_carryAll 106 = .ok (.iastore, 1) := dbm_84.2.1.1.2
theorem dX6_carryAll_107 : decode cX6_carryAll 107 = .ok (.aload_n 0, 1) := dbm_84.2.1.2.1
theorem dX6_carryAll_108 : decode cX6_carryAll 108 = .ok (.getfield 19, 3) := dbm_84.2.1.2.2
theorem dX6_carryAll_111 : decode cX6_carryAll 111 = .ok (.iload_n 3, 1) := dbm_84.2.2.1.1
theorem dX6_carryAll_112 : decode cX6_carryAll 112 = .ok (.aload_n 0, 1) := dbm_84.2.2.1.2
theorem dX6_carryAll_113 : decode cX6_carryAll 113 = .ok (.aload_n 0, 1) := dbm_84.2.2.2.1
theorem dX6_carryAll_114 : decode cX6_carryAll 114 = .ok (.getfield 19, 3) := dbm_84.2.2.2.2
theorem dbm_85 : (((((decode cX6_carryAll 117 = .ok (.iload_n 3, 1)) ∧ (decode cX6_carryAll 118 = .ok (.iaload, 1))) ∧ ((decode cX6_carryAll 119 = .ok (.invokevirtual 217, 3)) ∧ (decode cX6_carryAll 122 = .ok (.iastore, 1)))) ∧ (((decode cX6_carryAll 123 = .ok (.iinc 3 1, 3)) ∧ (decode cX6_carryAll 126 = .ok (.goto (-73), 3))) ∧ ((decode cX6_carryAll 129 = .ok (.iconst 0, 1)) ∧ (decode cX6_carryAll 130 = .ok (.istore_n 3, 1))))) ∧ ((((decode cX6_carryAll 131 = .ok (.iload_n 3, 1)) ∧ (decode cX6_carryAll 132 = .ok (.bipush 6, 2))) ∧ ((decode cX6_carryAll 134 = .ok (.if_icmp .ge 57, 3)) ∧ (decode cX6_carryAll 137 = .ok (.aload_n 0, 1)))) ∧ (((decode cX6_carryAll 138 = .ok (.getfield 22, 3)) ∧ (decode cX6_carryAll 141 = .ok (.iload_n 3, 1))) ∧ ((decode cX6_carryAll 142 = .ok (.aload_n 0, 1)) ∧ (decode cX6_carryAll 143 = .ok (.aload_n 0, 1)))))) := by decide +kernel
theorem dX6_carryAll_117 : decode cX6_carryAll 117 = .ok (.iload_n 3, 1) := dbm_85.1.1.1.1
theorem dX6_carryAll_118 : decode cX6_carryAll 118 = .ok (.iaload, 1) := dbm_85.1.1.1.2
theorem dX6_carryAll_119 : decode cX6_carryAll 119 = .ok (.invokevirtual 217, 3) := dbm_85.1.1.2.1
theorem dX6_carryAll_122 : decode cX6_carryAll 122 = .ok (.iastore, 1) := dbm_85.1.1.2.2
theorem dX6_carryAll_123 : decode cX6_carryAll 123 = .ok (.iinc 3 1, 3) := dbm_85.1.2.1.1
theorem dX6_carryAll_126 : decode cX6_carryAll 126 = .ok (.goto (-73), 3) := dbm_85.1.2.1.2
theorem dX6_carryAll_129 : decode cX6_carryAll 129 = .ok (.iconst 0, 1) := dbm_85.1.2.2.1
theorem dX6_carryAll_130 : decode cX6_carryAll 130 = .ok (.istore_n 3, 1) := dbm_85.1.2.2.2
theorem dX6_carryAll_131 : decode cX6_carryAll 131 = .ok (.iload_n 3, 1) := dbm_85.2.1.1.1
theorem dX6_carryAll_132 : decode cX6_carryAll 132 = .ok (.bipush 6, 2) := dbm_85.2.1.1.2
theorem dX6_carryAll_134 : decode cX6_carryAll 134 = .ok (.if_icmp .ge 57, 3) := dbm_85.2.1.2.1
theorem dX6_carryAll_137 : decode cX6_carryAll 137 = .ok (.aload_n 0, 1) := dbm_85.2.1.2.2
theorem dX6_carryAll_138 : decode cX6_carryAll 138 = .ok (.getfield 22, 3) := dbm_85.2.2.1.1
theorem dX6_carryAll_141 : decode cX6_carryAll 141 = .ok (.iload_n 3, 1) := dbm_85.2.2.1.2
theorem dX6_carryAll_142 : decode cX6_carryAll 142 = .ok (.aload_n 0, 1) := dbm_85.2.2.2.1
theorem dX6_carryAll_143 : decode cX6_carryAll 143 = .ok (.aload_n 0, 1) := dbm_85.2.2.2.2
theorem dbm_86 : (((((decode cX6_carryAll 144 = .ok (.getfield 22, 3)) ∧ (decode cX6_carryAll 147 = .ok (.iload_n 3, 1))) ∧ ((decode cX6_carryAll 148 = .ok (.iaload, 1)) ∧ (decode cX6_carryAll 149 = .ok (.invokevirtual 217, 3)))) ∧ (((decode cX6_carryAll 152 = .ok (.iastore, 1)) ∧ (decode cX6_carryAll 153 = .ok (.aload_n 0, 1))) ∧ ((decode cX6_carryAll 154 = .ok (.getfield 25, 3)) ∧ (decode cX6_carryAll 157 = .ok (.iload_n 3, 1))))) ∧ ((((decode cX6_carryAll 158 = .ok (.aload_n 0, 1)) ∧ (decode cX6_carryAll 159 = .ok (.aload_n 0, 1))) ∧ ((decode cX6_carryAll 160 = .ok (.getfield 25, 3)) ∧ (decode cX6_carryAll 163 = .ok (.iload_n 3, 1)))) ∧ (((decode cX6_carryAll 164 = .ok (.iaload, 1)) ∧ (decode cX6_carryAll 165 = .ok (.invokevirtual 217, 3))) ∧ ((decode cX6_carryAll 168 = .ok (.iastore, 1)) ∧ (decode cX6_carryAll 169 = .ok (.aload_n 0, 1)))))) := by decide +kernel
theorem dX6_carryAll_144 : decode cX6_carryAll 144 = .ok (.getfield 22, 3) := dbm_86.1.1.1.1
theorem dX6_carryAll_147 : decode cX6_carryAll 147 = .ok (.iload_n 3, 1) := dbm_86.1.1.1.2
theorem dX6_carryAll_148 : decode cX6_carryAll 148 = .ok (.iaload, 1) := dbm_86.1.1.2.1
theorem dX6_carryAll_149 : decode cX6_carryAll 149 = .ok (.invokevirtual 217, 3) := dbm_86.1.1.2.2
theorem dX6_carryAll_152 : decode cX6_carryAll 152 = .ok (.iastore, 1) := dbm_86.1.2.1.1
theorem dX6_carryAll_153 : decode cX6_carryAll 153 = .ok (.aload_n 0, 1) := dbm_86.1.2.1.2
theorem dX6_carryAll_154 : decode cX6_carryAll 154 = .ok (.getfield 25, 3) := dbm_86.1.2.2.1
theorem dX6_carryAll_157 : decode cX6_carryAll 157 = .ok (.iload_n 3, 1) := dbm_86.1.2.2.2
theorem dX6_carryAll_158 : decode cX6_carryAll 158 = .ok (.aload_n 0, 1) := dbm_86.2.1.1.1
theorem dX6_carryAll_159 : decode cX6_carryAll 159 = .ok (.aload_n 0, 1) := dbm_86.2.1.1.2
theorem dX6_carryAll_160 : decode cX6_carryAll 160 = .ok (.getfield 25, 3) := dbm_86.2.1.2.1
theorem dX6_carryAll_163 : decode cX6_carryAll 163 = .ok (.iload_n 3, 1) := dbm_86.2.1.2.2
theorem dX6_carryAll_164 : decode cX6_carryAll 164 = .ok (.iaload, 1) := dbm_86.2.2.1.1
theorem dX6_carryAll_165 : decode cX6_carryAll 165 = .ok (.invokevirtual 217, 3) := dbm_86.2.2.1.2
theorem dX6_carryAll_168 : decode cX6_carryAll 168 = .ok (.iastore, 1) := dbm_86.2.2.2.1
theorem dX6_carryAll_169 : decode cX6_carryAll 169 = .ok (.aload_n 0, 1) := dbm_86.2.2.2.2
theorem dbm_87 : (((((decode cX6_carryAll 170 = .ok (.getfield 28, 3)) ∧ (decode cX6_carryAll 173 = .ok (.iload_n 3, 1))) ∧ ((decode cX6_carryAll 174 = .ok (.aload_n 0, 1)) ∧ (decode cX6_carryAll 175 = .ok (.aload_n 0, 1)))) ∧ (((decode cX6_carryAll 176 = .ok (.getfield 28, 3)) ∧ (decode cX6_carryAll 179 = .ok (.iload_n 3, 1))) ∧ ((decode cX6_carryAll 180 = .ok (.iaload, 1)) ∧ (decode cX6_carryAll 181 = .ok (.invokevirtual 217, 3))))) ∧ ((((decode cX6_carryAll 184 = .ok (.iastore, 1)) ∧ (decode cX6_carryAll 185 = .ok (.iinc 3 1, 3))) ∧ ((decode cX6_carryAll 188 = .ok (.goto (-57), 3)) ∧ (decode cX6_carryAll 191 = .ok (.iconst 0, 1)))) ∧ (((decode cX6_carryAll 192 = .ok (.istore_n 3, 1)) ∧ (decode cX6_carryAll 193 = .ok (.iload_n 3, 1))) ∧ ((decode cX6_carryAll 194 = .ok (.bipush 42, 2)) ∧ (decode cX6_carryAll 196 = .ok (.if_icmp .ge 25, 3)))))) := by decide +kernel
theorem dX6_carryAll_170 : decode cX6_carryAll 170 = .ok (.getfield 28, 3) := dbm_87.1.1.1.1
theorem dX6_carryAll_173 : decode cX6_carryAll 173 = .ok (.iload_n 3, 1) := dbm_87.1.1.1.2
theorem dX6_carryAll_174 : decode cX6_carryAll 174 = .ok (.aload_n 0, 1) := dbm_87.1.1.2.1
theorem dX6_carryAll_175 : decode cX6_carryAll 175 = .ok (.aload_n 0, 1) := dbm_87.1.1.2.2
theorem dX6_carryAll_176 : decode cX6_carryAll 176 = .ok (.getfield 28, 3) := dbm_87.1.2.1.1
theorem dX6_carryAll_179 : decode cX6_carryAll 179 = .ok (.iload_n 3, 1) := dbm_87.1.2.1.2
theorem dX6_carryAll_180 : decode cX6_carryAll 180 = .ok (.iaload, 1) := dbm_87.1.2.2.1
theorem dX6_carryAll_181 : decode cX6_carryAll 181 = .ok (.invokevirtual 217, 3) := dbm_87.1.2.2.2
theorem dX6_carryAll_184 : decode cX6_carryAll 184 = .ok (.iastore, 1) := dbm_87.2.1.1.1
theorem dX6_carryAll_185 : decode cX6_carryAll 185 = .ok (.iinc 3 1, 3) := dbm_87.2.1.1.2
theorem dX6_carryAll_188 : decode cX6_carryAll 188 = .ok (.goto (-57), 3) := dbm_87.2.1.2.1
theorem dX6_carryAll_191 : decode cX6_carryAll 191 = .ok (.iconst 0, 1) := dbm_87.2.1.2.2
theorem dX6_carryAll_192 : decode cX6_carryAll 192 = .ok (.istore_n 3, 1) := dbm_87.2.2.1.1
theorem dX6_carryAll_193 : decode cX6_carryAll 193 = .ok (.iload_n 3, 1) := dbm_87.2.2.1.2
theorem dX6_carryAll_194 : decode cX6_carryAll 194 = .ok (.bipush 42, 2) := dbm_87.2.2.2.1
theorem dX6_carryAll_196 : decode cX6_carryAll 196 = .ok (.if_icmp .ge 25, 3) := dbm_87.2.2.2.2
theorem dbm_88 : (((((decode cX6_carryAll 199 = .ok (.aload_n 0, 1)) ∧ (decode cX6_carryAll 200 = .ok (.getfield 31, 3))) ∧ ((decode cX6_carryAll 203 = .ok (.iload_n 3, 1)) ∧ (decode cX6_carryAll 204 = .ok (.aload_n 0, 1)))) ∧ (((decode cX6_carryAll 205 = .ok (.aload_n 0, 1)) ∧ (decode cX6_carryAll 206 = .ok (.getfield 31, 3))) ∧ ((decode cX6_carryAll 209 = .ok (.iload_n 3, 1)) ∧ (decode cX6_carryAll 210 = .ok (.iaload, 1))))) ∧ ((((decode cX6_carryAll 211 = .ok (.invokevirtual 217, 3)) ∧ (decode cX6_carryAll 214 = .ok (.iastore, 1))) ∧ ((decode cX6_carryAll 215 = .ok (.iinc 3 1, 3)) ∧ (decode cX6_carryAll 218 = .ok (.goto (-25), 3)))) ∧ (((decode cX6_carryAll 221 = .ok (.return_, 1)) ∧ (decode cX6_think 0 = .ok (.aload_n 0, 1))) ∧ ((decode cX6_think 1 = .ok (.aload_n 0, 1)) ∧ (decode cX6_think 2 = .ok (.getfield 49, 3)))))) := by decide +kernel
theorem dX6_carryAll_199 : decode cX6_carryAll 199 = .ok (.aload_n 0, 1) := dbm_88.1.1.1.1
theorem dX6_carryAll_200 : decode cX6_carryAll 200 = .ok (.getfield 31, 3) := dbm_88.1.1.1.2
theorem dX6_carryAll_203 : decode cX6_carryAll 203 = .ok (.iload_n 3, 1) := dbm_88.1.1.2.1
theorem dX6_carryAll_204 : decode cX6_carryAll 204 = .ok (.aload_n 0, 1) := dbm_88.1.1.2.2
theorem dX6_carryAll_205 : decode cX6_carryAll 205 = .ok (.aload_n 0, 1) := dbm_88.1.2.1.1
theorem dX6_carryAll_206 : decode cX6_carryAll 206 = .ok (.getfield 31, 3) := dbm_88.1.2.1.2
theorem dX6_carryAll_209 : decode cX6_carryAll 209 = .ok (.iload_n 3, 1) := dbm_88.1.2.2.1
theorem dX6_carryAll_210 : decode cX6_carryAll 210 = .ok (.iaload, 1) := dbm_88.1.2.2.2
theorem dX6_carryAll_211 : decode cX6_carryAll 211 = .ok (.invokevirtual 217, 3) := dbm_88.2.1.1.1
theorem dX6_carryAll_214 : decode cX6_carryAll 214 = .ok (.iastore, 1) := dbm_88.2.1.1.2
theorem dX6_carryAll_215 : decode cX6_carryAll 215 = .ok (.iinc 3 1, 3) := dbm_88.2.1.2.1
theorem dX6_carryAll_218 : decode cX6_carryAll 218 = .ok (.goto (-25), 3) := dbm_88.2.1.2.2
theorem dX6_carryAll_221 : decode cX6_carryAll 221 = .ok (.return_, 1) := dbm_88.2.2.1.1
theorem dX6_think_0 : decode cX6_think 0 = .ok (.aload_n 0, 1) := dbm_88.2.2.1.2
theorem dX6_think_1 : decode cX6_think 1 = .ok (.aload_n 0, 1) := dbm_88.2.2.2.1
theorem dX6_think_2 : decode cX6_think 2 = .ok (.getfield 49, 3) := dbm_88.2.2.2.2
theorem dbm_89 : (((((decode cX6_think 5 = .ok (.iconst 1, 1)) ∧ (decode cX6_think 6 = .ok (.invokevirtual 220, 3))) ∧ ((decode cX6_think 9 = .ok (.return_, 1)) ∧ (decode cX6_again 0 = .ok (.aload_n 0, 1)))) ∧ (((decode cX6_again 1 = .ok (.aload_n 0, 1)) ∧ (decode cX6_again 2 = .ok (.getfield 49, 3))) ∧ ((decode cX6_again 5 = .ok (.iconst 0, 1)) ∧ (decode cX6_again 6 = .ok (.invokevirtual 220, 3))))) ∧ ((((decode cX6_again 9 = .ok (.return_, 1)) ∧ (decode cX6_image 0 = .ok (.aload_n 0, 1))) ∧ ((decode cX6_image 1 = .ok (.iconst 0, 1)) ∧ (decode cX6_image 2 = .ok (.putfield 79, 3)))) ∧ (((decode cX6_image 5 = .ok (.aload_n 0, 1)) ∧ (decode cX6_image 6 = .ok (.iconst 1, 1))) ∧ ((decode cX6_image 7 = .ok (.putfield 224, 3)) ∧ (decode cX6_image 10 = .ok (.aload_n 0, 1)))))) := by decide +kernel
theorem dX6_think_5 : decode cX6_think 5 = .ok (.iconst 1, 1) := dbm_89.1.1.1.1
theorem dX6_think_6 : decode cX6_think 6 = .ok (.invokevirtual 220, 3) := dbm_89.1.1.1.2
theorem dX6_think_9 : decode cX6_think 9 = .ok (.return_, 1) := dbm_89.1.1.2.1
theorem dX6_again_0 : decode cX6_again 0 = .ok (.aload_n 0, 1) := dbm_89.1.1.2.2
theorem dX6_again_1 : decode cX6_again 1 = .ok (.aload_n 0, 1) := dbm_89.1.2.1.1
theorem dX6_again_2 : decode cX6_again 2 = .ok (.getfield 49, 3) := dbm_89.1.2.1.2
theorem dX6_again_5 : decode cX6_again 5 = .ok (.iconst 0, 1) := dbm_89.1.2.2.1
theorem dX6_again_6 : decode cX6_again 6 = .ok (.invokevirtual 220, 3) := dbm_89.1.2.2.2
theorem dX6_again_9 : decode cX6_again 9 = .ok (.return_, 1) := dbm_89.2.1.1.1
theorem dX6_image_0 : decode cX6_image 0 = .ok (.aload_n 0, 1) := dbm_89.2.1.1.2
theorem dX6_image_1 : decode cX6_image 1 = .ok (.iconst 0, 1) := dbm_89.2.1.2.1
theorem dX6_image_2 : decode cX6_image 2 = .ok (.putfield 79, 3) := dbm_89.2.1.2.2
theorem dX6_image_5 : decode cX6_image 5 = .ok (.aload_n 0, 1) := dbm_89.2.2.1.1
theorem dX6_image_6 : decode cX6_image 6 = .ok (.iconst 1, 1) := dbm_89.2.2.1.2
theorem dX6_image_7 : decode cX6_image 7 = .ok (.putfield 224, 3) := dbm_89.2.2.2.1
theorem dX6_image_10 : decode cX6_image 10 = .ok (.aload_n 0, 1) := dbm_89.2.2.2.2
theorem dbm_90 : (((((decode cX6_image 11 = .ok (.aload_n 0, 1)) ∧ (decode cX6_image 12 = .ok (.getfield 52, 3))) ∧ ((decode cX6_image 15 = .ok (.iconst 1, 1)) ∧ (decode cX6_image 16 = .ok (.invokevirtual 220, 3)))) ∧ (((decode cX6_image 19 = .ok (.aload_n 0, 1)) ∧ (decode cX6_image 20 = .ok (.getfield 122, 3))) ∧ ((decode cX6_image 23 = .ok (.ireturn, 1)) ∧ (decode cX6_restore 0 = .ok (.aload_n 0, 1))))) ∧ ((((decode cX6_restore 1 = .ok (.iconst 0, 1)) ∧ (decode cX6_restore 2 = .ok (.putfield 79, 3))) ∧ ((decode cX6_restore 5 = .ok (.aload_n 0, 1)) ∧ (decode cX6_restore 6 = .ok (.getfield 224, 3)))) ∧ (((decode cX6_restore 9 = .ok (.ifCond .ne 10, 3)) ∧ (decode cX6_restore 12 = .ok (.aload_n 0, 1))) ∧ ((decode cX6_restore 13 = .ok (.bipush (-3), 2)) ∧ (decode cX6_restore 15 = .ok (.invokevirtual 143, 3)))))) := by decide +kernel
theorem dX6_image_11 : decode cX6_image 11 = .ok (.aload_n 0, 1) := dbm_90.1.1.1.1
theorem dX6_image_12 : decode cX6_image 12 = .ok (.getfield 52, 3) := dbm_90.1.1.1.2
theorem dX6_image_15 : decode cX6_image 15 = .ok (.iconst 1, 1) := dbm_90.1.1.2.1
theorem dX6_image_16 : decode cX6_image 16 = .ok (.invokevirtual 220, 3) := dbm_90.1.1.2.2
theorem dX6_image_19 : decode cX6_image 19 = .ok (.aload_n 0, 1) := dbm_90.1.2.1.1
theorem dX6_image_20 : decode cX6_image 20 = .ok (.getfield 122, 3) := dbm_90.1.2.1.2
theorem dX6_image_23 : decode cX6_image 23 = .ok (.ireturn, 1) := dbm_90.1.2.2.1
theorem dX6_restore_0 : decode cX6_restore 0 = .ok (.aload_n 0, 1) := dbm_90.1.2.2.2
theorem dX6_restore_1 : decode cX6_restore 1 = .ok (.iconst 0, 1) := dbm_90.2.1.1.1
theorem dX6_restore_2 : decode cX6_restore 2 = .ok (.putfield 79, 3) := dbm_90.2.1.1.2
theorem dX6_restore_5 : decode cX6_restore 5 = .ok (.aload_n 0, 1) := dbm_90.2.1.2.1
theorem dX6_restore_6 : decode cX6_restore 6 = .ok (.getfield 224, 3) := dbm_90.2.1.2.2
theorem dX6_restore_9 : decode cX6_restore 9 = .ok (.ifCond .ne 10, 3) := dbm_90.2.2.1.1
theorem dX6_restore_12 : decode cX6_restore 12 = .ok (.aload_n 0, 1) := dbm_90.2.2.1.2
theorem dX6_restore_13 : decode cX6_restore 13 = .ok (.bipush (-3), 2) := dbm_90.2.2.2.1
theorem dX6_restore_15 : decode cX6_restore 15 = .ok (.invokevirtual 143, 3) := dbm_90.2.2.2.2
theorem dbm_91 : (((((decode cX6_restore 18 = .ok (.ireturn, 1)) ∧ (decode cX6_restore 19 = .ok (.aload_n 0, 1))) ∧ ((decode cX6_restore 20 = .ok (.aload_n 0, 1)) ∧ (decode cX6_restore 21 = .ok (.getfield 52, 3)))) ∧ (((decode cX6_restore 24 = .ok (.iconst 0, 1)) ∧ (decode cX6_restore 25 = .ok (.invokevirtual 220, 3))) ∧ ((decode cX6_restore 28 = .ok (.aload_n 0, 1)) ∧ (decode cX6_restore 29 = .ok (.iconst 0, 1))))) ∧ ((((decode cX6_restore 30 = .ok (.putfield 205, 3)) ∧ (decode cX6_restore 33 = .ok (.aload_n 0, 1))) ∧ ((decode cX6_restore 34 = .ok (.getfield 122, 3)) ∧ (decode cX6_restore 37 = .ok (.ireturn, 1)))) ∧ (((decode cX6_keepTurn 0 = .ok (.aload_n 0, 1)) ∧ (decode cX6_keepTurn 1 = .ok (.getfield 205, 3))) ∧ ((decode cX6_keepTurn 4 = .ok (.bipush 8, 2)) ∧ (decode cX6_keepTurn 6 = .ok (.if_icmp .ne 44, 3)))))) := by decide +kernel
theorem dX6_restore_18 : decode cX6_restore 18 = .ok (.ireturn, 1) := dbm_91.1.1.1.1
theorem dX6_restore_19 : decode cX6_restore 19 = .ok (.aload_n 0, 1) := dbm_91.1.1.1.2
theorem dX6_restore_20 : decode cX6_restore 20 = .ok (.aload_n 0, 1) := dbm_91.1.1.2.1
theorem dX6_restore_21 : decode cX6_restore 21 = .ok (.getfield 52, 3) := dbm_91.1.1.2.2
theorem dX6_restore_24 : decode cX6_restore 24 = .ok (.iconst 0, 1) := dbm_91.1.2.1.1
theorem dX6_restore_25 : decode cX6_restore 25 = .ok (.invokevirtual 220, 3) := dbm_91.1.2.1.2
theorem dX6_restore_28 : decode cX6_restore 28 = .ok (.aload_n 0, 1) := dbm_91.1.2.2.1
theorem dX6_restore_29 : decode cX6_restore 29 = .ok (.iconst 0, 1) := dbm_91.1.2.2.2
theorem dX6_restore_30 : decode cX6_restore 30 = .ok (.putfield 205, 3) := dbm_91.2.1.1.1
theorem dX6_restore_33 : decode cX6_restore 33 = .ok (.aload_n 0, 1) := dbm_91.2.1.1.2
theorem dX6_restore_34 : decode cX6_restore 34 = .ok (.getfield 122, 3) := dbm_91.2.1.2.1
theorem dX6_restore_37 : decode cX6_restore 37 = .ok (.ireturn, 1) := dbm_91.2.1.2.2
theorem dX6_keepTurn_0 : decode cX6_keepTurn 0 = .ok (.aload_n 0, 1) := dbm_91.2.2.1.1
theorem dX6_keepTurn_1 : decode cX6_keepTurn 1 = .ok (.getfield 205, 3) := dbm_91.2.2.1.2
theorem dX6_keepTurn_4 : decode cX6_keepTurn 4 = .ok (.bipush 8, 2) := dbm_91.2.2.2.1
theorem dX6_keepTurn_6 : decode cX6_keepTurn 6 = .ok (.if_icmp .ne 44, 3) := dbm_91.2.2.2.2
theorem dbm_92 : (((((decode cX6_keepTurn 9 = .ok (.bipush 91, 2)) ∧ (decode cX6_keepTurn 11 = .ok (.istore_n 1, 1))) ∧ ((decode cX6_keepTurn 12 = .ok (.iload_n 1, 1)) ∧ (decode cX6_keepTurn 13 = .ok (.sipush 728, 3)))) ∧ (((decode cX6_keepTurn 16 = .ok (.if_icmp .ge 24, 3)) ∧ (decode cX6_keepTurn 19 = .ok (.aload_n 0, 1))) ∧ ((decode cX6_keepTurn 20 = .ok (.getfield 55, 3)) ∧ (decode cX6_keepTurn 23 = .ok (.iload_n 1, 1))))) ∧ ((((decode cX6_keepTurn 24 = .ok (.bipush 91, 2)) ∧ (decode cX6_keepTurn 26 = .ok (.isub, 1))) ∧ ((decode cX6_keepTurn 27 = .ok (.aload_n 0, 1)) ∧ (decode cX6_keepTurn 28 = .ok (.getfield 55, 3)))) ∧ (((decode cX6_keepTurn 31 = .ok (.iload_n 1, 1)) ∧ (decode cX6_keepTurn 32 = .ok (.iaload, 1))) ∧ ((decode cX6_keepTurn 33 = .ok (.iastore, 1)) ∧ (decode cX6_keepTurn 34 = .ok (.iinc 1 1, 3)))))) := by decide +kernel
theorem dX6_keepTurn_9 : decode cX6_keepTurn 9 = .ok (.bipush 91, 2) := dbm_92.1.1.1.1
theorem dX6_keepTurn_11 : decode cX6_keepTurn 11 = .ok (.istore_n 1, 1) := dbm_92.1.1.1.2
theorem dX6_keepTurn_12 : decode cX6_keepTurn 12 = .ok (.iload_n 1, 1) := dbm_92.1.1.2.1
theorem dX6_keepTurn_13 : decode cX6_keepTurn 13 = .ok (.sipush 728, 3) := dbm_92.1.1.2.2
theorem dX6_keepTurn_16 : decode cX6_keepTurn 16 = .ok (.if_icmp .ge 24, 3) := dbm_92.1.2.1.1
theorem dX6_keepTurn_19 : decode cX6_keepTurn 19 = .ok (.aload_n 0, 1) := dbm_92.1.2.1.2
theorem dX6_keepTurn_20 : decode cX6_keepTurn 20 = .ok (.getfield 55, 3) := dbm_92.1.2.2.1
theorem dX6_keepTurn_23 : decode cX6_keepTurn 23 = .ok (.iload_n 1, 1) := dbm_92.1.2.2.2
theorem dX6_keepTurn_24 : decode cX6_keepTurn 24 = .ok (.bipush 91, 2) := dbm_92.2.1.1.1
theorem dX6_keepTurn_26 : decode cX6_keepTurn 26 = .ok (.isub, 1) := dbm_92.2.1.1.2
theorem dX6_keepTurn_27 : decode cX6_keepTurn 27 = .ok (.aload_n 0, 1) := dbm_92.2.1.2.1
theorem dX6_keepTurn_28 : decode cX6_keepTurn 28 = .ok (.getfield 55, 3) := dbm_92.2.1.2.2
theorem dX6_keepTurn_31 : decode cX6_keepTurn 31 = .ok (.iload_n 1, 1) := dbm_92.2.2.1.1
theorem dX6_keepTurn_32 : decode cX6_keepTurn 32 = .ok (.iaload, 1) := dbm_92.2.2.1.2
theorem dX6_keepTurn_33 : decode cX6_keepTurn 33 = .ok (.iastore, 1) := dbm_92.2.2.2.1
theorem dX6_keepTurn_34 : decode cX6_keepTurn 34 = .ok (.iinc 1 1, 3) := dbm_92.2.2.2.2
theorem dbm_93 : (((((decode cX6_keepTurn 37 = .ok (.goto (-25), 3)) ∧ (decode cX6_keepTurn 40 = .ok (.aload_n 0, 1))) ∧ ((decode cX6_keepTurn 41 = .ok (.dup, 1)) ∧ (decode cX6_keepTurn 42 = .ok (.getfield 205, 3)))) ∧ (((decode cX6_keepTurn 45 = .ok (.iconst 1, 1)) ∧ (decode cX6_keepTurn 46 = .ok (.isub, 1))) ∧ ((decode cX6_keepTurn 47 = .ok (.putfield 205, 3)) ∧ (decode cX6_keepTurn 50 = .ok (.aload_n 0, 1))))) ∧ ((((decode cX6_keepTurn 51 = .ok (.aload_n 0, 1)) ∧ (decode cX6_keepTurn 52 = .ok (.getfield 58, 3))) ∧ ((decode cX6_keepTurn 55 = .ok (.iconst 1, 1)) ∧ (decode cX6_keepTurn 56 = .ok (.invokevirtual 220, 3)))) ∧ (((decode cX6_keepTurn 59 = .ok (.iconst 0, 1)) ∧ (decode cX6_keepTurn 60 = .ok (.istore_n 1, 1))) ∧ ((decode cX6_keepTurn 61 = .ok (.iload_n 1, 1)) ∧ (decode cX6_keepTurn 62 = .ok (.bipush 91, 2)))))) := by decide +kernel
theorem dX6_keepTurn_37 : decode cX6_keepTurn 37 = .ok (.goto (-25), 3) := dbm_93.1.1.1.1
theorem dX6_keepTurn_40 : decode cX6_keepTurn 40 = .ok (.aload_n 0, 1) := dbm_93.1.1.1.2
theorem dX6_keepTurn_41 : decode cX6_keepTurn 41 = .ok (.dup, 1) := dbm_93.1.1.2.1
theorem dX6_keepTurn_42 : decode cX6_keepTurn 42 = .ok (.getfield 205, 3) := dbm_93.1.1.2.2
theorem dX6_keepTurn_45 : decode cX6_keepTurn 45 = .ok (.iconst 1, 1) := dbm_93.1.2.1.1
theorem dX6_keepTurn_46 : decode cX6_keepTurn 46 = .ok (.isub, 1) := dbm_93.1.2.1.2
theorem dX6_keepTurn_47 : decode cX6_keepTurn 47 = .ok (.putfield 205, 3) := dbm_93.1.2.2.1
theorem dX6_keepTurn_50 : decode cX6_keepTurn 50 = .ok (.aload_n 0, 1) := dbm_93.1.2.2.2
theorem dX6_keepTurn_51 : decode cX6_keepTurn 51 = .ok (.aload_n 0, 1) := dbm_93.2.1.1.1
theorem dX6_keepTurn_52 : decode cX6_keepTurn 52 = .ok (.getfield 58, 3) := dbm_93.2.1.1.2
theorem dX6_keepTurn_55 : decode cX6_keepTurn 55 = .ok (.iconst 1, 1) := dbm_93.2.1.2.1
theorem dX6_keepTurn_56 : decode cX6_keepTurn 56 = .ok (.invokevirtual 220, 3) := dbm_93.2.1.2.2
theorem dX6_keepTurn_59 : decode cX6_keepTurn 59 = .ok (.iconst 0, 1) := dbm_93.2.2.1.1
theorem dX6_keepTurn_60 : decode cX6_keepTurn 60 = .ok (.istore_n 1, 1) := dbm_93.2.2.1.2
theorem dX6_keepTurn_61 : decode cX6_keepTurn 61 = .ok (.iload_n 1, 1) := dbm_93.2.2.2.1
theorem dX6_keepTurn_62 : decode cX6_keepTurn 62 = .ok (.bipush 91, 2) := dbm_93.2.2.2.2
theorem dbm_94 : (((((decode cX6_keepTurn 64 = .ok (.if_icmp .ge 29, 3)) ∧ (decode cX6_keepTurn 67 = .ok (.aload_n 0, 1))) ∧ ((decode cX6_keepTurn 68 = .ok (.getfield 55, 3)) ∧ (decode cX6_keepTurn 71 = .ok (.bipush 91, 2)))) ∧ (((decode cX6_keepTurn 73 = .ok (.aload_n 0, 1)) ∧ (decode cX6_keepTurn 74 = .ok (.getfield 205, 3))) ∧ ((decode cX6_keepTurn 77 = .ok (.imul, 1)) ∧ (decode cX6_keepTurn 78 = .ok (.iload_n 1, 1))))) ∧ ((((decode cX6_keepTurn 79 = .ok (.iadd, 1)) ∧ (decode cX6_keepTurn 80 = .ok (.aload_n 0, 1))) ∧ ((decode cX6_keepTurn 81 = .ok (.getfield 58, 3)) ∧ (decode cX6_keepTurn 84 = .ok (.iload_n 1, 1)))) ∧ (((decode cX6_keepTurn 85 = .ok (.iaload, 1)) ∧ (decode cX6_keepTurn 86 = .ok (.iastore, 1))) ∧ ((decode cX6_keepTurn 87 = .ok (.iinc 1 1, 3)) ∧ (decode cX6_keepTurn 90 = .ok (.goto (-29), 3)))))) := by decide +kernel
theorem dX6_keepTurn_64 : decode cX6_keepTurn 64 = .ok (.if_icmp .ge 29, 3) := dbm_94.1.1.1.1
theorem dX6_keepTurn_67 : decode cX6_keepTurn 67 = .ok (.aload_n 0, 1) := dbm_94.1.1.1.2
theorem dX6_keepTurn_68 : decode cX6_keepTurn 68 = .ok (.getfield 55, 3) := dbm_94.1.1.2.1
theorem dX6_keepTurn_71 : decode cX6_keepTurn 71 = .ok (.bipush 91, 2) := dbm_94.1.1.2.2
theorem dX6_keepTurn_73 : decode cX6_keepTurn 73 = .ok (.aload_n 0, 1) := dbm_94.1.2.1.1
theorem dX6_keepTurn_74 : decode cX6_keepTurn 74 = .ok (.getfield 205, 3) := dbm_94.1.2.1.2
theorem dX6_keepTurn_77 : decode cX6_keepTurn 77 = .ok (.imul, 1) := dbm_94.1.2.2.1
theorem dX6_keepTurn_78 : decode cX6_keepTurn 78 = .ok (.iload_n 1, 1) := dbm_94.1.2.2.2
theorem dX6_keepTurn_79 : decode cX6_keepTurn 79 = .ok (.iadd, 1) := dbm_94.2.1.1.1
theorem dX6_keepTurn_80 : decode cX6_keepTurn 80 = .ok (.aload_n 0, 1) := dbm_94.2.1.1.2
theorem dX6_keepTurn_81 : decode cX6_keepTurn 81 = .ok (.getfield 58, 3) := dbm_94.2.1.2.1
theorem dX6_keepTurn_84 : decode cX6_keepTurn 84 = .ok (.iload_n 1, 1) := dbm_94.2.1.2.2
theorem dX6_keepTurn_85 : decode cX6_keepTurn 85 = .ok (.iaload, 1) := dbm_94.2.2.1.1
theorem dX6_keepTurn_86 : decode cX6_keepTurn 86 = .ok (.iastore, 1) := dbm_94.2.2.1.2
theorem dX6_keepTurn_87 : decode cX6_keepTurn 87 = .ok (.iinc 1 1, 3) := dbm_94.2.2.2.1
theorem dX6_keepTurn_90 : decode cX6_keepTurn 90 = .ok (.goto (-29), 3) := dbm_94.2.2.2.2
theorem dbm_95 : (((((decode cX6_keepTurn 93 = .ok (.aload_n 0, 1)) ∧ (decode cX6_keepTurn 94 = .ok (.dup, 1))) ∧ ((decode cX6_keepTurn 95 = .ok (.getfield 205, 3)) ∧ (decode cX6_keepTurn 98 = .ok (.iconst 1, 1)))) ∧ (((decode cX6_keepTurn 99 = .ok (.iadd, 1)) ∧ (decode cX6_keepTurn 100 = .ok (.putfield 205, 3))) ∧ ((decode cX6_keepTurn 103 = .ok (.return_, 1)) ∧ (decode cX6_back 0 = .ok (.aload_n 0, 1))))) ∧ ((((decode cX6_back 1 = .ok (.iconst 0, 1)) ∧ (decode cX6_back 2 = .ok (.putfield 79, 3))) ∧ ((decode cX6_back 5 = .ok (.aload_n 0, 1)) ∧ (decode cX6_back 6 = .ok (.getfield 205, 3)))) ∧ (((decode cX6_back 9 = .ok (.ifCond .ne 10, 3)) ∧ (decode cX6_back 12 = .ok (.aload_n 0, 1))) ∧ ((decode cX6_back 13 = .ok (.bipush (-3), 2)) ∧ (decode cX6_back 15 = .ok (.invokevirtual 143, 3)))))) := by decide +kernel
theorem dX6_keepTurn_93 : decode cX6_keepTurn 93 = .ok (.aload_n 0, 1) := dbm_95.1.1.1.1
theorem dX6_keepTurn_94 : decode cX6_keepTurn 94 = .ok (.dup, 1) := dbm_95.1.1.1.2
theorem dX6_keepTurn_95 : decode cX6_keepTurn 95 = .ok (.getfield 205, 3) := dbm_95.1.1.2.1
theorem dX6_keepTurn_98 : decode cX6_keepTurn 98 = .ok (.iconst 1, 1) := dbm_95.1.1.2.2
theorem dX6_keepTurn_99 : decode cX6_keepTurn 99 = .ok (.iadd, 1) := dbm_95.1.2.1.1
theorem dX6_keepTurn_100 : decode cX6_keepTurn 100 = .ok (.putfield 205, 3) := dbm_95.1.2.1.2
theorem dX6_keepTurn_103 : decode cX6_keepTurn 103 = .ok (.return_, 1) := dbm_95.1.2.2.1
theorem dX6_back_0 : decode cX6_back 0 = .ok (.aload_n 0, 1) := dbm_95.1.2.2.2
theorem dX6_back_1 : decode cX6_back 1 = .ok (.iconst 0, 1) := dbm_95.2.1.1.1
theorem dX6_back_2 : decode cX6_back 2 = .ok (.putfield 79, 3) := dbm_95.2.1.1.2
theorem dX6_back_5 : decode cX6_back 5 = .ok (.aload_n 0, 1) := dbm_95.2.1.2.1
theorem dX6_back_6 : decode cX6_back 6 = .ok (.getfield 205, 3) := dbm_95.2.1.2.2
theorem dX6_back_9 : decode cX6_back 9 = .ok (.ifCond .ne 10, 3) := dbm_95.2.2.1.1
theorem dX6_back_12 : decode cX6_back 12 = .ok (.aload_n 0, 1) := dbm_95.2.2.1.2
theorem dX6_back_13 : decode cX6_back 13 = .ok (.bipush (-3), 2) := dbm_95.2.2.2.1
theorem dX6_back_15 : decode cX6_back 15 = .ok (.invokevirtual 143, 3) := dbm_95.2.2.2.2
theorem dbm_96 : (((((decode cX6_back 18 = .ok (.ireturn, 1)) ∧ (decode cX6_back 19 = .ok (.aload_n 0, 1))) ∧ ((decode cX6_back 20 = .ok (.dup, 1)) ∧ (decode cX6_back 21 = .ok (.getfield 205, 3)))) ∧ (((decode cX6_back 24 = .ok (.iconst 1, 1)) ∧ (decode cX6_back 25 = .ok (.isub, 1))) ∧ ((decode cX6_back 26 = .ok (.putfield 205, 3)) ∧ (decode cX6_back 29 = .ok (.iconst 0, 1))))) ∧ ((((decode cX6_back 30 = .ok (.istore_n 1, 1)) ∧ (decode cX6_back 31 = .ok (.iload_n 1, 1))) ∧ ((decode cX6_back 32 = .ok (.bipush 91, 2)) ∧ (decode cX6_back 34 = .ok (.if_icmp .ge 29, 3)))) ∧ (((decode cX6_back 37 = .ok (.aload_n 0, 1)) ∧ (decode cX6_back 38 = .ok (.getfield 58, 3))) ∧ ((decode cX6_back 41 = .ok (.iload_n 1, 1)) ∧ (decode cX6_back 42 = .ok (.aload_n 0, 1)))))) := by decide +kernel
theorem dX6_back_18 : decode cX6_back 18 = .ok (.ireturn, 1) := dbm_96.1.1.1.1
theorem dX6_back_19 : decode cX6_back 19 = .ok (.aload_n 0, 1) := dbm_96.1.1.1.2
theorem dX6_back_20 : decode cX6_back 20 = .ok (.dup, 1) := dbm_96.1.1.2.1
theorem dX6_back_21 : decode cX6_back 21 = .ok (.getfield 205, 3) := dbm_96.1.1.2.2
theorem dX6_back_24 : decode cX6_back 24 = .ok (.iconst 1, 1) := dbm_96.1.2.1.1
theorem dX6_back_25 : decode cX6_back 25 = .ok (.isub, 1) := dbm_96.1.2.1.2
theorem dX6_back_26 : decode cX6_back 26 = .ok (.putfield 205, 3) := dbm_96.1.2.2.1
theorem dX6_back_29 : decode cX6_back 29 = .ok (.iconst 0, 1) := dbm_96.1.2.2.2
theorem dX6_back_30 : decode cX6_back 30 = .ok (.istore_n 1, 1) := dbm_96.2.1.1.1
theorem dX6_back_31 : decode cX6_back 31 = .ok (.iload_n 1, 1) := dbm_96.2.1.1.2
theorem dX6_back_32 : decode cX6_back 32 = .ok (.bipush 91, 2) := dbm_96.2.1.2.1
theorem dX6_back_34 : decode cX6_back 34 = .ok (.if_icmp .ge 29, 3) := dbm_96.2.1.2.2
theorem dX6_back_37 : decode cX6_back 37 = .ok (.aload_n 0, 1) := dbm_96.2.2.1.1
theorem dX6_back_38 : decode cX6_back 38 = .ok (.getfield 58, 3) := dbm_96.2.2.1.2
theorem dX6_back_41 : decode cX6_back 41 = .ok (.iload_n 1, 1) := dbm_96.2.2.2.1
theorem dX6_back_42 : decode cX6_back 42 = .ok (.aload_n 0, 1) := dbm_96.2.2.2.2
theorem dbm_97 : (((((decode cX6_back 43 = .ok (.getfield 55, 3)) ∧ (decode cX6_back 46 = .ok (.bipush 91, 2))) ∧ ((decode cX6_back 48 = .ok (.aload_n 0, 1)) ∧ (decode cX6_back 49 = .ok (.getfield 205, 3)))) ∧ (((decode cX6_back 52 = .ok (.imul, 1)) ∧ (decode cX6_back 53 = .ok (.iload_n 1, 1))) ∧ ((decode cX6_back 54 = .ok (.iadd, 1)) ∧ (decode cX6_back 55 = .ok (.iaload, 1))))) ∧ ((((decode cX6_back 56 = .ok (.iastore, 1)) ∧ (decode cX6_back 57 = .ok (.iinc 1 1, 3))) ∧ ((decode cX6_back 60 = .ok (.goto (-29), 3)) ∧ (decode cX6_back 63 = .ok (.aload_n 0, 1)))) ∧ (((decode cX6_back 64 = .ok (.aload_n 0, 1)) ∧ (decode cX6_back 65 = .ok (.getfield 58, 3))) ∧ ((decode cX6_back 68 = .ok (.iconst 0, 1)) ∧ (decode cX6_back 69 = .ok (.invokevirtual 220, 3)))))) := by decide +kernel
theorem dX6_back_43 : decode cX6_back 43 = .ok (.getfield 55, 3) := dbm_97.1.1.1.1
theorem dX6_back_46 : decode cX6_back 46 = .ok (.bipush 91, 2) := dbm_97.1.1.1.2
theorem dX6_back_48 : decode cX6_back 48 = .ok (.aload_n 0, 1) := dbm_97.1.1.2.1
theorem dX6_back_49 : decode cX6_back 49 = .ok (.getfield 205, 3) := dbm_97.1.1.2.2
theorem dX6_back_52 : decode cX6_back 52 = .ok (.imul, 1) := dbm_97.1.2.1.1
theorem dX6_back_53 : decode cX6_back 53 = .ok (.iload_n 1, 1) := dbm_97.1.2.1.2
theorem dX6_back_54 : decode cX6_back 54 = .ok (.iadd, 1) := dbm_97.1.2.2.1
theorem dX6_back_55 : decode cX6_back 55 = .ok (.iaload, 1) := dbm_97.1.2.2.2
theorem dX6_back_56 : decode cX6_back 56 = .ok (.iastore, 1) := dbm_97.2.1.1.1
theorem dX6_back_57 : decode cX6_back 57 = .ok (.iinc 1 1, 3) := dbm_97.2.1.1.2
theorem dX6_back_60 : decode cX6_back 60 = .ok (.goto (-29), 3) := dbm_97.2.1.2.1
theorem dX6_back_63 : decode cX6_back 63 = .ok (.aload_n 0, 1) := dbm_97.2.1.2.2
theorem dX6_back_64 : decode cX6_back 64 = .ok (.aload_n 0, 1) := dbm_97.2.2.1.1
theorem dX6_back_65 : decode cX6_back 65 = .ok (.getfield 58, 3) := dbm_97.2.2.1.2
theorem dX6_back_68 : decode cX6_back 68 = .ok (.iconst 0, 1) := dbm_97.2.2.2.1
theorem dX6_back_69 : decode cX6_back 69 = .ok (.invokevirtual 220, 3) := dbm_97.2.2.2.2
theorem dbm_98 : (((((decode cX6_back 72 = .ok (.aload_n 0, 1)) ∧ (decode cX6_back 73 = .ok (.getfield 205, 3))) ∧ ((decode cX6_back 76 = .ok (.ireturn, 1)) ∧ (decode cX6_seersOf 0 = .ok (.iconst 0, 1)))) ∧ (((decode cX6_seersOf 1 = .ok (.istore_n 2, 1)) ∧ (decode cX6_seersOf 2 = .ok (.iconst 0, 1))) ∧ ((decode cX6_seersOf 3 = .ok (.istore_n 3, 1)) ∧ (decode cX6_seersOf 4 = .ok (.iload_n 3, 1))))) ∧ ((((decode cX6_seersOf 5 = .ok (.aload_n 0, 1)) ∧ (decode cX6_seersOf 6 = .ok (.getfield 92, 3))) ∧ ((decode cX6_seersOf 9 = .ok (.if_icmp .ge 34, 3)) ∧ (decode cX6_seersOf 12 = .ok (.iload_n 2, 1)))) ∧ (((decode cX6_seersOf 13 = .ok (.aload_n 0, 1)) ∧ (decode cX6_seersOf 14 = .ok (.iload_n 3, 1))) ∧ ((decode cX6_seersOf 15 = .ok (.aload_n 0, 1)) ∧ (decode cX6_seersOf 16 = .ok (.getfield 22, 3)))))) := by decide +kernel
theorem dX6_back_72 : decode cX6_back 72 = .ok (.aload_n 0, 1) := dbm_98.1.1.1.1
theorem dX6_back_73 : decode cX6_back 73 = .ok (.getfield 205, 3) := dbm_98.1.1.1.2
theorem dX6_back_76 : decode cX6_back 76 = .ok (.ireturn, 1) := dbm_98.1.1.2.1
theorem dX6_seersOf_0 : decode cX6_seersOf 0 = .ok (.iconst 0, 1) := dbm_98.1.1.2.2
theorem dX6_seersOf_1 : decode cX6_seersOf 1 = .ok (.istore_n 2, 1) := dbm_98.1.2.1.1
theorem dX6_seersOf_2 : decode cX6_seersOf 2 = .ok (.iconst 0, 1) := dbm_98.1.2.1.2
theorem dX6_seersOf_3 : decode cX6_seersOf 3 = .ok (.istore_n 3, 1) := dbm_98.1.2.2.1
theorem dX6_seersOf_4 : decode cX6_seersOf 4 = .ok (.iload_n 3, 1) := dbm_98.1.2.2.2
theorem dX6_seersOf_5 : decode cX6_seersOf 5 = .ok (.aload_n 0, 1) := dbm_98.2.1.1.1
theorem dX6_seersOf_6 : decode cX6_seersOf 6 = .ok (.getfield 92, 3) := dbm_98.2.1.1.2
theorem dX6_seersOf_9 : decode cX6_seersOf 9 = .ok (.if_icmp .ge 34, 3) := dbm_98.2.1.2.1
theorem dX6_seersOf_12 : decode cX6_seersOf 12 = .ok (.iload_n 2, 1) := dbm_98.2.1.2.2
theorem dX6_seersOf_13 : decode cX6_seersOf 13 = .ok (.aload_n 0, 1) := dbm_98.2.2.1.1
theorem dX6_seersOf_14 : decode cX6_seersOf 14 = .ok (.iload_n 3, 1) := dbm_98.2.2.1.2
theorem dX6_seersOf_15 : decode cX6_seersOf 15 = .ok (.aload_n 0, 1) := dbm_98.2.2.2.1
theorem dX6_seersOf_16 : decode cX6_seersOf 16 = .ok (.getfield 22, 3) := dbm_98.2.2.2.2
theorem dbm_99 : (((((decode cX6_seersOf 19 = .ok (.iload_n 3, 1)) ∧ (decode cX6_seersOf 20 = .ok (.iaload, 1))) ∧ ((decode cX6_seersOf 21 = .ok (.iload_n 1, 1)) ∧ (decode cX6_seersOf 22 = .ok (.invokevirtual 106, 3)))) ∧ (((decode cX6_seersOf 25 = .ok (.ifCond .eq 9, 3)) ∧ (decode cX6_seersOf 28 = .ok (.iconst 1, 1))) ∧ ((decode cX6_seersOf 29 = .ok (.iload_n 3, 1)) ∧ (decode cX6_seersOf 30 = .ok (.ishl, 1))))) ∧ ((((decode cX6_seersOf 31 = .ok (.goto 4, 3)) ∧ (decode cX6_seersOf 34 = .ok (.iconst 0, 1))) ∧ ((decode cX6_seersOf 35 = .ok (.ior, 1)) ∧ (decode cX6_seersOf 36 = .ok (.istore_n 2, 1)))) ∧ (((decode cX6_seersOf 37 = .ok (.iinc 3 1, 3)) ∧ (decode cX6_seersOf 40 = .ok (.goto (-36), 3))) ∧ ((decode cX6_seersOf 43 = .ok (.iload_n 2, 1)) ∧ (decode cX6_seersOf 44 = .ok (.ireturn, 1)))))) := by decide +kernel
theorem dX6_seersOf_19 : decode cX6_seersOf 19 = .ok (.iload_n 3, 1) := dbm_99.1.1.1.1
theorem dX6_seersOf_20 : decode cX6_seersOf 20 = .ok (.iaload, 1) := dbm_99.1.1.1.2
theorem dX6_seersOf_21 : decode cX6_seersOf 21 = .ok (.iload_n 1, 1) := dbm_99.1.1.2.1
theorem dX6_seersOf_22 : decode cX6_seersOf 22 = .ok (.invokevirtual 106, 3) := dbm_99.1.1.2.2
theorem dX6_seersOf_25 : decode cX6_seersOf 25 = .ok (.ifCond .eq 9, 3) := dbm_99.1.2.1.1
theorem dX6_seersOf_28 : decode cX6_seersOf 28 = .ok (.iconst 1, 1) := dbm_99.1.2.1.2
theorem dX6_seersOf_29 : decode cX6_seersOf 29 = .ok (.iload_n 3, 1) := dbm_99.1.2.2.1
theorem dX6_seersOf_30 : decode cX6_seersOf 30 = .ok (.ishl, 1) := dbm_99.1.2.2.2
theorem dX6_seersOf_31 : decode cX6_seersOf 31 = .ok (.goto 4, 3) := dbm_99.2.1.1.1
theorem dX6_seersOf_34 : decode cX6_seersOf 34 = .ok (.iconst 0, 1) := dbm_99.2.1.1.2
theorem dX6_seersOf_35 : decode cX6_seersOf 35 = .ok (.ior, 1) := dbm_99.2.1.2.1
theorem dX6_seersOf_36 : decode cX6_seersOf 36 = .ok (.istore_n 2, 1) := dbm_99.2.1.2.2
theorem dX6_seersOf_37 : decode cX6_seersOf 37 = .ok (.iinc 3 1, 3) := dbm_99.2.2.1.1
theorem dX6_seersOf_40 : decode cX6_seersOf 40 = .ok (.goto (-36), 3) := dbm_99.2.2.1.2
theorem dX6_seersOf_43 : decode cX6_seersOf 43 = .ok (.iload_n 2, 1) := dbm_99.2.2.2.1
theorem dX6_seersOf_44 : decode cX6_seersOf 44 = .ok (.ireturn, 1) := dbm_99.2.2.2.2
theorem dbm_100 : (((((decode cX6_houseOf 0 = .ok (.aload_n 0, 1)) ∧ (decode cX6_houseOf 1 = .ok (.iconst 0, 1))) ∧ ((decode cX6_houseOf 2 = .ok (.putfield 79, 3)) ∧ (decode cX6_houseOf 5 = .ok (.aload_n 0, 1)))) ∧ (((decode cX6_houseOf 6 = .ok (.iload_n 1, 1)) ∧ (decode cX6_houseOf 7 = .ok (.invokevirtual 181, 3))) ∧ ((decode cX6_houseOf 10 = .ok (.ifCond .eq 15, 3)) ∧ (decode cX6_houseOf 13 = .ok (.iload_n 2, 1))))) ∧ ((((decode cX6_houseOf 14 = .ok (.i2l, 1)) ∧ (decode cX6_houseOf 15 = .ok (.lconst 0, 1))) ∧ ((decode cX6_houseOf 16 = .ok (.ldc2_w 227, 3)) ∧ (decode cX6_houseOf 19 = .ok (.invokestatic 85, 3)))) ∧ (((decode cX6_houseOf 22 = .ok (.ifCond .ne 22, 3)) ∧ (decode cX6_houseOf 25 = .ok (.aload_n 0, 1))) ∧ ((decode cX6_houseOf 26 = .ok (.aload_n 0, 1)) ∧ (decode cX6_houseOf 27 = .ok (.iload_n 1, 1)))))) := by decide +kernel
theorem dX6_houseOf_0 : decode cX6_houseOf 0 = .ok (.aload_n 0, 1) := dbm_100.1.1.1.1
theorem dX6_houseOf_1 : decode cX6_houseOf 1 = .ok (.iconst 0, 1) := dbm_100.1.1.1.2
theorem dX6_houseOf_2 : decode cX6_houseOf 2 = .ok (.putfield 79, 3) := dbm_100.1.1.2.1
theorem dX6_houseOf_5 : decode cX6_houseOf 5 = .ok (.aload_n 0, 1) := dbm_100.1.1.2.2
theorem dX6_houseOf_6 : decode cX6_houseOf 6 = .ok (.iload_n 1, 1) := dbm_100.1.2.1.1
theorem dX6_houseOf_7 : decode cX6_houseOf 7 = .ok (.invokevirtual 181, 3) := dbm_100.1.2.1.2
theorem dX6_houseOf_10 : decode cX6_houseOf 10 = .ok (.ifCond .eq 15, 3) := dbm_100.1.2.2.1
theorem dX6_houseOf_13 : decode cX6_houseOf 13 = .ok (.iload_n 2, 1) := dbm_100.1.2.2.2
theorem dX6_houseOf_14 : decode cX6_houseOf 14 = .ok (.i2l, 1) := dbm_100.2.1.1.1
theorem dX6_houseOf_15 : decode cX6_houseOf 15 = .ok (.lconst 0, 1) := dbm_100.2.1.1.2
theorem dX6_houseOf_16 : decode cX6_houseOf 16 = .ok (.ldc2_w 227, 3) := dbm_100.2.1.2.1
theorem dX6_houseOf_19 : decode cX6_houseOf 19 = .ok (.invokestatic 85, 3) := dbm_100.2.1.2.2
theorem dX6_houseOf_22 : decode cX6_houseOf 22 = .ok (.ifCond .ne 22, 3) := dbm_100.2.2.1.1
theorem dX6_houseOf_25 : decode cX6_houseOf 25 = .ok (.aload_n 0, 1) := dbm_100.2.2.1.2
theorem dX6_houseOf_26 : decode cX6_houseOf 26 = .ok (.aload_n 0, 1) := dbm_100.2.2.2.1
theorem dX6_houseOf_27 : decode cX6_houseOf 27 = .ok (.iload_n 1, 1) := dbm_100.2.2.2.2
theorem dbm_101 : (((((decode cX6_houseOf 28 = .ok (.invokevirtual 181, 3)) ∧ (decode cX6_houseOf 31 = .ok (.ifCond .eq 8, 3))) ∧ ((decode cX6_houseOf 34 = .ok (.bipush (-2), 2)) ∧ (decode cX6_houseOf 36 = .ok (.goto 4, 3)))) ∧ (((decode cX6_houseOf 39 = .ok (.iconst (-1), 1)) ∧ (decode cX6_houseOf 40 = .ok (.invokevirtual 143, 3))) ∧ ((decode cX6_houseOf 43 = .ok (.ireturn, 1)) ∧ (decode cX6_houseOf 44 = .ok (.iload_n 2, 1))))) ∧ ((((decode cX6_houseOf 45 = .ok (.tableswitch 90 0 6 #[43, 50, 57, 64, 71, 77, 84], 43)) ∧ (decode cX6_houseOf 88 = .ok (.aload_n 0, 1))) ∧ ((decode cX6_houseOf 89 = .ok (.getfield 7, 3)) ∧ (decode cX6_houseOf 92 = .ok (.iload_n 1, 1)))) ∧ (((decode cX6_houseOf 93 = .ok (.iaload, 1)) ∧ (decode cX6_houseOf 94 = .ok (.ireturn, 1))) ∧ ((decode cX6_houseOf 95 = .ok (.aload_n 0, 1)) ∧ (decode cX6_houseOf 96 = .ok (.getfield 13, 3)))))) := by decide +kernel
theorem dX6_houseOf_28 : decode cX6_houseOf 28 = .ok (.invokevirtual 181, 3) := dbm_101.1.1.1.1
theorem dX6_houseOf_31 : decode cX6_houseOf 31 = .ok (.ifCond .eq 8, 3) := dbm_101.1.1.1.2
theorem dX6_houseOf_34 : decode cX6_houseOf 34 = .ok (.bipush (-2), 2) := dbm_101.1.1.2.1
theorem dX6_houseOf_36 : decode cX6_houseOf 36 = .ok (.goto 4, 3) := dbm_101.1.1.2.2
theorem dX6_houseOf_39 : decode cX6_houseOf 39 = .ok (.iconst (-1), 1) := dbm_101.1.2.1.1
theorem dX6_houseOf_40 : decode cX6_houseOf 40 = .ok (.invokevirtual 143, 3) := dbm_101.1.2.1.2
theorem dX6_houseOf_43 : decode cX6_houseOf 43 = .ok (.ireturn, 1) := dbm_101.1.2.2.1
theorem dX6_houseOf_44 : decode cX6_houseOf 44 = .ok (.iload_n 2, 1) := dbm_101.1.2.2.2
theorem dX6_houseOf_45 : decode cX6_houseOf 45 = .ok (.tableswitch 90 0 6 #[43, 50, 57, 64, 71, 77, 84], 43) := dbm_101.2.1.1.1
theorem dX6_houseOf_88 : decode cX6_houseOf 88 = .ok (.aload_n 0, 1) := dbm_101.2.1.1.2
theorem dX6_houseOf_89 : decode cX6_houseOf 89 = .ok (.getfield 7, 3) := dbm_101.2.1.2.1
theorem dX6_houseOf_92 : decode cX6_houseOf 92 = .ok (.iload_n 1, 1) := dbm_101.2.1.2.2
theorem dX6_houseOf_93 : decode cX6_houseOf 93 = .ok (.iaload, 1) := dbm_101.2.2.1.1
theorem dX6_houseOf_94 : decode cX6_houseOf 94 = .ok (.ireturn, 1) := dbm_101.2.2.1.2
theorem dX6_houseOf_95 : decode cX6_houseOf 95 = .ok (.aload_n 0, 1) := dbm_101.2.2.2.1
theorem dX6_houseOf_96 : decode cX6_houseOf 96 = .ok (.getfield 13, 3) := dbm_101.2.2.2.2
theorem dbm_102 : (((((decode cX6_houseOf 99 = .ok (.iload_n 1, 1)) ∧ (decode cX6_houseOf 100 = .ok (.iaload, 1))) ∧ ((decode cX6_houseOf 101 = .ok (.ireturn, 1)) ∧ (decode cX6_houseOf 102 = .ok (.aload_n 0, 1)))) ∧ (((decode cX6_houseOf 103 = .ok (.getfield 16, 3)) ∧ (decode cX6_houseOf 106 = .ok (.iload_n 1, 1))) ∧ ((decode cX6_houseOf 107 = .ok (.iaload, 1)) ∧ (decode cX6_houseOf 108 = .ok (.ireturn, 1))))) ∧ ((((decode cX6_houseOf 109 = .ok (.aload_n 0, 1)) ∧ (decode cX6_houseOf 110 = .ok (.getfield 19, 3))) ∧ ((decode cX6_houseOf 113 = .ok (.iload_n 1, 1)) ∧ (decode cX6_houseOf 114 = .ok (.iaload, 1)))) ∧ (((decode cX6_houseOf 115 = .ok (.ireturn, 1)) ∧ (decode cX6_houseOf 116 = .ok (.aload_n 0, 1))) ∧ ((decode cX6_houseOf 117 = .ok (.iload_n 1, 1)) ∧ (decode cX6_houseOf 118 = .ok (.invokevirtual 99, 3)))))) := by decide +kernel
theorem dX6_houseOf_99 : decode cX6_houseOf 99 = .ok (.iload_n 1, 1) := dbm_102.1.1.1.1
theorem dX6_houseOf_100 : decode cX6_houseOf 100 = .ok (.iaload, 1) := dbm_102.1.1.1.2
theorem dX6_houseOf_101 : decode cX6_houseOf 101 = .ok (.ireturn, 1) := dbm_102.1.1.2.1
theorem dX6_houseOf_102 : decode cX6_houseOf 102 = .ok (.aload_n 0, 1) := dbm_102.1.1.2.2
theorem dX6_houseOf_103 : decode cX6_houseOf 103 = .ok (.getfield 16, 3) := dbm_102.1.2.1.1
theorem dX6_houseOf_106 : decode cX6_houseOf 106 = .ok (.iload_n 1, 1) := dbm_102.1.2.1.2
theorem dX6_houseOf_107 : decode cX6_houseOf 107 = .ok (.iaload, 1) := dbm_102.1.2.2.1
theorem dX6_houseOf_108 : decode cX6_houseOf 108 = .ok (.ireturn, 1) := dbm_102.1.2.2.2
theorem dX6_houseOf_109 : decode cX6_houseOf 109 = .ok (.aload_n 0, 1) := dbm_102.2.1.1.1
theorem dX6_houseOf_110 : decode cX6_houseOf 110 = .ok (.getfield 19, 3) := dbm_102.2.1.1.2
theorem dX6_houseOf_113 : decode cX6_houseOf 113 = .ok (.iload_n 1, 1) := dbm_102.2.1.2.1
theorem dX6_houseOf_114 : decode cX6_houseOf 114 = .ok (.iaload, 1) := dbm_102.2.1.2.2
theorem dX6_houseOf_115 : decode cX6_houseOf 115 = .ok (.ireturn, 1) := dbm_102.2.2.1.1
theorem dX6_houseOf_116 : decode cX6_houseOf 116 = .ok (.aload_n 0, 1) := dbm_102.2.2.1.2
theorem dX6_houseOf_117 : decode cX6_houseOf 117 = .ok (.iload_n 1, 1) := dbm_102.2.2.2.1
theorem dX6_houseOf_118 : decode cX6_houseOf 118 = .ok (.invokevirtual 99, 3) := dbm_102.2.2.2.2
theorem dbm_103 : (((((decode cX6_houseOf 121 = .ok (.ireturn, 1)) ∧ (decode cX6_houseOf 122 = .ok (.aload_n 0, 1))) ∧ ((decode cX6_houseOf 123 = .ok (.iload_n 1, 1)) ∧ (decode cX6_houseOf 124 = .ok (.iconst 0, 1)))) ∧ (((decode cX6_houseOf 125 = .ok (.invokevirtual 110, 3)) ∧ (decode cX6_houseOf 128 = .ok (.ireturn, 1))) ∧ ((decode cX6_houseOf 129 = .ok (.aload_n 0, 1)) ∧ (decode cX6_houseOf 130 = .ok (.iload_n 1, 1))))) ∧ ((((decode cX6_houseOf 131 = .ok (.invokevirtual 229, 3)) ∧ (decode cX6_houseOf 134 = .ok (.ireturn, 1))) ∧ ((decode cX6_houseOf 135 = .ok (.aload_n 0, 1)) ∧ (decode cX6_houseOf 136 = .ok (.iload_n 1, 1)))) ∧ (((decode cX6_houseOf 137 = .ok (.invokevirtual 232, 3)) ∧ (decode cX6_houseOf 140 = .ok (.ireturn, 1))) ∧ ((decode cX6_walkerOf 0 = .ok (.aload_n 0, 1)) ∧ (decode cX6_walkerOf 1 = .ok (.iconst 0, 1)))))) := by decide +kernel
theorem dX6_houseOf_121 : decode cX6_houseOf 121 = .ok (.ireturn, 1) := dbm_103.1.1.1.1
theorem dX6_houseOf_122 : decode cX6_houseOf 122 = .ok (.aload_n 0, 1) := dbm_103.1.1.1.2
theorem dX6_houseOf_123 : decode cX6_houseOf 123 = .ok (.iload_n 1, 1) := dbm_103.1.1.2.1
theorem dX6_houseOf_124 : decode cX6_houseOf 124 = .ok (.iconst 0, 1) := dbm_103.1.1.2.2
theorem dX6_houseOf_125 : decode cX6_houseOf 125 = .ok (.invokevirtual 110, 3) := dbm_103.1.2.1.1
theorem dX6_houseOf_128 : decode cX6_houseOf 128 = .ok (.ireturn, 1) := dbm_103.1.2.1.2
theorem dX6_houseOf_129 : decode cX6_houseOf 129 = .ok (.aload_n 0, 1) := dbm_103.1.2.2.1
theorem dX6_houseOf_130 : decode cX6_houseOf 130 = .ok (.iload_n 1, 1) := dbm_103.1.2.2.2
theorem dX6_houseOf_131 : decode cX6_houseOf 131 = .ok (.invokevirtual 229, 3) := dbm_103.2.1.1.1
theorem dX6_houseOf_134 : decode cX6_houseOf 134 = .ok (.ireturn, 1) := dbm_103.2.1.1.2
theorem dX6_houseOf_135 : decode cX6_houseOf 135 = .ok (.aload_n 0, 1) := dbm_103.2.1.2.1
theorem dX6_houseOf_136 : decode cX6_houseOf 136 = .ok (.iload_n 1, 1) := dbm_103.2.1.2.2
theorem dX6_houseOf_137 : decode cX6_houseOf 137 = .ok (.invokevirtual 232, 3) := dbm_103.2.2.1.1
theorem dX6_houseOf_140 : decode cX6_houseOf 140 = .ok (.ireturn, 1) := dbm_103.2.2.1.2
theorem dX6_walkerOf_0 : decode cX6_walkerOf 0 = .ok (.aload_n 0, 1) := dbm_103.2.2.2.1
theorem dX6_walkerOf_1 : decode cX6_walkerOf 1 = .ok (.iconst 0, 1) := dbm_103.2.2.2.2
theorem dbm_104 : (((((decode cX6_walkerOf 2 = .ok (.putfield 79, 3)) ∧ (decode cX6_walkerOf 5 = .ok (.aload_n 0, 1))) ∧ ((decode cX6_walkerOf 6 = .ok (.iload_n 1, 1)) ∧ (decode cX6_walkerOf 7 = .ok (.invokevirtual 184, 3)))) ∧ (((decode cX6_walkerOf 10 = .ok (.ifCond .eq 15, 3)) ∧ (decode cX6_walkerOf 13 = .ok (.iload_n 2, 1))) ∧ ((decode cX6_walkerOf 14 = .ok (.i2l, 1)) ∧ (decode cX6_walkerOf 15 = .ok (.lconst 0, 1))))) ∧ ((((decode cX6_walkerOf 16 = .ok (.ldc2_w 235, 3)) ∧ (decode cX6_walkerOf 19 = .ok (.invokestatic 85, 3))) ∧ ((decode cX6_walkerOf 22 = .ok (.ifCond .ne 22, 3)) ∧ (decode cX6_walkerOf 25 = .ok (.aload_n 0, 1)))) ∧ (((decode cX6_walkerOf 26 = .ok (.aload_n 0, 1)) ∧ (decode cX6_walkerOf 27 = .ok (.iload_n 1, 1))) ∧ ((decode cX6_walkerOf 28 = .ok (.invokevirtual 184, 3)) ∧ (decode cX6_walkerOf 31 = .ok (.ifCond .eq 8, 3)))))) := by decide +kernel
theorem dX6_walkerOf_2 : decode cX6_walkerOf 2 = .ok (.putfield 79, 3) := dbm_104.1.1.1.1
theorem dX6_walkerOf_5 : decode cX6_walkerOf 5 = .ok (.aload_n 0, 1) := dbm_104.1.1.1.2
theorem dX6_walkerOf_6 : decode cX6_walkerOf 6 = .ok (.iload_n 1, 1) := dbm_104.1.1.2.1
theorem dX6_walkerOf_7 : decode cX6_walkerOf 7 = .ok (.invokevirtual 184, 3) := dbm_104.1.1.2.2
theorem dX6_walkerOf_10 : decode cX6_walkerOf 10 = .ok (.ifCond .eq 15, 3) := dbm_104.1.2.1.1
theorem dX6_walkerOf_13 : decode cX6_walkerOf 13 = .ok (.iload_n 2, 1) := dbm_104.1.2.1.2
theorem dX6_walkerOf_14 : decode cX6_walkerOf 14 = .ok (.i2l, 1) := dbm_104.1.2.2.1
theorem dX6_walkerOf_15 : decode cX6_walkerOf 15 = .ok (.lconst 0, 1) := dbm_104.1.2.2.2
theorem dX6_walkerOf_16 : decode cX6_walkerOf 16 = .ok (.ldc2_w 235, 3) := dbm_104.2.1.1.1
theorem dX6_walkerOf_19 : decode cX6_walkerOf 19 = .ok (.invokestatic 85, 3) := dbm_104.2.1.1.2
theorem dX6_walkerOf_22 : decode cX6_walkerOf 22 = .ok (.ifCond .ne 22, 3) := dbm_104.2.1.2.1
theorem dX6_walkerOf_25 : decode cX6_walkerOf 25 = .ok (.aload_n 0, 1) := dbm_104.2.1.2.2
theorem dX6_walkerOf_26 : decode cX6_walkerOf 26 = .ok (.aload_n 0, 1) := dbm_104.2.2.1.1
theorem dX6_walkerOf_27 : decode cX6_walkerOf 27 = .ok (.iload_n 1, 1) := dbm_104.2.2.1.2
theorem dX6_walkerOf_28 : decode cX6_walkerOf 28 = .ok (.invokevirtual 184, 3) := dbm_104.2.2.2.1
theorem dX6_walkerOf_31 : decode cX6_walkerOf 31 = .ok (.ifCond .eq 8, 3) := dbm_104.2.2.2.2
theorem dbm_105 : (((((decode cX6_walkerOf 34 = .ok (.bipush (-2), 2)) ∧ (decode cX6_walkerOf 36 = .ok (.goto 4, 3))) ∧ ((decode cX6_walkerOf 39 = .ok (.iconst (-1), 1)) ∧ (decode cX6_walkerOf 40 = .ok (.invokevirtual 143, 3)))) ∧ (((decode cX6_walkerOf 43 = .ok (.ireturn, 1)) ∧ (decode cX6_walkerOf 44 = .ok (.iload_n 2, 1))) ∧ ((decode cX6_walkerOf 45 = .ok (.tableswitch 74 0 4 #[35, 42, 49, 56, 62], 35)) ∧ (decode cX6_walkerOf 80 = .ok (.aload_n 0, 1))))) ∧ ((((decode cX6_walkerOf 81 = .ok (.getfield 22, 3)) ∧ (decode cX6_walkerOf 84 = .ok (.iload_n 1, 1))) ∧ ((decode cX6_walkerOf 85 = .ok (.iaload, 1)) ∧ (decode cX6_walkerOf 86 = .ok (.ireturn, 1)))) ∧ (((decode cX6_walkerOf 87 = .ok (.aload_n 0, 1)) ∧ (decode cX6_walkerOf 88 = .ok (.getfield 25, 3))) ∧ ((decode cX6_walkerOf 91 = .ok (.iload_n 1, 1)) ∧ (decode cX6_walkerOf 92 = .ok (.iaload, 1)))))) := by decide +kernel
theorem dX6_walkerOf_34 : decode cX6_walkerOf 34 = .ok (.bipush (-2), 2) := dbm_105.1.1.1.1
theorem dX6_walkerOf_36 : decode cX6_walkerOf 36 = .ok (.goto 4, 3) := dbm_105.1.1.1.2
theorem dX6_walkerOf_39 : decode cX6_walkerOf 39 = .ok (.iconst (-1), 1) := dbm_105.1.1.2.1
theorem dX6_walkerOf_40 : decode cX6_walkerOf 40 = .ok (.invokevirtual 143, 3) := dbm_105.1.1.2.2
theorem dX6_walkerOf_43 : decode cX6_walkerOf 43 = .ok (.ireturn, 1) := dbm_105.1.2.1.1
theorem dX6_walkerOf_44 : decode cX6_walkerOf 44 = .ok (.iload_n 2, 1) := dbm_105.1.2.1.2
theorem dX6_walkerOf_45 : decode cX6_walkerOf 45 = .ok (.tableswitch 74 0 4 #[35, 42, 49, 56, 62], 35) := dbm_105.1.2.2.1
theorem dX6_walkerOf_80 : decode cX6_walkerOf 80 = .ok (.aload_n 0, 1) := dbm_105.1.2.2.2
theorem dX6_walkerOf_81 : decode cX6_walkerOf 81 = .ok (.getfield 22, 3) := dbm_105.2.1.1.1
theorem dX6_walkerOf_84 : decode cX6_walkerOf 84 = .ok (.iload_n 1, 1) := dbm_105.2.1.1.2
theorem dX6_walkerOf_85 : decode cX6_walkerOf 85 = .ok (.iaload, 1) := dbm_105.2.1.2.1
theorem dX6_walkerOf_86 : decode cX6_walkerOf 86 = .ok (.ireturn, 1) := dbm_105.2.1.2.2
theorem dX6_walkerOf_87 : decode cX6_walkerOf 87 = .ok (.aload_n 0, 1) := dbm_105.2.2.1.1
theorem dX6_walkerOf_88 : decode cX6_walkerOf 88 = .ok (.getfield 25, 3) := dbm_105.2.2.1.2
theorem dX6_walkerOf_91 : decode cX6_walkerOf 91 = .ok (.iload_n 1, 1) := dbm_105.2.2.2.1
theorem dX6_walkerOf_92 : decode cX6_walkerOf 92 = .ok (.iaload, 1) := dbm_105.2.2.2.2
theorem dbm_106 : (((((decode cX6_walkerOf 93 = .ok (.ireturn, 1)) ∧ (decode cX6_walkerOf 94 = .ok (.aload_n 0, 1))) ∧ ((decode cX6_walkerOf 95 = .ok (.getfield 28, 3)) ∧ (decode cX6_walkerOf 98 = .ok (.iload_n 1, 1)))) ∧ (((decode cX6_walkerOf 99 = .ok (.iaload, 1)) ∧ (decode cX6_walkerOf 100 = .ok (.ireturn, 1))) ∧ ((decode cX6_walkerOf 101 = .ok (.aload_n 0, 1)) ∧ (decode cX6_walkerOf 102 = .ok (.iload_n 1, 1))))) ∧ ((((decode cX6_walkerOf 103 = .ok (.invokevirtual 116, 3)) ∧ (decode cX6_walkerOf 106 = .ok (.ireturn, 1))) ∧ ((decode cX6_walkerOf 107 = .ok (.aload_n 0, 1)) ∧ (decode cX6_walkerOf 108 = .ok (.iload_n 1, 1)))) ∧ (((decode cX6_walkerOf 109 = .ok (.aload_n 0, 1)) ∧ (decode cX6_walkerOf 110 = .ok (.getfield 22, 3))) ∧ ((decode cX6_walkerOf 113 = .ok (.iload_n 1, 1)) ∧ (decode cX6_walkerOf 114 = .ok (.iaload, 1)))))) := by decide +kernel
theorem dX6_walkerOf_93 : decode cX6_walkerOf 93 = .ok (.ireturn, 1) := dbm_106.1.1.1.1
theorem dX6_walkerOf_94 : decode cX6_walkerOf 94 = .ok (.aload_n 0, 1) := dbm_106.1.1.1.2
theorem dX6_walkerOf_95 : decode cX6_walkerOf 95 = .ok (.getfield 28, 3) := dbm_106.1.1.2.1
theorem dX6_walkerOf_98 : decode cX6_walkerOf 98 = .ok (.iload_n 1, 1) := dbm_106.1.1.2.2
theorem dX6_walkerOf_99 : decode cX6_walkerOf 99 = .ok (.iaload, 1) := dbm_106.1.2.1.1
theorem dX6_walkerOf_100 : decode cX6_walkerOf 100 = .ok (.ireturn, 1) := dbm_106.1.2.1.2
theorem dX6_walkerOf_101 : decode cX6_walkerOf 101 = .ok (.aload_n 0, 1) := dbm_106.1.2.2.1
theorem dX6_walkerOf_102 : decode cX6_walkerOf 102 = .ok (.iload_n 1, 1) := dbm_106.1.2.2.2
theorem dX6_walkerOf_103 : decode cX6_walkerOf 103 = .ok (.invokevirtual 116, 3) := dbm_106.2.1.1.1
theorem dX6_walkerOf_106 : decode cX6_walkerOf 106 = .ok (.ireturn, 1) := dbm_106.2.1.1.2
theorem dX6_walkerOf_107 : decode cX6_walkerOf 107 = .ok (.aload_n 0, 1) := dbm_106.2.1.2.1
theorem dX6_walkerOf_108 : decode cX6_walkerOf 108 = .ok (.iload_n 1, 1) := dbm_106.2.1.2.2
theorem dX6_walkerOf_109 : decode cX6_walkerOf 109 = .ok (.aload_n 0, 1) := dbm_106.2.2.1.1
theorem dX6_walkerOf_110 : decode cX6_walkerOf 110 = .ok (.getfield 22, 3) := dbm_106.2.2.1.2
theorem dX6_walkerOf_113 : decode cX6_walkerOf 113 = .ok (.iload_n 1, 1) := dbm_106.2.2.2.1
theorem dX6_walkerOf_114 : decode cX6_walkerOf 114 = .ok (.iaload, 1) := dbm_106.2.2.2.2
theorem dbm_107 : (((((decode cX6_walkerOf 115 = .ok (.invokevirtual 128, 3)) ∧ (decode cX6_walkerOf 118 = .ok (.ireturn, 1))) ∧ ((decode cX6_walkerOf 119 = .ok (.aload_n 0, 1)) ∧ (decode cX6_walkerOf 120 = .ok (.iload_n 1, 1)))) ∧ (((decode cX6_walkerOf 121 = .ok (.invokevirtual 113, 3)) ∧ (decode cX6_walkerOf 124 = .ok (.ireturn, 1))) ∧ ((decode cX6_wrongBoth 0 = .ok (.aload_n 0, 1)) ∧ (decode cX6_wrongBoth 1 = .ok (.iload_n 1, 1))))) ∧ ((((decode cX6_wrongBoth 2 = .ok (.invokevirtual 184, 3)) ∧ (decode cX6_wrongBoth 5 = .ok (.ifCond .eq 15, 3))) ∧ ((decode cX6_wrongBoth 8 = .ok (.aload_n 0, 1)) ∧ (decode cX6_wrongBoth 9 = .ok (.iload_n 2, 1)))) ∧ (((decode cX6_wrongBoth 10 = .ok (.invokevirtual 181, 3)) ∧ (decode cX6_wrongBoth 13 = .ok (.ifCond .eq 7, 3))) ∧ ((decode cX6_wrongBoth 16 = .ok (.iconst 0, 1)) ∧ (decode cX6_wrongBoth 17 = .ok (.goto 4, 3)))))) := by decide +kernel
theorem dX6_walkerOf_115 : decode cX6_walkerOf 115 = .ok (.invokevirtual 128, 3) := dbm_107.1.1.1.1
theorem dX6_walkerOf_118 : decode cX6_walkerOf 118 = .ok (.ireturn, 1) := dbm_107.1.1.1.2
theorem dX6_walkerOf_119 : decode cX6_walkerOf 119 = .ok (.aload_n 0, 1) := dbm_107.1.1.2.1
theorem dX6_walkerOf_120 : decode cX6_walkerOf 120 = .ok (.iload_n 1, 1) := dbm_107.1.1.2.2
theorem dX6_walkerOf_121 : decode cX6_walkerOf 121 = .ok (.invokevirtual 113, 3) := dbm_107.1.2.1.1
theorem dX6_walkerOf_124 : decode cX6_walkerOf 124 = .ok (.ireturn, 1) := dbm_107.1.2.1.2
theorem dX6_wrongBoth_0 : decode cX6_wrongBoth 0 = .ok (.aload_n 0, 1) := dbm_107.1.2.2.1
theorem dX6_wrongBoth_1 : decode cX6_wrongBoth 1 = .ok (.iload_n 1, 1) := dbm_107.1.2.2.2
theorem dX6_wrongBoth_2 : decode cX6_wrongBoth 2 = .ok (.invokevirtual 184, 3) := dbm_107.2.1.1.1
theorem dX6_wrongBoth_5 : decode cX6_wrongBoth 5 = .ok (.ifCond .eq 15, 3) := dbm_107.2.1.1.2
theorem dX6_wrongBoth_8 : decode cX6_wrongBoth 8 = .ok (.aload_n 0, 1) := dbm_107.2.1.2.1
theorem dX6_wrongBoth_9 : decode cX6_wrongBoth 9 = .ok (.iload_n 2, 1) := dbm_107.2.1.2.2
theorem dX6_wrongBoth_10 : decode cX6_wrongBoth 10 = .ok (.invokevirtual 181, 3) := dbm_107.2.2.1.1
theorem dX6_wrongBoth_13 : decode cX6_wrongBoth 13 = .ok (.ifCond .eq 7, 3) := dbm_107.2.2.1.2
theorem dX6_wrongBoth_16 : decode cX6_wrongBoth 16 = .ok (.iconst 0, 1) := dbm_107.2.2.2.1
theorem dX6_wrongBoth_17 : decode cX6_wrongBoth 17 = .ok (.goto 4, 3) := dbm_107.2.2.2.2
theorem dbm_108 : (((((decode cX6_wrongBoth 20 = .ok (.iconst (-1), 1)) ∧ (decode cX6_wrongBoth 21 = .ok (.ireturn, 1))) ∧ ((decode cX6_age 0 = .ok (.aload_n 0, 1)) ∧ (decode cX6_age 1 = .ok (.iconst 0, 1)))) ∧ (((decode cX6_age 2 = .ok (.putfield 79, 3)) ∧ (decode cX6_age 5 = .ok (.aload_n 0, 1))) ∧ ((decode cX6_age 6 = .ok (.iload_n 1, 1)) ∧ (decode cX6_age 7 = .ok (.iload_n 2, 1))))) ∧ ((((decode cX6_age 8 = .ok (.invokevirtual 237, 3)) ∧ (decode cX6_age 11 = .ok (.ifCond .ge 9, 3))) ∧ ((decode cX6_age 14 = .ok (.aload_n 0, 1)) ∧ (decode cX6_age 15 = .ok (.iconst (-1), 1)))) ∧ (((decode cX6_age 16 = .ok (.invokevirtual 143, 3)) ∧ (decode cX6_age 19 = .ok (.ireturn, 1))) ∧ ((decode cX6_age 20 = .ok (.aload_n 0, 1)) ∧ (decode cX6_age 21 = .ok (.getfield 31, 3)))))) := by decide +kernel
theorem dX6_wrongBoth_20 : decode cX6_wrongBoth 20 = .ok (.iconst (-1), 1) := dbm_108.1.1.1.1
theorem dX6_wrongBoth_21 : decode cX6_wrongBoth 21 = .ok (.ireturn, 1) := dbm_108.1.1.1.2
theorem dX6_age_0 : decode cX6_age 0 = .ok (.aload_n 0, 1) := dbm_108.1.1.2.1
theorem dX6_age_1 : decode cX6_age 1 = .ok (.iconst 0, 1) := dbm_108.1.1.2.2
theorem dX6_age_2 : decode cX6_age 2 = .ok (.putfield 79, 3) := dbm_108.1.2.1.1
theorem dX6_age_5 : decode cX6_age 5 = .ok (.aload_n 0, 1) := dbm_108.1.2.1.2
theorem dX6_age_6 : decode cX6_age 6 = .ok (.iload_n 1, 1) := dbm_108.1.2.2.1
theorem dX6_age_7 : decode cX6_age 7 = .ok (.iload_n 2, 1) := dbm_108.1.2.2.2
theorem dX6_age_8 : decode cX6_age 8 = .ok (.invokevirtual 237, 3) := dbm_108.2.1.1.1
theorem dX6_age_11 : decode cX6_age 11 = .ok (.ifCond .ge 9, 3) := dbm_108.2.1.1.2
theorem dX6_age_14 : decode cX6_age 14 = .ok (.aload_n 0, 1) := dbm_108.2.1.2.1
theorem dX6_age_15 : decode cX6_age 15 = .ok (.iconst (-1), 1) := dbm_108.2.1.2.2
theorem dX6_age_16 : decode cX6_age 16 = .ok (.invokevirtual 143, 3) := dbm_108.2.2.1.1
theorem dX6_age_19 : decode cX6_age 19 = .ok (.ireturn, 1) := dbm_108.2.2.1.2
theorem dX6_age_20 : decode cX6_age 20 = .ok (.aload_n 0, 1) := dbm_108.2.2.2.1
theorem dX6_age_21 : decode cX6_age 21 = .ok (.getfield 31, 3) := dbm_108.2.2.2.2
theorem dbm_109 : (((((decode cX6_age 24 = .ok (.bipush 7, 2)) ∧ (decode cX6_age 26 = .ok (.iload_n 1, 1))) ∧ ((decode cX6_age 27 = .ok (.imul, 1)) ∧ (decode cX6_age 28 = .ok (.iload_n 2, 1)))) ∧ (((decode cX6_age 29 = .ok (.iadd, 1)) ∧ (decode cX6_age 30 = .ok (.iaload, 1))) ∧ ((decode cX6_age 31 = .ok (.istore_n 3, 1)) ∧ (decode cX6_age 32 = .ok (.iload_n 3, 1))))) ∧ ((((decode cX6_age 33 = .ok (.ifCond .ne 8, 3)) ∧ (decode cX6_age 36 = .ok (.bipush (-9), 2))) ∧ ((decode cX6_age 38 = .ok (.goto 6, 3)) ∧ (decode cX6_age 41 = .ok (.iload_n 3, 1)))) ∧ (((decode cX6_age 42 = .ok (.iconst 1, 1)) ∧ (decode cX6_age 43 = .ok (.isub, 1))) ∧ ((decode cX6_age 44 = .ok (.ireturn, 1)) ∧ (decode cX6_house 0 = .ok (.aload_n 0, 1)))))) := by decide +kernel
theorem dX6_age_24 : decode cX6_age 24 = .ok (.bipush 7, 2) := dbm_109.1.1.1.1
theorem dX6_age_26 : decode cX6_age 26 = .ok (.iload_n 1, 1) := dbm_109.1.1.1.2
theorem dX6_age_27 : decode cX6_age 27 = .ok (.imul, 1) := dbm_109.1.1.2.1
theorem dX6_age_28 : decode cX6_age 28 = .ok (.iload_n 2, 1) := dbm_109.1.1.2.2
theorem dX6_age_29 : decode cX6_age 29 = .ok (.iadd, 1) := dbm_109.1.2.1.1
theorem dX6_age_30 : decode cX6_age 30 = .ok (.iaload, 1) := dbm_109.1.2.1.2
theorem dX6_age_31 : decode cX6_age 31 = .ok (.istore_n 3, 1) := dbm_109.1.2.2.1
theorem dX6_age_32 : decode cX6_age 32 = .ok (.iload_n 3, 1) := dbm_109.1.2.2.2
theorem dX6_age_33 : decode cX6_age 33 = .ok (.ifCond .ne 8, 3) := dbm_109.2.1.1.1
theorem dX6_age_36 : decode cX6_age 36 = .ok (.bipush (-9), 2) := dbm_109.2.1.1.2
theorem dX6_age_38 : decode cX6_age 38 = .ok (.goto 6, 3) := dbm_109.2.1.2.1
theorem dX6_age_41 : decode cX6_age 41 = .ok (.iload_n 3, 1) := dbm_109.2.1.2.2
theorem dX6_age_42 : decode cX6_age 42 = .ok (.iconst 1, 1) := dbm_109.2.2.1.1
theorem dX6_age_43 : decode cX6_age 43 = .ok (.isub, 1) := dbm_109.2.2.1.2
theorem dX6_age_44 : decode cX6_age 44 = .ok (.ireturn, 1) := dbm_109.2.2.2.1
theorem dX6_house_0 : decode cX6_house 0 = .ok (.aload_n 0, 1) := dbm_109.2.2.2.2
theorem dbm_110 : (((((decode cX6_house 1 = .ok (.iconst 0, 1)) ∧ (decode cX6_house 2 = .ok (.putfield 79, 3))) ∧ ((decode cX6_house 5 = .ok (.iload_n 1, 1)) ∧ (decode cX6_house 6 = .ok (.i2l, 1)))) ∧ (((decode cX6_house 7 = .ok (.lconst 0, 1)) ∧ (decode cX6_house 8 = .ok (.ldc2_w 235, 3))) ∧ ((decode cX6_house 11 = .ok (.invokestatic 85, 3)) ∧ (decode cX6_house 14 = .ok (.ifCond .eq 13, 3))))) ∧ ((((decode cX6_house 17 = .ok (.iload_n 2, 1)) ∧ (decode cX6_house 18 = .ok (.iconst 0, 1))) ∧ ((decode cX6_house 19 = .ok (.bipush 9, 2)) ∧ (decode cX6_house 21 = .ok (.invokestatic 240, 3)))) ∧ (((decode cX6_house 24 = .ok (.goto 5, 3)) ∧ (decode cX6_house 27 = .ok (.bipush (-2), 2))) ∧ ((decode cX6_house 29 = .ok (.istore 4, 2)) ∧ (decode cX6_house 31 = .ok (.iload 4, 2)))))) := by decide +kernel
theorem dX6_house_1 : decode cX6_house 1 = .ok (.iconst 0, 1) := dbm_110.1.1.1.1
theorem dX6_house_2 : decode cX6_house 2 = .ok (.putfield 79, 3) := dbm_110.1.1.1.2
theorem dX6_house_5 : decode cX6_house 5 = .ok (.iload_n 1, 1) := dbm_110.1.1.2.1
theorem dX6_house_6 : decode cX6_house 6 = .ok (.i2l, 1) := dbm_110.1.1.2.2
theorem dX6_house_7 : decode cX6_house 7 = .ok (.lconst 0, 1) := dbm_110.1.2.1.1
theorem dX6_house_8 : decode cX6_house 8 = .ok (.ldc2_w 235, 3) := dbm_110.1.2.1.2
theorem dX6_house_11 : decode cX6_house 11 = .ok (.invokestatic 85, 3) := dbm_110.1.2.2.1
theorem dX6_house_14 : decode cX6_house 14 = .ok (.ifCond .eq 13, 3) := dbm_110.1.2.2.2
theorem dX6_house_17 : decode cX6_house 17 = .ok (.iload_n 2, 1) := dbm_110.2.1.1.1
theorem dX6_house_18 : decode cX6_house 18 = .ok (.iconst 0, 1) := dbm_110.2.1.1.2
theorem dX6_house_19 : decode cX6_house 19 = .ok (.bipush 9, 2) := dbm_110.2.1.2.1
theorem dX6_house_21 : decode cX6_house 21 = .ok (.invokestatic 240, 3) := dbm_110.2.1.2.2
theorem dX6_house_24 : decode cX6_house 24 = .ok (.goto 5, 3) := dbm_110.2.2.1.1
theorem dX6_house_27 : decode cX6_house 27 = .ok (.bipush (-2), 2) := dbm_110.2.2.1.2
theorem dX6_house_29 : decode cX6_house 29 = .ok (.istore 4, 2) := dbm_110.2.2.2.1
theorem dX6_house_31 : decode cX6_house 31 = .ok (.iload 4, 2) := dbm_110.2.2.2.2
theorem dbm_111 : (((((decode cX6_house 33 = .ok (.ifCond .ne 17, 3)) ∧ (decode cX6_house 36 = .ok (.aload_n 0, 1))) ∧ ((decode cX6_house 37 = .ok (.getfield 89, 3)) ∧ (decode cX6_house 40 = .ok (.bipush 7, 2)))) ∧ (((decode cX6_house 42 = .ok (.if_icmp .ne 8, 3)) ∧ (decode cX6_house 45 = .ok (.bipush (-6), 2))) ∧ ((decode cX6_house 47 = .ok (.goto 5, 3)) ∧ (decode cX6_house 50 = .ok (.iload 4, 2))))) ∧ ((((decode cX6_house 52 = .ok (.istore 4, 2)) ∧ (decode cX6_house 54 = .ok (.iload 4, 2))) ∧ ((decode cX6_house 56 = .ok (.ifCond .ne 14, 3)) ∧ (decode cX6_house 59 = .ok (.iload_n 3, 1)))) ∧ (((decode cX6_house 60 = .ok (.invokestatic 139, 3)) ∧ (decode cX6_house 63 = .ok (.ifCond .ne 7, 3))) ∧ ((decode cX6_house 66 = .ok (.iconst (-1), 1)) ∧ (decode cX6_house 67 = .ok (.goto 5, 3)))))) := by decide +kernel
theorem dX6_house_33 : decode cX6_house 33 = .ok (.ifCond .ne 17, 3) := dbm_111.1.1.1.1
theorem dX6_house_36 : decode cX6_house 36 = .ok (.aload_n 0, 1) := dbm_111.1.1.1.2
theorem dX6_house_37 : decode cX6_house 37 = .ok (.getfield 89, 3) := dbm_111.1.1.2.1
theorem dX6_house_40 : decode cX6_house 40 = .ok (.bipush 7, 2) := dbm_111.1.1.2.2
theorem dX6_house_42 : decode cX6_house 42 = .ok (.if_icmp .ne 8, 3) := dbm_111.1.2.1.1
theorem dX6_house_45 : decode cX6_house 45 = .ok (.bipush (-6), 2) := dbm_111.1.2.1.2
theorem dX6_house_47 : decode cX6_house 47 = .ok (.goto 5, 3) := dbm_111.1.2.2.1
theorem dX6_house_50 : decode cX6_house 50 = .ok (.iload 4, 2) := dbm_111.1.2.2.2
theorem dX6_house_52 : decode cX6_house 52 = .ok (.istore 4, 2) := dbm_111.2.1.1.1
theorem dX6_house_54 : decode cX6_house 54 = .ok (.iload 4, 2) := dbm_111.2.1.1.2
theorem dX6_house_56 : decode cX6_house 56 = .ok (.ifCond .ne 14, 3) := dbm_111.2.1.2.1
theorem dX6_house_59 : decode cX6_house 59 = .ok (.iload_n 3, 1) := dbm_111.2.1.2.2
theorem dX6_house_60 : decode cX6_house 60 = .ok (.invokestatic 139, 3) := dbm_111.2.2.1.1
theorem dX6_house_63 : decode cX6_house 63 = .ok (.ifCond .ne 7, 3) := dbm_111.2.2.1.2
theorem dX6_house_66 : decode cX6_house 66 = .ok (.iconst (-1), 1) := dbm_111.2.2.2.1
theorem dX6_house_67 : decode cX6_house 67 = .ok (.goto 5, 3) := dbm_111.2.2.2.2
theorem dbm_112 : (((((decode cX6_house 70 = .ok (.iload 4, 2)) ∧ (decode cX6_house 72 = .ok (.istore 4, 2))) ∧ ((decode cX6_house 74 = .ok (.iload 4, 2)) ∧ (decode cX6_house 76 = .ok (.ifCond .ge 10, 3)))) ∧ (((decode cX6_house 79 = .ok (.aload_n 0, 1)) ∧ (decode cX6_house 80 = .ok (.iload 4, 2))) ∧ ((decode cX6_house 82 = .ok (.invokevirtual 143, 3)) ∧ (decode cX6_house 85 = .ok (.ireturn, 1))))) ∧ ((((decode cX6_house 86 = .ok (.aload_n 0, 1)) ∧ (decode cX6_house 87 = .ok (.iload_n 1, 1))) ∧ ((decode cX6_house 88 = .ok (.iload_n 2, 1)) ∧ (decode cX6_house 89 = .ok (.iload_n 3, 1)))) ∧ (((decode cX6_house 90 = .ok (.invokevirtual 175, 3)) ∧ (decode cX6_house 93 = .ok (.pop, 1))) ∧ ((decode cX6_house 94 = .ok (.aload_n 0, 1)) ∧ (decode cX6_house 95 = .ok (.iconst 0, 1)))))) := by decide +kernel
theorem dX6_house_70 : decode cX6_house 70 = .ok (.iload 4, 2) := dbm_112.1.1.1.1
theorem dX6_house_72 : decode cX6_house 72 = .ok (.istore 4, 2) := dbm_112.1.1.1.2
theorem dX6_house_74 : decode cX6_house 74 = .ok (.iload 4, 2) := dbm_112.1.1.2.1
theorem dX6_house_76 : decode cX6_house 76 = .ok (.ifCond .ge 10, 3) := dbm_112.1.1.2.2
theorem dX6_house_79 : decode cX6_house 79 = .ok (.aload_n 0, 1) := dbm_112.1.2.1.1
theorem dX6_house_80 : decode cX6_house 80 = .ok (.iload 4, 2) := dbm_112.1.2.1.2
theorem dX6_house_82 : decode cX6_house 82 = .ok (.invokevirtual 143, 3) := dbm_112.1.2.2.1
theorem dX6_house_85 : decode cX6_house 85 = .ok (.ireturn, 1) := dbm_112.1.2.2.2
theorem dX6_house_86 : decode cX6_house 86 = .ok (.aload_n 0, 1) := dbm_112.2.1.1.1
theorem dX6_house_87 : decode cX6_house 87 = .ok (.iload_n 1, 1) := dbm_112.2.1.1.2
theorem dX6_house_88 : decode cX6_house 88 = .ok (.iload_n 2, 1) := dbm_112.2.1.2.1
theorem dX6_house_89 : decode cX6_house 89 = .ok (.iload_n 3, 1) := dbm_112.2.1.2.2
theorem dX6_house_90 : decode cX6_house 90 = .ok (.invokevirtual 175, 3) := dbm_112.2.2.1.1
theorem dX6_house_93 : decode cX6_house 93 = .ok (.pop, 1) := dbm_112.2.2.1.2
theorem dX6_house_94 : decode cX6_house 94 = .ok (.aload_n 0, 1) := dbm_112.2.2.2.1
theorem dX6_house_95 : decode cX6_house 95 = .ok (.iconst 0, 1) := dbm_112.2.2.2.2
theorem dbm_113 : (((((decode cX6_house 96 = .ok (.putfield 205, 3)) ∧ (decode cX6_house 99 = .ok (.aload_n 0, 1))) ∧ ((decode cX6_house 100 = .ok (.getfield 89, 3)) ∧ (decode cX6_house 103 = .ok (.iconst 1, 1)))) ∧ (((decode cX6_house 104 = .ok (.isub, 1)) ∧ (decode cX6_house 105 = .ok (.ireturn, 1))) ∧ ((decode cX6_walker 0 = .ok (.aload_n 0, 1)) ∧ (decode cX6_walker 1 = .ok (.iconst 0, 1))))) ∧ ((((decode cX6_walker 2 = .ok (.putfield 79, 3)) ∧ (decode cX6_walker 5 = .ok (.iload_n 1, 1))) ∧ ((decode cX6_walker 6 = .ok (.invokestatic 139, 3)) ∧ (decode cX6_walker 9 = .ok (.ifCond .eq 19, 3)))) ∧ (((decode cX6_walker 12 = .ok (.iload_n 2, 1)) ∧ (decode cX6_walker 13 = .ok (.invokestatic 139, 3))) ∧ ((decode cX6_walker 16 = .ok (.ifCond .eq 12, 3)) ∧ (decode cX6_walker 19 = .ok (.iload_n 3, 1)))))) := by decide +kernel
theorem dX6_house_96 : decode cX6_house 96 = .ok (.putfield 205, 3) := dbm_113.1.1.1.1
theorem dX6_house_99 : decode cX6_house 99 = .ok (.aload_n 0, 1) := dbm_113.1.1.1.2
theorem dX6_house_100 : decode cX6_house 100 = .ok (.getfield 89, 3) := dbm_113.1.1.2.1
theorem dX6_house_103 : decode cX6_house 103 = .ok (.iconst 1, 1) := dbm_113.1.1.2.2
theorem dX6_house_104 : decode cX6_house 104 = .ok (.isub, 1) := dbm_113.1.2.1.1
theorem dX6_house_105 : decode cX6_house 105 = .ok (.ireturn, 1) := dbm_113.1.2.1.2
theorem dX6_walker_0 : decode cX6_walker 0 = .ok (.aload_n 0, 1) := dbm_113.1.2.2.1
theorem dX6_walker_1 : decode cX6_walker 1 = .ok (.iconst 0, 1) := dbm_113.1.2.2.2
theorem dX6_walker_2 : decode cX6_walker 2 = .ok (.putfield 79, 3) := dbm_113.2.1.1.1
theorem dX6_walker_5 : decode cX6_walker 5 = .ok (.iload_n 1, 1) := dbm_113.2.1.1.2
theorem dX6_walker_6 : decode cX6_walker 6 = .ok (.invokestatic 139, 3) := dbm_113.2.1.2.1
theorem dX6_walker_9 : decode cX6_walker 9 = .ok (.ifCond .eq 19, 3) := dbm_113.2.1.2.2
theorem dX6_walker_12 : decode cX6_walker 12 = .ok (.iload_n 2, 1) := dbm_113.2.2.1.1
theorem dX6_walker_13 : decode cX6_walker 13 = .ok (.invokestatic 139, 3) := dbm_113.2.2.1.2
theorem dX6_walker_16 : decode cX6_walker 16 = .ok (.ifCond .eq 12, 3) := dbm_113.2.2.2.1
theorem dX6_walker_19 : decode cX6_walker 19 = .ok (.iload_n 3, 1) := dbm_113.2.2.2.2
theorem dbm_114 : (((((decode cX6_walker 20 = .ok (.iconst 0, 1)) ∧ (decode cX6_walker 21 = .ok (.iconst 2, 1))) ∧ ((decode cX6_walker 22 = .ok (.invokestatic 240, 3)) ∧ (decode cX6_walker 25 = .ok (.goto 4, 3)))) ∧ (((decode cX6_walker 28 = .ok (.iconst (-1), 1)) ∧ (decode cX6_walker 29 = .ok (.istore 4, 2))) ∧ ((decode cX6_walker 31 = .ok (.iload 4, 2)) ∧ (decode cX6_walker 33 = .ok (.ifCond .ne 17, 3))))) ∧ ((((decode cX6_walker 36 = .ok (.aload_n 0, 1)) ∧ (decode cX6_walker 37 = .ok (.getfield 92, 3))) ∧ ((decode cX6_walker 40 = .ok (.bipush 6, 2)) ∧ (decode cX6_walker 42 = .ok (.if_icmp .ne 8, 3)))) ∧ (((decode cX6_walker 45 = .ok (.bipush (-6), 2)) ∧ (decode cX6_walker 47 = .ok (.goto 5, 3))) ∧ ((decode cX6_walker 50 = .ok (.iload 4, 2)) ∧ (decode cX6_walker 52 = .ok (.istore 4, 2)))))) := by decide +kernel
theorem dX6_walker_20 : decode cX6_walker 20 = .ok (.iconst 0, 1) := dbm_114.1.1.1.1
theorem dX6_walker_21 : decode cX6_walker 21 = .ok (.iconst 2, 1) := dbm_114.1.1.1.2
theorem dX6_walker_22 : decode cX6_walker 22 = .ok (.invokestatic 240, 3) := dbm_114.1.1.2.1
theorem dX6_walker_25 : decode cX6_walker 25 = .ok (.goto 4, 3) := dbm_114.1.1.2.2
theorem dX6_walker_28 : decode cX6_walker 28 = .ok (.iconst (-1), 1) := dbm_114.1.2.1.1
theorem dX6_walker_29 : decode cX6_walker 29 = .ok (.istore 4, 2) := dbm_114.1.2.1.2
theorem dX6_walker_31 : decode cX6_walker 31 = .ok (.iload 4, 2) := dbm_114.1.2.2.1
theorem dX6_walker_33 : decode cX6_walker 33 = .ok (.ifCond .ne 17, 3) := dbm_114.1.2.2.2
theorem dX6_walker_36 : decode cX6_walker 36 = .ok (.aload_n 0, 1) := dbm_114.2.1.1.1
theorem dX6_walker_37 : decode cX6_walker 37 = .ok (.getfield 92, 3) := dbm_114.2.1.1.2
theorem dX6_walker_40 : decode cX6_walker 40 = .ok (.bipush 6, 2) := dbm_114.2.1.2.1
theorem dX6_walker_42 : decode cX6_walker 42 = .ok (.if_icmp .ne 8, 3) := dbm_114.2.1.2.2
theorem dX6_walker_45 : decode cX6_walker 45 = .ok (.bipush (-6), 2) := dbm_114.2.2.1.1
theorem dX6_walker_47 : decode cX6_walker 47 = .ok (.goto 5, 3) := dbm_114.2.2.1.2
theorem dX6_walker_50 : decode cX6_walker 50 = .ok (.iload 4, 2) := dbm_114.2.2.2.1
theorem dX6_walker_52 : decode cX6_walker 52 = .ok (.istore 4, 2) := dbm_114.2.2.2.2
theorem dbm_115 : (((((decode cX6_walker 54 = .ok (.iload 4, 2)) ∧ (decode cX6_walker 56 = .ok (.ifCond .ge 10, 3))) ∧ ((decode cX6_walker 59 = .ok (.aload_n 0, 1)) ∧ (decode cX6_walker 60 = .ok (.iload 4, 2)))) ∧ (((decode cX6_walker 62 = .ok (.invokevirtual 143, 3)) ∧ (decode cX6_walker 65 = .ok (.ireturn, 1))) ∧ ((decode cX6_walker 66 = .ok (.aload_n 0, 1)) ∧ (decode cX6_walker 67 = .ok (.iload_n 1, 1))))) ∧ ((((decode cX6_walker 68 = .ok (.iload_n 2, 1)) ∧ (decode cX6_walker 69 = .ok (.iload_n 3, 1))) ∧ ((decode cX6_walker 70 = .ok (.invokevirtual 178, 3)) ∧ (decode cX6_walker 73 = .ok (.pop, 1)))) ∧ (((decode cX6_walker 74 = .ok (.aload_n 0, 1)) ∧ (decode cX6_walker 75 = .ok (.iconst 0, 1))) ∧ ((decode cX6_walker 76 = .ok (.putfield 205, 3)) ∧ (decode cX6_walker 79 = .ok (.aload_n 0, 1)))))) := by decide +kernel
theorem dX6_walker_54 : decode cX6_walker 54 = .ok (.iload 4, 2) := dbm_115.1.1.1.1
theorem dX6_walker_56 : decode cX6_walker 56 = .ok (.ifCond .ge 10, 3) := dbm_115.1.1.1.2
theorem dX6_walker_59 : decode cX6_walker 59 = .ok (.aload_n 0, 1) := dbm_115.1.1.2.1
theorem dX6_walker_60 : decode cX6_walker 60 = .ok (.iload 4, 2) := dbm_115.1.1.2.2
theorem dX6_walker_62 : decode cX6_walker 62 = .ok (.invokevirtual 143, 3) := dbm_115.1.2.1.1
theorem dX6_walker_65 : decode cX6_walker 65 = .ok (.ireturn, 1) := dbm_115.1.2.1.2
theorem dX6_walker_66 : decode cX6_walker 66 = .ok (.aload_n 0, 1) := dbm_115.1.2.2.1
theorem dX6_walker_67 : decode cX6_walker 67 = .ok (.iload_n 1, 1) := dbm_115.1.2.2.2
theorem dX6_walker_68 : decode cX6_walker 68 = .ok (.iload_n 2, 1) := dbm_115.2.1.1.1
theorem dX6_walker_69 : decode cX6_walker 69 = .ok (.iload_n 3, 1) := dbm_115.2.1.1.2
theorem dX6_walker_70 : decode cX6_walker 70 = .ok (.invokevirtual 178, 3) := dbm_115.2.1.2.1
theorem dX6_walker_73 : decode cX6_walker 73 = .ok (.pop, 1) := dbm_115.2.1.2.2
theorem dX6_walker_74 : decode cX6_walker 74 = .ok (.aload_n 0, 1) := dbm_115.2.2.1.1
theorem dX6_walker_75 : decode cX6_walker 75 = .ok (.iconst 0, 1) := dbm_115.2.2.1.2
theorem dX6_walker_76 : decode cX6_walker 76 = .ok (.putfield 205, 3) := dbm_115.2.2.2.1
theorem dX6_walker_79 : decode cX6_walker 79 = .ok (.aload_n 0, 1) := dbm_115.2.2.2.2
theorem dbm_116 : (((((decode cX6_walker 80 = .ok (.getfield 92, 3)) ∧ (decode cX6_walker 83 = .ok (.iconst 1, 1))) ∧ ((decode cX6_walker 84 = .ok (.isub, 1)) ∧ (decode cX6_walker 85 = .ok (.ireturn, 1)))) ∧ (((decode cX6_lights 0 = .ok (.aload_n 0, 1)) ∧ (decode cX6_lights 1 = .ok (.iconst 0, 1))) ∧ ((decode cX6_lights 2 = .ok (.putfield 79, 3)) ∧ (decode cX6_lights 5 = .ok (.aload_n 0, 1))))) ∧ ((((decode cX6_lights 6 = .ok (.iload_n 1, 1)) ∧ (decode cX6_lights 7 = .ok (.invokevirtual 181, 3))) ∧ ((decode cX6_lights 10 = .ok (.ifCond .ne 9, 3)) ∧ (decode cX6_lights 13 = .ok (.aload_n 0, 1)))) ∧ (((decode cX6_lights 14 = .ok (.iconst (-1), 1)) ∧ (decode cX6_lights 15 = .ok (.invokevirtual 143, 3))) ∧ ((decode cX6_lights 18 = .ok (.ireturn, 1)) ∧ (decode cX6_lights 19 = .ok (.aload_n 0, 1)))))) := by decide +kernel
theorem dX6_walker_80 : decode cX6_walker 80 = .ok (.getfield 92, 3) := dbm_116.1.1.1.1
theorem dX6_walker_83 : decode cX6_walker 83 = .ok (.iconst 1, 1) := dbm_116.1.1.1.2
theorem dX6_walker_84 : decode cX6_walker 84 = .ok (.isub, 1) := dbm_116.1.1.2.1
theorem dX6_walker_85 : decode cX6_walker 85 = .ok (.ireturn, 1) := dbm_116.1.1.2.2
theorem dX6_lights_0 : decode cX6_lights 0 = .ok (.aload_n 0, 1) := dbm_116.1.2.1.1
theorem dX6_lights_1 : decode cX6_lights 1 = .ok (.iconst 0, 1) := dbm_116.1.2.1.2
theorem dX6_lights_2 : decode cX6_lights 2 = .ok (.putfield 79, 3) := dbm_116.1.2.2.1
theorem dX6_lights_5 : decode cX6_lights 5 = .ok (.aload_n 0, 1) := dbm_116.1.2.2.2
theorem dX6_lights_6 : decode cX6_lights 6 = .ok (.iload_n 1, 1) := dbm_116.2.1.1.1
theorem dX6_lights_7 : decode cX6_lights 7 = .ok (.invokevirtual 181, 3) := dbm_116.2.1.1.2
theorem dX6_lights_10 : decode cX6_lights 10 = .ok (.ifCond .ne 9, 3) := dbm_116.2.1.2.1
theorem dX6_lights_13 : decode cX6_lights 13 = .ok (.aload_n 0, 1) := dbm_116.2.1.2.2
theorem dX6_lights_14 : decode cX6_lights 14 = .ok (.iconst (-1), 1) := dbm_116.2.2.1.1
theorem dX6_lights_15 : decode cX6_lights 15 = .ok (.invokevirtual 143, 3) := dbm_116.2.2.1.2
theorem dX6_lights_18 : decode cX6_lights 18 = .ok (.ireturn, 1) := dbm_116.2.2.2.1
theorem dX6_lights_19 : decode cX6_lights 19 = .ok (.aload_n 0, 1) := dbm_116.2.2.2.2
theorem dbm_117 : (((((decode cX6_lights 20 = .ok (.invokevirtual 244, 3)) ∧ (decode cX6_lights 23 = .ok (.aload_n 0, 1))) ∧ ((decode cX6_lights 24 = .ok (.getfield 19, 3)) ∧ (decode cX6_lights 27 = .ok (.iload_n 1, 1)))) ∧ (((decode cX6_lights 28 = .ok (.iconst 1, 1)) ∧ (decode cX6_lights 29 = .ok (.aload_n 0, 1))) ∧ ((decode cX6_lights 30 = .ok (.getfield 19, 3)) ∧ (decode cX6_lights 33 = .ok (.iload_n 1, 1))))) ∧ ((((decode cX6_lights 34 = .ok (.iaload, 1)) ∧ (decode cX6_lights 35 = .ok (.isub, 1))) ∧ ((decode cX6_lights 36 = .ok (.iastore, 1)) ∧ (decode cX6_lights 37 = .ok (.aload_n 0, 1)))) ∧ (((decode cX6_lights 38 = .ok (.getfield 19, 3)) ∧ (decode cX6_lights 41 = .ok (.iload_n 1, 1))) ∧ ((decode cX6_lights 42 = .ok (.iaload, 1)) ∧ (decode cX6_lights 43 = .ok (.ireturn, 1)))))) := by decide +kernel
theorem dX6_lights_20 : decode cX6_lights 20 = .ok (.invokevirtual 244, 3) := dbm_117.1.1.1.1
theorem dX6_lights_23 : decode cX6_lights 23 = .ok (.aload_n 0, 1) := dbm_117.1.1.1.2
theorem dX6_lights_24 : decode cX6_lights 24 = .ok (.getfield 19, 3) := dbm_117.1.1.2.1
theorem dX6_lights_27 : decode cX6_lights 27 = .ok (.iload_n 1, 1) := dbm_117.1.1.2.2
theorem dX6_lights_28 : decode cX6_lights 28 = .ok (.iconst 1, 1) := dbm_117.1.2.1.1
theorem dX6_lights_29 : decode cX6_lights 29 = .ok (.aload_n 0, 1) := dbm_117.1.2.1.2
theorem dX6_lights_30 : decode cX6_lights 30 = .ok (.getfield 19, 3) := dbm_117.1.2.2.1
theorem dX6_lights_33 : decode cX6_lights 33 = .ok (.iload_n 1, 1) := dbm_117.1.2.2.2
theorem dX6_lights_34 : decode cX6_lights 34 = .ok (.iaload, 1) := dbm_117.2.1.1.1
theorem dX6_lights_35 : decode cX6_lights 35 = .ok (.isub, 1) := dbm_117.2.1.1.2
theorem dX6_lights_36 : decode cX6_lights 36 = .ok (.iastore, 1) := dbm_117.2.1.2.1
theorem dX6_lights_37 : decode cX6_lights 37 = .ok (.aload_n 0, 1) := dbm_117.2.1.2.2
theorem dX6_lights_38 : decode cX6_lights 38 = .ok (.getfield 19, 3) := dbm_117.2.2.1.1
theorem dX6_lights_41 : decode cX6_lights 41 = .ok (.iload_n 1, 1) := dbm_117.2.2.1.2
theorem dX6_lights_42 : decode cX6_lights 42 = .ok (.iaload, 1) := dbm_117.2.2.2.1
theorem dX6_lights_43 : decode cX6_lights 43 = .ok (.ireturn, 1) := dbm_117.2.2.2.2
theorem dbm_118 : (((((decode cX6_goals 0 = .ok (.aload_n 0, 1)) ∧ (decode cX6_goals 1 = .ok (.iconst 0, 1))) ∧ ((decode cX6_goals 2 = .ok (.putfield 79, 3)) ∧ (decode cX6_goals 5 = .ok (.aload_n 0, 1)))) ∧ (((decode cX6_goals 6 = .ok (.iload_n 1, 1)) ∧ (decode cX6_goals 7 = .ok (.invokevirtual 184, 3))) ∧ ((decode cX6_goals 10 = .ok (.ifCond .eq 10, 3)) ∧ (decode cX6_goals 13 = .ok (.iload_n 2, 1))))) ∧ ((((decode cX6_goals 14 = .ok (.invokestatic 139, 3)) ∧ (decode cX6_goals 17 = .ok (.ifCond .ne 9, 3))) ∧ ((decode cX6_goals 20 = .ok (.aload_n 0, 1)) ∧ (decode cX6_goals 21 = .ok (.iconst (-1), 1)))) ∧ (((decode cX6_goals 22 = .ok (.invokevirtual 143, 3)) ∧ (decode cX6_goals 25 = .ok (.ireturn, 1))) ∧ ((decode cX6_goals 26 = .ok (.aload_n 0, 1)) ∧ (decode cX6_goals 27 = .ok (.invokevirtual 244, 3)))))) := by decide +kernel
theorem dX6_goals_0 : decode cX6_goals 0 = .ok (.aload_n 0, 1) := dbm_118.1.1.1.1
theorem dX6_goals_1 : decode cX6_goals 1 = .ok (.iconst 0, 1) := dbm_118.1.1.1.2
theorem dX6_goals_2 : decode cX6_goals 2 = .ok (.putfield 79, 3) := dbm_118.1.1.2.1
theorem dX6_goals_5 : decode cX6_goals 5 = .ok (.aload_n 0, 1) := dbm_118.1.1.2.2
theorem dX6_goals_6 : decode cX6_goals 6 = .ok (.iload_n 1, 1) := dbm_118.1.2.1.1
theorem dX6_goals_7 : decode cX6_goals 7 = .ok (.invokevirtual 184, 3) := dbm_118.1.2.1.2
theorem dX6_goals_10 : decode cX6_goals 10 = .ok (.ifCond .eq 10, 3) := dbm_118.1.2.2.1
theorem dX6_goals_13 : decode cX6_goals 13 = .ok (.iload_n 2, 1) := dbm_118.1.2.2.2
theorem dX6_goals_14 : decode cX6_goals 14 = .ok (.invokestatic 139, 3) := dbm_118.2.1.1.1
theorem dX6_goals_17 : decode cX6_goals 17 = .ok (.ifCond .ne 9, 3) := dbm_118.2.1.1.2
theorem dX6_goals_20 : decode cX6_goals 20 = .ok (.aload_n 0, 1) := dbm_118.2.1.2.1
theorem dX6_goals_21 : decode cX6_goals 21 = .ok (.iconst (-1), 1) := dbm_118.2.1.2.2
theorem dX6_goals_22 : decode cX6_goals 22 = .ok (.invokevirtual 143, 3) := dbm_118.2.2.1.1
theorem dX6_goals_25 : decode cX6_goals 25 = .ok (.ireturn, 1) := dbm_118.2.2.1.2
theorem dX6_goals_26 : decode cX6_goals 26 = .ok (.aload_n 0, 1) := dbm_118.2.2.2.1
theorem dX6_goals_27 : decode cX6_goals 27 = .ok (.invokevirtual 244, 3) := dbm_118.2.2.2.2
theorem dbm_119 : (((((decode cX6_goals 30 = .ok (.aload_n 0, 1)) ∧ (decode cX6_goals 31 = .ok (.getfield 25, 3))) ∧ ((decode cX6_goals 34 = .ok (.iload_n 1, 1)) ∧ (decode cX6_goals 35 = .ok (.iaload, 1)))) ∧ (((decode cX6_goals 36 = .ok (.istore_n 3, 1)) ∧ (decode cX6_goals 37 = .ok (.aload_n 0, 1))) ∧ ((decode cX6_goals 38 = .ok (.getfield 25, 3)) ∧ (decode cX6_goals 41 = .ok (.iload_n 1, 1))))) ∧ ((((decode cX6_goals 42 = .ok (.iload_n 2, 1)) ∧ (decode cX6_goals 43 = .ok (.iastore, 1))) ∧ ((decode cX6_goals 44 = .ok (.iload_n 3, 1)) ∧ (decode cX6_goals 45 = .ok (.ireturn, 1)))) ∧ (((decode cX6_visits 0 = .ok (.aload_n 0, 1)) ∧ (decode cX6_visits 1 = .ok (.iconst 0, 1))) ∧ ((decode cX6_visits 2 = .ok (.putfield 79, 3)) ∧ (decode cX6_visits 5 = .ok (.aload_n 0, 1)))))) := by decide +kernel
theorem dX6_goals_30 : decode cX6_goals 30 = .ok (.aload_n 0, 1) := dbm_119.1.1.1.1
theorem dX6_goals_31 : decode cX6_goals 31 = .ok (.getfield 25, 3) := dbm_119.1.1.1.2
theorem dX6_goals_34 : decode cX6_goals 34 = .ok (.iload_n 1, 1) := dbm_119.1.1.2.1
theorem dX6_goals_35 : decode cX6_goals 35 = .ok (.iaload, 1) := dbm_119.1.1.2.2
theorem dX6_goals_36 : decode cX6_goals 36 = .ok (.istore_n 3, 1) := dbm_119.1.2.1.1
theorem dX6_goals_37 : decode cX6_goals 37 = .ok (.aload_n 0, 1) := dbm_119.1.2.1.2
theorem dX6_goals_38 : decode cX6_goals 38 = .ok (.getfield 25, 3) := dbm_119.1.2.2.1
theorem dX6_goals_41 : decode cX6_goals 41 = .ok (.iload_n 1, 1) := dbm_119.1.2.2.2
theorem dX6_goals_42 : decode cX6_goals 42 = .ok (.iload_n 2, 1) := dbm_119.2.1.1.1
theorem dX6_goals_43 : decode cX6_goals 43 = .ok (.iastore, 1) := dbm_119.2.1.1.2
theorem dX6_goals_44 : decode cX6_goals 44 = .ok (.iload_n 3, 1) := dbm_119.2.1.2.1
theorem dX6_goals_45 : decode cX6_goals 45 = .ok (.ireturn, 1) := dbm_119.2.1.2.2
theorem dX6_visits_0 : decode cX6_visits 0 = .ok (.aload_n 0, 1) := dbm_119.2.2.1.1
theorem dX6_visits_1 : decode cX6_visits 1 = .ok (.iconst 0, 1) := dbm_119.2.2.1.2
theorem dX6_visits_2 : decode cX6_visits 2 = .ok (.putfield 79, 3) := dbm_119.2.2.2.1
theorem dX6_visits_5 : decode cX6_visits 5 = .ok (.aload_n 0, 1) := dbm_119.2.2.2.2
theorem dbm_120 : (((((decode cX6_visits 6 = .ok (.iload_n 1, 1)) ∧ (decode cX6_visits 7 = .ok (.iload_n 2, 1))) ∧ ((decode cX6_visits 8 = .ok (.invokevirtual 237, 3)) ∧ (decode cX6_visits 11 = .ok (.istore_n 3, 1)))) ∧ (((decode cX6_visits 12 = .ok (.iload_n 3, 1)) ∧ (decode cX6_visits 13 = .ok (.ifCond .ne 37, 3))) ∧ ((decode cX6_visits 16 = .ok (.aload_n 0, 1)) ∧ (decode cX6_visits 17 = .ok (.getfield 31, 3))))) ∧ ((((decode cX6_visits 20 = .ok (.bipush 7, 2)) ∧ (decode cX6_visits 22 = .ok (.iload_n 1, 1))) ∧ ((decode cX6_visits 23 = .ok (.imul, 1)) ∧ (decode cX6_visits 24 = .ok (.iload_n 2, 1)))) ∧ (((decode cX6_visits 25 = .ok (.iadd, 1)) ∧ (decode cX6_visits 26 = .ok (.iaload, 1))) ∧ ((decode cX6_visits 27 = .ok (.ifCond .eq 18, 3)) ∧ (decode cX6_visits 30 = .ok (.aload_n 0, 1)))))) := by decide +kernel
theorem dX6_visits_6 : decode cX6_visits 6 = .ok (.iload_n 1, 1) := dbm_120.1.1.1.1
theorem dX6_visits_7 : decode cX6_visits 7 = .ok (.iload_n 2, 1) := dbm_120.1.1.1.2
theorem dX6_visits_8 : decode cX6_visits 8 = .ok (.invokevirtual 237, 3) := dbm_120.1.1.2.1
theorem dX6_visits_11 : decode cX6_visits 11 = .ok (.istore_n 3, 1) := dbm_120.1.1.2.2
theorem dX6_visits_12 : decode cX6_visits 12 = .ok (.iload_n 3, 1) := dbm_120.1.2.1.1
theorem dX6_visits_13 : decode cX6_visits 13 = .ok (.ifCond .ne 37, 3) := dbm_120.1.2.1.2
theorem dX6_visits_16 : decode cX6_visits 16 = .ok (.aload_n 0, 1) := dbm_120.1.2.2.1
theorem dX6_visits_17 : decode cX6_visits 17 = .ok (.getfield 31, 3) := dbm_120.1.2.2.2
theorem dX6_visits_20 : decode cX6_visits 20 = .ok (.bipush 7, 2) := dbm_120.2.1.1.1
theorem dX6_visits_22 : decode cX6_visits 22 = .ok (.iload_n 1, 1) := dbm_120.2.1.1.2
theorem dX6_visits_23 : decode cX6_visits 23 = .ok (.imul, 1) := dbm_120.2.1.2.1
theorem dX6_visits_24 : decode cX6_visits 24 = .ok (.iload_n 2, 1) := dbm_120.2.1.2.2
theorem dX6_visits_25 : decode cX6_visits 25 = .ok (.iadd, 1) := dbm_120.2.2.1.1
theorem dX6_visits_26 : decode cX6_visits 26 = .ok (.iaload, 1) := dbm_120.2.2.1.2
theorem dX6_visits_27 : decode cX6_visits 27 = .ok (.ifCond .eq 18, 3) := dbm_120.2.2.2.1
theorem dX6_visits_30 : decode cX6_visits 30 = .ok (.aload_n 0, 1) := dbm_120.2.2.2.2
theorem dbm_121 : (((((decode cX6_visits 31 = .ok (.getfield 22, 3)) ∧ (decode cX6_visits 34 = .ok (.iload_n 1, 1))) ∧ ((decode cX6_visits 35 = .ok (.iaload, 1)) ∧ (decode cX6_visits 36 = .ok (.aload_n 0, 1)))) ∧ (((decode cX6_visits 37 = .ok (.getfield 16, 3)) ∧ (decode cX6_visits 40 = .ok (.iload_n 2, 1))) ∧ ((decode cX6_visits 41 = .ok (.iaload, 1)) ∧ (decode cX6_visits 42 = .ok (.if_icmp .eq 8, 3))))) ∧ ((((decode cX6_visits 45 = .ok (.bipush (-3), 2)) ∧ (decode cX6_visits 47 = .ok (.goto 4, 3))) ∧ ((decode cX6_visits 50 = .ok (.iload_n 3, 1)) ∧ (decode cX6_visits 51 = .ok (.istore_n 3, 1)))) ∧ (((decode cX6_visits 52 = .ok (.iload_n 3, 1)) ∧ (decode cX6_visits 53 = .ok (.ifCond .ge 9, 3))) ∧ ((decode cX6_visits 56 = .ok (.aload_n 0, 1)) ∧ (decode cX6_visits 57 = .ok (.iload_n 3, 1)))))) := by decide +kernel
theorem dX6_visits_31 : decode cX6_visits 31 = .ok (.getfield 22, 3) := dbm_121.1.1.1.1
theorem dX6_visits_34 : decode cX6_visits 34 = .ok (.iload_n 1, 1) := dbm_121.1.1.1.2
theorem dX6_visits_35 : decode cX6_visits 35 = .ok (.iaload, 1) := dbm_121.1.1.2.1
theorem dX6_visits_36 : decode cX6_visits 36 = .ok (.aload_n 0, 1) := dbm_121.1.1.2.2
theorem dX6_visits_37 : decode cX6_visits 37 = .ok (.getfield 16, 3) := dbm_121.1.2.1.1
theorem dX6_visits_40 : decode cX6_visits 40 = .ok (.iload_n 2, 1) := dbm_121.1.2.1.2
theorem dX6_visits_41 : decode cX6_visits 41 = .ok (.iaload, 1) := dbm_121.1.2.2.1
theorem dX6_visits_42 : decode cX6_visits 42 = .ok (.if_icmp .eq 8, 3) := dbm_121.1.2.2.2
theorem dX6_visits_45 : decode cX6_visits 45 = .ok (.bipush (-3), 2) := dbm_121.2.1.1.1
theorem dX6_visits_47 : decode cX6_visits 47 = .ok (.goto 4, 3) := dbm_121.2.1.1.2
theorem dX6_visits_50 : decode cX6_visits 50 = .ok (.iload_n 3, 1) := dbm_121.2.1.2.1
theorem dX6_visits_51 : decode cX6_visits 51 = .ok (.istore_n 3, 1) := dbm_121.2.1.2.2
theorem dX6_visits_52 : decode cX6_visits 52 = .ok (.iload_n 3, 1) := dbm_121.2.2.1.1
theorem dX6_visits_53 : decode cX6_visits 53 = .ok (.ifCond .ge 9, 3) := dbm_121.2.2.1.2
theorem dX6_visits_56 : decode cX6_visits 56 = .ok (.aload_n 0, 1) := dbm_121.2.2.2.1
theorem dX6_visits_57 : decode cX6_visits 57 = .ok (.iload_n 3, 1) := dbm_121.2.2.2.2
theorem dbm_122 : (((((decode cX6_visits 58 = .ok (.invokevirtual 143, 3)) ∧ (decode cX6_visits 61 = .ok (.ireturn, 1))) ∧ ((decode cX6_visits 62 = .ok (.aload_n 0, 1)) ∧ (decode cX6_visits 63 = .ok (.invokevirtual 244, 3)))) ∧ (((decode cX6_visits 66 = .ok (.aload_n 0, 1)) ∧ (decode cX6_visits 67 = .ok (.iload_n 2, 1))) ∧ ((decode cX6_visits 68 = .ok (.aload_n 0, 1)) ∧ (decode cX6_visits 69 = .ok (.getfield 31, 3))))) ∧ ((((decode cX6_visits 72 = .ok (.bipush 7, 2)) ∧ (decode cX6_visits 74 = .ok (.iload_n 1, 1))) ∧ ((decode cX6_visits 75 = .ok (.imul, 1)) ∧ (decode cX6_visits 76 = .ok (.iload_n 2, 1)))) ∧ (((decode cX6_visits 77 = .ok (.iadd, 1)) ∧ (decode cX6_visits 78 = .ok (.iaload, 1))) ∧ ((decode cX6_visits 79 = .ok (.iconst 1, 1)) ∧ (decode cX6_visits 80 = .ok (.isub, 1)))))) := by decide +kernel
theorem dX6_visits_58 : decode cX6_visits 58 = .ok (.invokevirtual 143, 3) := dbm_122.1.1.1.1
theorem dX6_visits_61 : decode cX6_visits 61 = .ok (.ireturn, 1) := dbm_122.1.1.1.2
theorem dX6_visits_62 : decode cX6_visits 62 = .ok (.aload_n 0, 1) := dbm_122.1.1.2.1
theorem dX6_visits_63 : decode cX6_visits 63 = .ok (.invokevirtual 244, 3) := dbm_122.1.1.2.2
theorem dX6_visits_66 : decode cX6_visits 66 = .ok (.aload_n 0, 1) := dbm_122.1.2.1.1
theorem dX6_visits_67 : decode cX6_visits 67 = .ok (.iload_n 2, 1) := dbm_122.1.2.1.2
theorem dX6_visits_68 : decode cX6_visits 68 = .ok (.aload_n 0, 1) := dbm_122.1.2.2.1
theorem dX6_visits_69 : decode cX6_visits 69 = .ok (.getfield 31, 3) := dbm_122.1.2.2.2
theorem dX6_visits_72 : decode cX6_visits 72 = .ok (.bipush 7, 2) := dbm_122.2.1.1.1
theorem dX6_visits_74 : decode cX6_visits 74 = .ok (.iload_n 1, 1) := dbm_122.2.1.1.2
theorem dX6_visits_75 : decode cX6_visits 75 = .ok (.imul, 1) := dbm_122.2.1.2.1
theorem dX6_visits_76 : decode cX6_visits 76 = .ok (.iload_n 2, 1) := dbm_122.2.1.2.2
theorem dX6_visits_77 : decode cX6_visits 77 = .ok (.iadd, 1) := dbm_122.2.2.1.1
theorem dX6_visits_78 : decode cX6_visits 78 = .ok (.iaload, 1) := dbm_122.2.2.1.2
theorem dX6_visits_79 : decode cX6_visits 79 = .ok (.iconst 1, 1) := dbm_122.2.2.2.1
theorem dX6_visits_80 : decode cX6_visits 80 = .ok (.isub, 1) := dbm_122.2.2.2.2
theorem dbm_123 : (((((decode cX6_visits 81 = .ok (.invokevirtual 110, 3)) ∧ (decode cX6_visits 84 = .ok (.istore 4, 2))) ∧ ((decode cX6_visits 86 = .ok (.aload_n 0, 1)) ∧ (decode cX6_visits 87 = .ok (.getfield 31, 3)))) ∧ (((decode cX6_visits 90 = .ok (.bipush 7, 2)) ∧ (decode cX6_visits 92 = .ok (.iload_n 1, 1))) ∧ ((decode cX6_visits 93 = .ok (.imul, 1)) ∧ (decode cX6_visits 94 = .ok (.iload_n 2, 1))))) ∧ ((((decode cX6_visits 95 = .ok (.iadd, 1)) ∧ (decode cX6_visits 96 = .ok (.iconst 0, 1))) ∧ ((decode cX6_visits 97 = .ok (.iastore, 1)) ∧ (decode cX6_visits 98 = .ok (.iload 4, 2)))) ∧ (((decode cX6_visits 100 = .ok (.ireturn, 1)) ∧ (decode cX6_trades 0 = .ok (.aload_n 0, 1))) ∧ ((decode cX6_trades 1 = .ok (.iconst 0, 1)) ∧ (decode cX6_trades 2 = .ok (.putfield 79, 3)))))) := by decide +kernel
theorem dX6_visits_81 : decode cX6_visits 81 = .ok (.invokevirtual 110, 3) := dbm_123.1.1.1.1
theorem dX6_visits_84 : decode cX6_visits 84 = .ok (.istore 4, 2) := dbm_123.1.1.1.2
theorem dX6_visits_86 : decode cX6_visits 86 = .ok (.aload_n 0, 1) := dbm_123.1.1.2.1
theorem dX6_visits_87 : decode cX6_visits 87 = .ok (.getfield 31, 3) := dbm_123.1.1.2.2
theorem dX6_visits_90 : decode cX6_visits 90 = .ok (.bipush 7, 2) := dbm_123.1.2.1.1
theorem dX6_visits_92 : decode cX6_visits 92 = .ok (.iload_n 1, 1) := dbm_123.1.2.1.2
theorem dX6_visits_93 : decode cX6_visits 93 = .ok (.imul, 1) := dbm_123.1.2.2.1
theorem dX6_visits_94 : decode cX6_visits 94 = .ok (.iload_n 2, 1) := dbm_123.1.2.2.2
theorem dX6_visits_95 : decode cX6_visits 95 = .ok (.iadd, 1) := dbm_123.2.1.1.1
theorem dX6_visits_96 : decode cX6_visits 96 = .ok (.iconst 0, 1) := dbm_123.2.1.1.2
theorem dX6_visits_97 : decode cX6_visits 97 = .ok (.iastore, 1) := dbm_123.2.1.2.1
theorem dX6_visits_98 : decode cX6_visits 98 = .ok (.iload 4, 2) := dbm_123.2.1.2.2
theorem dX6_visits_100 : decode cX6_visits 100 = .ok (.ireturn, 1) := dbm_123.2.2.1.1
theorem dX6_trades_0 : decode cX6_trades 0 = .ok (.aload_n 0, 1) := dbm_123.2.2.1.2
theorem dX6_trades_1 : decode cX6_trades 1 = .ok (.iconst 0, 1) := dbm_123.2.2.2.1
theorem dX6_trades_2 : decode cX6_trades 2 = .ok (.putfield 79, 3) := dbm_123.2.2.2.2
theorem dbm_124 : (((((decode cX6_trades 5 = .ok (.aload_n 0, 1)) ∧ (decode cX6_trades 6 = .ok (.iload_n 1, 1))) ∧ ((decode cX6_trades 7 = .ok (.invokevirtual 181, 3)) ∧ (decode cX6_trades 10 = .ok (.ifCond .eq 28, 3)))) ∧ (((decode cX6_trades 13 = .ok (.aload_n 0, 1)) ∧ (decode cX6_trades 14 = .ok (.iload_n 2, 1))) ∧ ((decode cX6_trades 15 = .ok (.invokevirtual 184, 3)) ∧ (decode cX6_trades 18 = .ok (.ifCond .eq 20, 3))))) ∧ ((((decode cX6_trades 21 = .ok (.aload_n 0, 1)) ∧ (decode cX6_trades 22 = .ok (.iload_n 3, 1))) ∧ ((decode cX6_trades 23 = .ok (.invokevirtual 184, 3)) ∧ (decode cX6_trades 26 = .ok (.ifCond .eq 12, 3)))) ∧ (((decode cX6_trades 29 = .ok (.iload_n 2, 1)) ∧ (decode cX6_trades 30 = .ok (.iload_n 3, 1))) ∧ ((decode cX6_trades 31 = .ok (.if_icmp .eq 7, 3)) ∧ (decode cX6_trades 34 = .ok (.iconst 0, 1)))))) := by decide +kernel
theorem dX6_trades_5 : decode cX6_trades 5 = .ok (.aload_n 0, 1) := dbm_124.1.1.1.1
theorem dX6_trades_6 : decode cX6_trades 6 = .ok (.iload_n 1, 1) := dbm_124.1.1.1.2
theorem dX6_trades_7 : decode cX6_trades 7 = .ok (.invokevirtual 181, 3) := dbm_124.1.1.2.1
theorem dX6_trades_10 : decode cX6_trades 10 = .ok (.ifCond .eq 28, 3) := dbm_124.1.1.2.2
theorem dX6_trades_13 : decode cX6_trades 13 = .ok (.aload_n 0, 1) := dbm_124.1.2.1.1
theorem dX6_trades_14 : decode cX6_trades 14 = .ok (.iload_n 2, 1) := dbm_124.1.2.1.2
theorem dX6_trades_15 : decode cX6_trades 15 = .ok (.invokevirtual 184, 3) := dbm_124.1.2.2.1
theorem dX6_trades_18 : decode cX6_trades 18 = .ok (.ifCond .eq 20, 3) := dbm_124.1.2.2.2
theorem dX6_trades_21 : decode cX6_trades 21 = .ok (.aload_n 0, 1) := dbm_124.2.1.1.1
theorem dX6_trades_22 : decode cX6_trades 22 = .ok (.iload_n 3, 1) := dbm_124.2.1.1.2
theorem dX6_trades_23 : decode cX6_trades 23 = .ok (.invokevirtual 184, 3) := dbm_124.2.1.2.1
theorem dX6_trades_26 : decode cX6_trades 26 = .ok (.ifCond .eq 12, 3) := dbm_124.2.1.2.2
theorem dX6_trades_29 : decode cX6_trades 29 = .ok (.iload_n 2, 1) := dbm_124.2.2.1.1
theorem dX6_trades_30 : decode cX6_trades 30 = .ok (.iload_n 3, 1) := dbm_124.2.2.1.2
theorem dX6_trades_31 : decode cX6_trades 31 = .ok (.if_icmp .eq 7, 3) := dbm_124.2.2.2.1
theorem dX6_trades_34 : decode cX6_trades 34 = .ok (.iconst 0, 1) := dbm_124.2.2.2.2
theorem dbm_125 : (((((decode cX6_trades 35 = .ok (.goto 4, 3)) ∧ (decode cX6_trades 38 = .ok (.iconst (-1), 1))) ∧ ((decode cX6_trades 39 = .ok (.istore 4, 2)) ∧ (decode cX6_trades 41 = .ok (.iload 4, 2)))) ∧ (((decode cX6_trades 43 = .ok (.ifCond .ne 36, 3)) ∧ (decode cX6_trades 46 = .ok (.aload_n 0, 1))) ∧ ((decode cX6_trades 47 = .ok (.getfield 31, 3)) ∧ (decode cX6_trades 50 = .ok (.bipush 7, 2))))) ∧ ((((decode cX6_trades 52 = .ok (.iload_n 2, 1)) ∧ (decode cX6_trades 53 = .ok (.imul, 1))) ∧ ((decode cX6_trades 54 = .ok (.iload_n 1, 1)) ∧ (decode cX6_trades 55 = .ok (.iadd, 1)))) ∧ (((decode cX6_trades 56 = .ok (.iaload, 1)) ∧ (decode cX6_trades 57 = .ok (.ifCond .eq 17, 3))) ∧ ((decode cX6_trades 60 = .ok (.aload_n 0, 1)) ∧ (decode cX6_trades 61 = .ok (.getfield 31, 3)))))) := by decide +kernel
theorem dX6_trades_35 : decode cX6_trades 35 = .ok (.goto 4, 3) := dbm_125.1.1.1.1
theorem dX6_trades_38 : decode cX6_trades 38 = .ok (.iconst (-1), 1) := dbm_125.1.1.1.2
theorem dX6_trades_39 : decode cX6_trades 39 = .ok (.istore 4, 2) := dbm_125.1.1.2.1
theorem dX6_trades_41 : decode cX6_trades 41 = .ok (.iload 4, 2) := dbm_125.1.1.2.2
theorem dX6_trades_43 : decode cX6_trades 43 = .ok (.ifCond .ne 36, 3) := dbm_125.1.2.1.1
theorem dX6_trades_46 : decode cX6_trades 46 = .ok (.aload_n 0, 1) := dbm_125.1.2.1.2
theorem dX6_trades_47 : decode cX6_trades 47 = .ok (.getfield 31, 3) := dbm_125.1.2.2.1
theorem dX6_trades_50 : decode cX6_trades 50 = .ok (.bipush 7, 2) := dbm_125.1.2.2.2
theorem dX6_trades_52 : decode cX6_trades 52 = .ok (.iload_n 2, 1) := dbm_125.2.1.1.1
theorem dX6_trades_53 : decode cX6_trades 53 = .ok (.imul, 1) := dbm_125.2.1.1.2
theorem dX6_trades_54 : decode cX6_trades 54 = .ok (.iload_n 1, 1) := dbm_125.2.1.2.1
theorem dX6_trades_55 : decode cX6_trades 55 = .ok (.iadd, 1) := dbm_125.2.1.2.2
theorem dX6_trades_56 : decode cX6_trades 56 = .ok (.iaload, 1) := dbm_125.2.2.1.1
theorem dX6_trades_57 : decode cX6_trades 57 = .ok (.ifCond .eq 17, 3) := dbm_125.2.2.1.2
theorem dX6_trades_60 : decode cX6_trades 60 = .ok (.aload_n 0, 1) := dbm_125.2.2.2.1
theorem dX6_trades_61 : decode cX6_trades 61 = .ok (.getfield 31, 3) := dbm_125.2.2.2.2
theorem dbm_126 : (((((decode cX6_trades 64 = .ok (.bipush 7, 2)) ∧ (decode cX6_trades 66 = .ok (.iload_n 3, 1))) ∧ ((decode cX6_trades 67 = .ok (.imul, 1)) ∧ (decode cX6_trades 68 = .ok (.iload_n 1, 1)))) ∧ (((decode cX6_trades 69 = .ok (.iadd, 1)) ∧ (decode cX6_trades 70 = .ok (.iaload, 1))) ∧ ((decode cX6_trades 71 = .ok (.ifCond .le 8, 3)) ∧ (decode cX6_trades 74 = .ok (.bipush (-3), 2))))) ∧ ((((decode cX6_trades 76 = .ok (.goto 5, 3)) ∧ (decode cX6_trades 79 = .ok (.iload 4, 2))) ∧ ((decode cX6_trades 81 = .ok (.istore 4, 2)) ∧ (decode cX6_trades 83 = .ok (.iload 4, 2)))) ∧ (((decode cX6_trades 85 = .ok (.ifCond .ge 10, 3)) ∧ (decode cX6_trades 88 = .ok (.aload_n 0, 1))) ∧ ((decode cX6_trades 89 = .ok (.iload 4, 2)) ∧ (decode cX6_trades 91 = .ok (.invokevirtual 143, 3)))))) := by decide +kernel
theorem dX6_trades_64 : decode cX6_trades 64 = .ok (.bipush 7, 2) := dbm_126.1.1.1.1
theorem dX6_trades_66 : decode cX6_trades 66 = .ok (.iload_n 3, 1) := dbm_126.1.1.1.2
theorem dX6_trades_67 : decode cX6_trades 67 = .ok (.imul, 1) := dbm_126.1.1.2.1
theorem dX6_trades_68 : decode cX6_trades 68 = .ok (.iload_n 1, 1) := dbm_126.1.1.2.2
theorem dX6_trades_69 : decode cX6_trades 69 = .ok (.iadd, 1) := dbm_126.1.2.1.1
theorem dX6_trades_70 : decode cX6_trades 70 = .ok (.iaload, 1) := dbm_126.1.2.1.2
theorem dX6_trades_71 : decode cX6_trades 71 = .ok (.ifCond .le 8, 3) := dbm_126.1.2.2.1
theorem dX6_trades_74 : decode cX6_trades 74 = .ok (.bipush (-3), 2) := dbm_126.1.2.2.2
theorem dX6_trades_76 : decode cX6_trades 76 = .ok (.goto 5, 3) := dbm_126.2.1.1.1
theorem dX6_trades_79 : decode cX6_trades 79 = .ok (.iload 4, 2) := dbm_126.2.1.1.2
theorem dX6_trades_81 : decode cX6_trades 81 = .ok (.istore 4, 2) := dbm_126.2.1.2.1
theorem dX6_trades_83 : decode cX6_trades 83 = .ok (.iload 4, 2) := dbm_126.2.1.2.2
theorem dX6_trades_85 : decode cX6_trades 85 = .ok (.ifCond .ge 10, 3) := dbm_126.2.2.1.1
theorem dX6_trades_88 : decode cX6_trades 88 = .ok (.aload_n 0, 1) := dbm_126.2.2.1.2
theorem dX6_trades_89 : decode cX6_trades 89 = .ok (.iload 4, 2) := dbm_126.2.2.2.1
theorem dX6_trades_91 : decode cX6_trades 91 = .ok (.invokevirtual 143, 3) := dbm_126.2.2.2.2
theorem dbm_127 : (((((decode cX6_trades 94 = .ok (.ireturn, 1)) ∧ (decode cX6_trades 95 = .ok (.aload_n 0, 1))) ∧ ((decode cX6_trades 96 = .ok (.invokevirtual 244, 3)) ∧ (decode cX6_trades 99 = .ok (.aload_n 0, 1)))) ∧ (((decode cX6_trades 100 = .ok (.getfield 31, 3)) ∧ (decode cX6_trades 103 = .ok (.bipush 7, 2))) ∧ ((decode cX6_trades 105 = .ok (.iload_n 3, 1)) ∧ (decode cX6_trades 106 = .ok (.imul, 1))))) ∧ ((((decode cX6_trades 107 = .ok (.iload_n 1, 1)) ∧ (decode cX6_trades 108 = .ok (.iadd, 1))) ∧ ((decode cX6_trades 109 = .ok (.aload_n 0, 1)) ∧ (decode cX6_trades 110 = .ok (.getfield 31, 3)))) ∧ (((decode cX6_trades 113 = .ok (.bipush 7, 2)) ∧ (decode cX6_trades 115 = .ok (.iload_n 2, 1))) ∧ ((decode cX6_trades 116 = .ok (.imul, 1)) ∧ (decode cX6_trades 117 = .ok (.iload_n 1, 1)))))) := by decide +kernel
theorem dX6_trades_94 : decode cX6_trades 94 = .ok (.ireturn, 1) := dbm_127.1.1.1.1
theorem dX6_trades_95 : decode cX6_trades 95 = .ok (.aload_n 0, 1) := dbm_127.1.1.1.2
theorem dX6_trades_96 : decode cX6_trades 96 = .ok (.invokevirtual 244, 3) := dbm_127.1.1.2.1
theorem dX6_trades_99 : decode cX6_trades 99 = .ok (.aload_n 0, 1) := dbm_127.1.1.2.2
theorem dX6_trades_100 : decode cX6_trades 100 = .ok (.getfield 31, 3) := dbm_127.1.2.1.1
theorem dX6_trades_103 : decode cX6_trades 103 = .ok (.bipush 7, 2) := dbm_127.1.2.1.2
theorem dX6_trades_105 : decode cX6_trades 105 = .ok (.iload_n 3, 1) := dbm_127.1.2.2.1
theorem dX6_trades_106 : decode cX6_trades 106 = .ok (.imul, 1) := dbm_127.1.2.2.2
theorem dX6_trades_107 : decode cX6_trades 107 = .ok (.iload_n 1, 1) := dbm_127.2.1.1.1
theorem dX6_trades_108 : decode cX6_trades 108 = .ok (.iadd, 1) := dbm_127.2.1.1.2
theorem dX6_trades_109 : decode cX6_trades 109 = .ok (.aload_n 0, 1) := dbm_127.2.1.2.1
theorem dX6_trades_110 : decode cX6_trades 110 = .ok (.getfield 31, 3) := dbm_127.2.1.2.2
theorem dX6_trades_113 : decode cX6_trades 113 = .ok (.bipush 7, 2) := dbm_127.2.2.1.1
theorem dX6_trades_115 : decode cX6_trades 115 = .ok (.iload_n 2, 1) := dbm_127.2.2.1.2
theorem dX6_trades_116 : decode cX6_trades 116 = .ok (.imul, 1) := dbm_127.2.2.2.1
theorem dX6_trades_117 : decode cX6_trades 117 = .ok (.iload_n 1, 1) := dbm_127.2.2.2.2
theorem dbm_128 : (((((decode cX6_trades 118 = .ok (.iadd, 1)) ∧ (decode cX6_trades 119 = .ok (.iaload, 1))) ∧ ((decode cX6_trades 120 = .ok (.iastore, 1)) ∧ (decode cX6_trades 121 = .ok (.aload_n 0, 1)))) ∧ (((decode cX6_trades 122 = .ok (.getfield 31, 3)) ∧ (decode cX6_trades 125 = .ok (.bipush 7, 2))) ∧ ((decode cX6_trades 127 = .ok (.iload_n 2, 1)) ∧ (decode cX6_trades 128 = .ok (.imul, 1))))) ∧ ((((decode cX6_trades 129 = .ok (.iload_n 1, 1)) ∧ (decode cX6_trades 130 = .ok (.iadd, 1))) ∧ ((decode cX6_trades 131 = .ok (.iconst 0, 1)) ∧ (decode cX6_trades 132 = .ok (.iastore, 1)))) ∧ (((decode cX6_trades 133 = .ok (.aload_n 0, 1)) ∧ (decode cX6_trades 134 = .ok (.getfield 31, 3))) ∧ ((decode cX6_trades 137 = .ok (.bipush 7, 2)) ∧ (decode cX6_trades 139 = .ok (.iload_n 3, 1)))))) := by decide +kernel
theorem dX6_trades_118 : decode cX6_trades 118 = .ok (.iadd, 1) := dbm_128.1.1.1.1
theorem dX6_trades_119 : decode cX6_trades 119 = .ok (.iaload, 1) := dbm_128.1.1.1.2
theorem dX6_trades_120 : decode cX6_trades 120 = .ok (.iastore, 1) := dbm_128.1.1.2.1
theorem dX6_trades_121 : decode cX6_trades 121 = .ok (.aload_n 0, 1) := dbm_128.1.1.2.2
theorem dX6_trades_122 : decode cX6_trades 122 = .ok (.getfield 31, 3) := dbm_128.1.2.1.1
theorem dX6_trades_125 : decode cX6_trades 125 = .ok (.bipush 7, 2) := dbm_128.1.2.1.2
theorem dX6_trades_127 : decode cX6_trades 127 = .ok (.iload_n 2, 1) := dbm_128.1.2.2.1
theorem dX6_trades_128 : decode cX6_trades 128 = .ok (.imul, 1) := dbm_128.1.2.2.2
theorem dX6_trades_129 : decode cX6_trades 129 = .ok (.iload_n 1, 1) := dbm_128.2.1.1.1
theorem dX6_trades_130 : decode cX6_trades 130 = .ok (.iadd, 1) := dbm_128.2.1.1.2
theorem dX6_trades_131 : decode cX6_trades 131 = .ok (.iconst 0, 1) := dbm_128.2.1.2.1
theorem dX6_trades_132 : decode cX6_trades 132 = .ok (.iastore, 1) := dbm_128.2.1.2.2
theorem dX6_trades_133 : decode cX6_trades 133 = .ok (.aload_n 0, 1) := dbm_128.2.2.1.1
theorem dX6_trades_134 : decode cX6_trades 134 = .ok (.getfield 31, 3) := dbm_128.2.2.1.2
theorem dX6_trades_137 : decode cX6_trades 137 = .ok (.bipush 7, 2) := dbm_128.2.2.2.1
theorem dX6_trades_139 : decode cX6_trades 139 = .ok (.iload_n 3, 1) := dbm_128.2.2.2.2
theorem dbm_129 : (((((decode cX6_trades 140 = .ok (.imul, 1)) ∧ (decode cX6_trades 141 = .ok (.iload_n 1, 1))) ∧ ((decode cX6_trades 142 = .ok (.iadd, 1)) ∧ (decode cX6_trades 143 = .ok (.iaload, 1)))) ∧ (((decode cX6_trades 144 = .ok (.iconst 1, 1)) ∧ (decode cX6_trades 145 = .ok (.isub, 1))) ∧ ((decode cX6_trades 146 = .ok (.ireturn, 1)) ∧ (decode cX6_evenings 0 = .ok (.aload_n 0, 1))))) ∧ ((((decode cX6_evenings 1 = .ok (.iconst 0, 1)) ∧ (decode cX6_evenings 2 = .ok (.putfield 79, 3))) ∧ ((decode cX6_evenings 5 = .ok (.iload_n 1, 1)) ∧ (decode cX6_evenings 6 = .ok (.iconst 1, 1)))) ∧ (((decode cX6_evenings 7 = .ok (.bipush 60, 2)) ∧ (decode cX6_evenings 9 = .ok (.invokestatic 240, 3))) ∧ ((decode cX6_evenings 12 = .ok (.istore_n 2, 1)) ∧ (decode cX6_evenings 13 = .ok (.iload_n 2, 1)))))) := by decide +kernel
theorem dX6_trades_140 : decode cX6_trades 140 = .ok (.imul, 1) := dbm_129.1.1.1.1
theorem dX6_trades_141 : decode cX6_trades 141 = .ok (.iload_n 1, 1) := dbm_129.1.1.1.2
theorem dX6_trades_142 : decode cX6_trades 142 = .ok (.iadd, 1) := dbm_129.1.1.2.1
theorem dX6_trades_143 : decode cX6_trades 143 = .ok (.iaload, 1) := dbm_129.1.1.2.2
theorem dX6_trades_144 : decode cX6_trades 144 = .ok (.iconst 1, 1) := dbm_129.1.2.1.1
theorem dX6_trades_145 : decode cX6_trades 145 = .ok (.isub, 1) := dbm_129.1.2.1.2
theorem dX6_trades_146 : decode cX6_trades 146 = .ok (.ireturn, 1) := dbm_129.1.2.2.1
theorem dX6_evenings_0 : decode cX6_evenings 0 = .ok (.aload_n 0, 1) := dbm_129.1.2.2.2
theorem dX6_evenings_1 : decode cX6_evenings 1 = .ok (.iconst 0, 1) := dbm_129.2.1.1.1
theorem dX6_evenings_2 : decode cX6_evenings 2 = .ok (.putfield 79, 3) := dbm_129.2.1.1.2
theorem dX6_evenings_5 : decode cX6_evenings 5 = .ok (.iload_n 1, 1) := dbm_129.2.1.2.1
theorem dX6_evenings_6 : decode cX6_evenings 6 = .ok (.iconst 1, 1) := dbm_129.2.1.2.2
theorem dX6_evenings_7 : decode cX6_evenings 7 = .ok (.bipush 60, 2) := dbm_129.2.2.1.1
theorem dX6_evenings_9 : decode cX6_evenings 9 = .ok (.invokestatic 240, 3) := dbm_129.2.2.1.2
theorem dX6_evenings_12 : decode cX6_evenings 12 = .ok (.istore_n 2, 1) := dbm_129.2.2.2.1
theorem dX6_evenings_13 : decode cX6_evenings 13 = .ok (.iload_n 2, 1) := dbm_129.2.2.2.2
theorem dbm_130 : (((((decode cX6_evenings 14 = .ok (.ifCond .ne 20, 3)) ∧ (decode cX6_evenings 17 = .ok (.aload_n 0, 1))) ∧ ((decode cX6_evenings 18 = .ok (.getfield 122, 3)) ∧ (decode cX6_evenings 21 = .ok (.iload_n 1, 1)))) ∧ (((decode cX6_evenings 22 = .ok (.iadd, 1)) ∧ (decode cX6_evenings 23 = .ok (.sipush 999, 3))) ∧ ((decode cX6_evenings 26 = .ok (.if_icmp .le 8, 3)) ∧ (decode cX6_evenings 29 = .ok (.bipush (-6), 2))))) ∧ ((((decode cX6_evenings 31 = .ok (.goto 4, 3)) ∧ (decode cX6_evenings 34 = .ok (.iload_n 2, 1))) ∧ ((decode cX6_evenings 35 = .ok (.istore_n 2, 1)) ∧ (decode cX6_evenings 36 = .ok (.iload_n 2, 1)))) ∧ (((decode cX6_evenings 37 = .ok (.ifCond .ge 9, 3)) ∧ (decode cX6_evenings 40 = .ok (.aload_n 0, 1))) ∧ ((decode cX6_evenings 41 = .ok (.iload_n 2, 1)) ∧ (decode cX6_evenings 42 = .ok (.invokevirtual 143, 3)))))) := by decide +kernel
theorem dX6_evenings_14 : decode cX6_evenings 14 = .ok (.ifCond .ne 20, 3) := dbm_130.1.1.1.1
theorem dX6_evenings_17 : decode cX6_evenings 17 = .ok (.aload_n 0, 1) := dbm_130.1.1.1.2
theorem dX6_evenings_18 : decode cX6_evenings 18 = .ok (.getfield 122, 3) := dbm_130.1.1.2.1
theorem dX6_evenings_21 : decode cX6_evenings 21 = .ok (.iload_n 1, 1) := dbm_130.1.1.2.2
theorem dX6_evenings_22 : decode cX6_evenings 22 = .ok (.iadd, 1) := dbm_130.1.2.1.1
theorem dX6_evenings_23 : decode cX6_evenings 23 = .ok (.sipush 999, 3) := dbm_130.1.2.1.2
theorem dX6_evenings_26 : decode cX6_evenings 26 = .ok (.if_icmp .le 8, 3) := dbm_130.1.2.2.1
theorem dX6_evenings_29 : decode cX6_evenings 29 = .ok (.bipush (-6), 2) := dbm_130.1.2.2.2
theorem dX6_evenings_31 : decode cX6_evenings 31 = .ok (.goto 4, 3) := dbm_130.2.1.1.1
theorem dX6_evenings_34 : decode cX6_evenings 34 = .ok (.iload_n 2, 1) := dbm_130.2.1.1.2
theorem dX6_evenings_35 : decode cX6_evenings 35 = .ok (.istore_n 2, 1) := dbm_130.2.1.2.1
theorem dX6_evenings_36 : decode cX6_evenings 36 = .ok (.iload_n 2, 1) := dbm_130.2.1.2.2
theorem dX6_evenings_37 : decode cX6_evenings 37 = .ok (.ifCond .ge 9, 3) := dbm_130.2.2.1.1
theorem dX6_evenings_40 : decode cX6_evenings 40 = .ok (.aload_n 0, 1) := dbm_130.2.2.1.2
theorem dX6_evenings_41 : decode cX6_evenings 41 = .ok (.iload_n 2, 1) := dbm_130.2.2.2.1
theorem dX6_evenings_42 : decode cX6_evenings 42 = .ok (.invokevirtual 143, 3) := dbm_130.2.2.2.2
theorem dbm_131 : (((((decode cX6_evenings 45 = .ok (.ireturn, 1)) ∧ (decode cX6_evenings 46 = .ok (.aload_n 0, 1))) ∧ ((decode cX6_evenings 47 = .ok (.invokevirtual 244, 3)) ∧ (decode cX6_evenings 50 = .ok (.aload_n 0, 1)))) ∧ (((decode cX6_evenings 51 = .ok (.iload_n 1, 1)) ∧ (decode cX6_evenings 52 = .ok (.invokevirtual 189, 3))) ∧ ((decode cX6_evenings 55 = .ok (.aload_n 0, 1)) ∧ (decode cX6_evenings 56 = .ok (.invokevirtual 247, 3))))) ∧ ((((decode cX6_evenings 59 = .ok (.ireturn, 1)) ∧ (decode cX6_walkerIn 0 = .ok (.aload_n 0, 1))) ∧ ((decode cX6_walkerIn 1 = .ok (.iconst 0, 1)) ∧ (decode cX6_walkerIn 2 = .ok (.putfield 79, 3)))) ∧ (((decode cX6_walkerIn 5 = .ok (.aload_n 0, 1)) ∧ (decode cX6_walkerIn 6 = .ok (.iload_n 1, 1))) ∧ ((decode cX6_walkerIn 7 = .ok (.invokevirtual 184, 3)) ∧ (decode cX6_walkerIn 10 = .ok (.ifCond .eq 13, 3)))))) := by decide +kernel
theorem dX6_evenings_45 : decode cX6_evenings 45 = .ok (.ireturn, 1) := dbm_131.1.1.1.1
theorem dX6_evenings_46 : decode cX6_evenings 46 = .ok (.aload_n 0, 1) := dbm_131.1.1.1.2
theorem dX6_evenings_47 : decode cX6_evenings 47 = .ok (.invokevirtual 244, 3) := dbm_131.1.1.2.1
theorem dX6_evenings_50 : decode cX6_evenings 50 = .ok (.aload_n 0, 1) := dbm_131.1.1.2.2
theorem dX6_evenings_51 : decode cX6_evenings 51 = .ok (.iload_n 1, 1) := dbm_131.1.2.1.1
theorem dX6_evenings_52 : decode cX6_evenings 52 = .ok (.invokevirtual 189, 3) := dbm_131.1.2.1.2
theorem dX6_evenings_55 : decode cX6_evenings 55 = .ok (.aload_n 0, 1) := dbm_131.1.2.2.1
theorem dX6_evenings_56 : decode cX6_evenings 56 = .ok (.invokevirtual 247, 3) := dbm_131.1.2.2.2
theorem dX6_evenings_59 : decode cX6_evenings 59 = .ok (.ireturn, 1) := dbm_131.2.1.1.1
theorem dX6_walkerIn_0 : decode cX6_walkerIn 0 = .ok (.aload_n 0, 1) := dbm_131.2.1.1.2
theorem dX6_walkerIn_1 : decode cX6_walkerIn 1 = .ok (.iconst 0, 1) := dbm_131.2.1.2.1
theorem dX6_walkerIn_2 : decode cX6_walkerIn 2 = .ok (.putfield 79, 3) := dbm_131.2.1.2.2
theorem dX6_walkerIn_5 : decode cX6_walkerIn 5 = .ok (.aload_n 0, 1) := dbm_131.2.2.1.1
theorem dX6_walkerIn_6 : decode cX6_walkerIn 6 = .ok (.iload_n 1, 1) := dbm_131.2.2.1.2
theorem dX6_walkerIn_7 : decode cX6_walkerIn 7 = .ok (.invokevirtual 184, 3) := dbm_131.2.2.2.1
theorem dX6_walkerIn_10 : decode cX6_walkerIn 10 = .ok (.ifCond .eq 13, 3) := dbm_131.2.2.2.2
theorem dbm_132 : (((((decode cX6_walkerIn 13 = .ok (.iload_n 2, 1)) ∧ (decode cX6_walkerIn 14 = .ok (.iconst 0, 1))) ∧ ((decode cX6_walkerIn 15 = .ok (.bipush 60, 2)) ∧ (decode cX6_walkerIn 17 = .ok (.invokestatic 240, 3)))) ∧ (((decode cX6_walkerIn 20 = .ok (.goto 4, 3)) ∧ (decode cX6_walkerIn 23 = .ok (.iconst (-1), 1))) ∧ ((decode cX6_walkerIn 24 = .ok (.iload_n 3, 1)) ∧ (decode cX6_walkerIn 25 = .ok (.iconst 2, 1))))) ∧ ((((decode cX6_walkerIn 26 = .ok (.invokestatic 250, 3)) ∧ (decode cX6_walkerIn 29 = .ok (.istore 4, 2))) ∧ ((decode cX6_walkerIn 31 = .ok (.iload 4, 2)) ∧ (decode cX6_walkerIn 33 = .ok (.ifCond .ge 10, 3)))) ∧ (((decode cX6_walkerIn 36 = .ok (.aload_n 0, 1)) ∧ (decode cX6_walkerIn 37 = .ok (.iload 4, 2))) ∧ ((decode cX6_walkerIn 39 = .ok (.invokevirtual 143, 3)) ∧ (decode cX6_walkerIn 42 = .ok (.ireturn, 1)))))) := by decide +kernel
theorem dX6_walkerIn_13 : decode cX6_walkerIn 13 = .ok (.iload_n 2, 1) := dbm_132.1.1.1.1
theorem dX6_walkerIn_14 : decode cX6_walkerIn 14 = .ok (.iconst 0, 1) := dbm_132.1.1.1.2
theorem dX6_walkerIn_15 : decode cX6_walkerIn 15 = .ok (.bipush 60, 2) := dbm_132.1.1.2.1
theorem dX6_walkerIn_17 : decode cX6_walkerIn 17 = .ok (.invokestatic 240, 3) := dbm_132.1.1.2.2
theorem dX6_walkerIn_20 : decode cX6_walkerIn 20 = .ok (.goto 4, 3) := dbm_132.1.2.1.1
theorem dX6_walkerIn_23 : decode cX6_walkerIn 23 = .ok (.iconst (-1), 1) := dbm_132.1.2.1.2
theorem dX6_walkerIn_24 : decode cX6_walkerIn 24 = .ok (.iload_n 3, 1) := dbm_132.1.2.2.1
theorem dX6_walkerIn_25 : decode cX6_walkerIn 25 = .ok (.iconst 2, 1) := dbm_132.1.2.2.2
theorem dX6_walkerIn_26 : decode cX6_walkerIn 26 = .ok (.invokestatic 250, 3) := dbm_132.2.1.1.1
theorem dX6_walkerIn_29 : decode cX6_walkerIn 29 = .ok (.istore 4, 2) := dbm_132.2.1.1.2
theorem dX6_walkerIn_31 : decode cX6_walkerIn 31 = .ok (.iload 4, 2) := dbm_132.2.1.2.1
theorem dX6_walkerIn_33 : decode cX6_walkerIn 33 = .ok (.ifCond .ge 10, 3) := dbm_132.2.1.2.2
theorem dX6_walkerIn_36 : decode cX6_walkerIn 36 = .ok (.aload_n 0, 1) := dbm_132.2.2.1.1
theorem dX6_walkerIn_37 : decode cX6_walkerIn 37 = .ok (.iload 4, 2) := dbm_132.2.2.1.2
theorem dX6_walkerIn_39 : decode cX6_walkerIn 39 = .ok (.invokevirtual 143, 3) := dbm_132.2.2.2.1
theorem dX6_walkerIn_42 : decode cX6_walkerIn 42 = .ok (.ireturn, 1) := dbm_132.2.2.2.2
theorem dbm_133 : (((((decode cX6_walkerIn 43 = .ok (.aload_n 0, 1)) ∧ (decode cX6_walkerIn 44 = .ok (.invokevirtual 196, 3))) ∧ ((decode cX6_walkerIn 47 = .ok (.aload_n 0, 1)) ∧ (decode cX6_walkerIn 48 = .ok (.iload_n 2, 1)))) ∧ (((decode cX6_walkerIn 49 = .ok (.invokevirtual 189, 3)) ∧ (decode cX6_walkerIn 52 = .ok (.iload_n 3, 1))) ∧ ((decode cX6_walkerIn 53 = .ok (.ifCond .ne 12, 3)) ∧ (decode cX6_walkerIn 56 = .ok (.aload_n 0, 1))))) ∧ ((((decode cX6_walkerIn 57 = .ok (.getfield 22, 3)) ∧ (decode cX6_walkerIn 60 = .ok (.iload_n 1, 1))) ∧ ((decode cX6_walkerIn 61 = .ok (.iaload, 1)) ∧ (decode cX6_walkerIn 62 = .ok (.goto 21, 3)))) ∧ (((decode cX6_walkerIn 65 = .ok (.iload_n 3, 1)) ∧ (decode cX6_walkerIn 66 = .ok (.iconst 1, 1))) ∧ ((decode cX6_walkerIn 67 = .ok (.if_icmp .ne 11, 3)) ∧ (decode cX6_walkerIn 70 = .ok (.aload_n 0, 1)))))) := by decide +kernel
theorem dX6_walkerIn_43 : decode cX6_walkerIn 43 = .ok (.aload_n 0, 1) := dbm_133.1.1.1.1
theorem dX6_walkerIn_44 : decode cX6_walkerIn 44 = .ok (.invokevirtual 196, 3) := dbm_133.1.1.1.2
theorem dX6_walkerIn_47 : decode cX6_walkerIn 47 = .ok (.aload_n 0, 1) := dbm_133.1.1.2.1
theorem dX6_walkerIn_48 : decode cX6_walkerIn 48 = .ok (.iload_n 2, 1) := dbm_133.1.1.2.2
theorem dX6_walkerIn_49 : decode cX6_walkerIn 49 = .ok (.invokevirtual 189, 3) := dbm_133.1.2.1.1
theorem dX6_walkerIn_52 : decode cX6_walkerIn 52 = .ok (.iload_n 3, 1) := dbm_133.1.2.1.2
theorem dX6_walkerIn_53 : decode cX6_walkerIn 53 = .ok (.ifCond .ne 12, 3) := dbm_133.1.2.2.1
theorem dX6_walkerIn_56 : decode cX6_walkerIn 56 = .ok (.aload_n 0, 1) := dbm_133.1.2.2.2
theorem dX6_walkerIn_57 : decode cX6_walkerIn 57 = .ok (.getfield 22, 3) := dbm_133.2.1.1.1
theorem dX6_walkerIn_60 : decode cX6_walkerIn 60 = .ok (.iload_n 1, 1) := dbm_133.2.1.1.2
theorem dX6_walkerIn_61 : decode cX6_walkerIn 61 = .ok (.iaload, 1) := dbm_133.2.1.2.1
theorem dX6_walkerIn_62 : decode cX6_walkerIn 62 = .ok (.goto 21, 3) := dbm_133.2.1.2.2
theorem dX6_walkerIn_65 : decode cX6_walkerIn 65 = .ok (.iload_n 3, 1) := dbm_133.2.2.1.1
theorem dX6_walkerIn_66 : decode cX6_walkerIn 66 = .ok (.iconst 1, 1) := dbm_133.2.2.1.2
theorem dX6_walkerIn_67 : decode cX6_walkerIn 67 = .ok (.if_icmp .ne 11, 3) := dbm_133.2.2.2.1
theorem dX6_walkerIn_70 : decode cX6_walkerIn 70 = .ok (.aload_n 0, 1) := dbm_133.2.2.2.2
theorem dbm_134 : (((((decode cX6_walkerIn 71 = .ok (.iload_n 1, 1)) ∧ (decode cX6_walkerIn 72 = .ok (.invokevirtual 116, 3))) ∧ ((decode cX6_walkerIn 75 = .ok (.goto 8, 3)) ∧ (decode cX6_walkerIn 78 = .ok (.aload_n 0, 1)))) ∧ (((decode cX6_walkerIn 79 = .ok (.iload_n 1, 1)) ∧ (decode cX6_walkerIn 80 = .ok (.invokevirtual 113, 3))) ∧ ((decode cX6_walkerIn 83 = .ok (.istore 5, 2)) ∧ (decode cX6_walkerIn 85 = .ok (.aload_n 0, 1))))) ∧ ((((decode cX6_walkerIn 86 = .ok (.invokevirtual 202, 3)) ∧ (decode cX6_walkerIn 89 = .ok (.iload 5, 2))) ∧ ((decode cX6_walkerIn 91 = .ok (.ireturn, 1)) ∧ (decode cX6_prices 0 = .ok (.aload_n 0, 1)))) ∧ (((decode cX6_prices 1 = .ok (.iconst 0, 1)) ∧ (decode cX6_prices 2 = .ok (.putfield 79, 3))) ∧ ((decode cX6_prices 5 = .ok (.iload_n 1, 1)) ∧ (decode cX6_prices 6 = .ok (.iconst 0, 1)))))) := by decide +kernel
theorem dX6_walkerIn_71 : decode cX6_walkerIn 71 = .ok (.iload_n 1, 1) := dbm_134.1.1.1.1
theorem dX6_walkerIn_72 : decode cX6_walkerIn 72 = .ok (.invokevirtual 116, 3) := dbm_134.1.1.1.2
theorem dX6_walkerIn_75 : decode cX6_walkerIn 75 = .ok (.goto 8, 3) := dbm_134.1.1.2.1
theorem dX6_walkerIn_78 : decode cX6_walkerIn 78 = .ok (.aload_n 0, 1) := dbm_134.1.1.2.2
theorem dX6_walkerIn_79 : decode cX6_walkerIn 79 = .ok (.iload_n 1, 1) := dbm_134.1.2.1.1
theorem dX6_walkerIn_80 : decode cX6_walkerIn 80 = .ok (.invokevirtual 113, 3) := dbm_134.1.2.1.2
theorem dX6_walkerIn_83 : decode cX6_walkerIn 83 = .ok (.istore 5, 2) := dbm_134.1.2.2.1
theorem dX6_walkerIn_85 : decode cX6_walkerIn 85 = .ok (.aload_n 0, 1) := dbm_134.1.2.2.2
theorem dX6_walkerIn_86 : decode cX6_walkerIn 86 = .ok (.invokevirtual 202, 3) := dbm_134.2.1.1.1
theorem dX6_walkerIn_89 : decode cX6_walkerIn 89 = .ok (.iload 5, 2) := dbm_134.2.1.1.2
theorem dX6_walkerIn_91 : decode cX6_walkerIn 91 = .ok (.ireturn, 1) := dbm_134.2.1.2.1
theorem dX6_prices_0 : decode cX6_prices 0 = .ok (.aload_n 0, 1) := dbm_134.2.1.2.2
theorem dX6_prices_1 : decode cX6_prices 1 = .ok (.iconst 0, 1) := dbm_134.2.2.1.1
theorem dX6_prices_2 : decode cX6_prices 2 = .ok (.putfield 79, 3) := dbm_134.2.2.1.2
theorem dX6_prices_5 : decode cX6_prices 5 = .ok (.iload_n 1, 1) := dbm_134.2.2.2.1
theorem dX6_prices_6 : decode cX6_prices 6 = .ok (.iconst 0, 1) := dbm_134.2.2.2.2
theorem dbm_135 : (((((decode cX6_prices 7 = .ok (.bipush 60, 2)) ∧ (decode cX6_prices 9 = .ok (.invokestatic 240, 3))) ∧ ((decode cX6_prices 12 = .ok (.istore_n 2, 1)) ∧ (decode cX6_prices 13 = .ok (.iload_n 2, 1)))) ∧ (((decode cX6_prices 14 = .ok (.ifCond .ge 9, 3)) ∧ (decode cX6_prices 17 = .ok (.aload_n 0, 1))) ∧ ((decode cX6_prices 18 = .ok (.iload_n 2, 1)) ∧ (decode cX6_prices 19 = .ok (.invokevirtual 143, 3))))) ∧ ((((decode cX6_prices 22 = .ok (.ireturn, 1)) ∧ (decode cX6_prices 23 = .ok (.aload_n 0, 1))) ∧ ((decode cX6_prices 24 = .ok (.invokevirtual 196, 3)) ∧ (decode cX6_prices 27 = .ok (.aload_n 0, 1)))) ∧ (((decode cX6_prices 28 = .ok (.iload_n 1, 1)) ∧ (decode cX6_prices 29 = .ok (.invokevirtual 189, 3))) ∧ ((decode cX6_prices 32 = .ok (.aload_n 0, 1)) ∧ (decode cX6_prices 33 = .ok (.invokevirtual 253, 3)))))) := by decide +kernel
theorem dX6_prices_7 : decode cX6_prices 7 = .ok (.bipush 60, 2) := dbm_135.1.1.1.1
theorem dX6_prices_9 : decode cX6_prices 9 = .ok (.invokestatic 240, 3) := dbm_135.1.1.1.2
theorem dX6_prices_12 : decode cX6_prices 12 = .ok (.istore_n 2, 1) := dbm_135.1.1.2.1
theorem dX6_prices_13 : decode cX6_prices 13 = .ok (.iload_n 2, 1) := dbm_135.1.1.2.2
theorem dX6_prices_14 : decode cX6_prices 14 = .ok (.ifCond .ge 9, 3) := dbm_135.1.2.1.1
theorem dX6_prices_17 : decode cX6_prices 17 = .ok (.aload_n 0, 1) := dbm_135.1.2.1.2
theorem dX6_prices_18 : decode cX6_prices 18 = .ok (.iload_n 2, 1) := dbm_135.1.2.2.1
theorem dX6_prices_19 : decode cX6_prices 19 = .ok (.invokevirtual 143, 3) := dbm_135.1.2.2.2
theorem dX6_prices_22 : decode cX6_prices 22 = .ok (.ireturn, 1) := dbm_135.2.1.1.1
theorem dX6_prices_23 : decode cX6_prices 23 = .ok (.aload_n 0, 1) := dbm_135.2.1.1.2
theorem dX6_prices_24 : decode cX6_prices 24 = .ok (.invokevirtual 196, 3) := dbm_135.2.1.2.1
theorem dX6_prices_27 : decode cX6_prices 27 = .ok (.aload_n 0, 1) := dbm_135.2.1.2.2
theorem dX6_prices_28 : decode cX6_prices 28 = .ok (.iload_n 1, 1) := dbm_135.2.2.1.1
theorem dX6_prices_29 : decode cX6_prices 29 = .ok (.invokevirtual 189, 3) := dbm_135.2.2.1.2
theorem dX6_prices_32 : decode cX6_prices 32 = .ok (.aload_n 0, 1) := dbm_135.2.2.2.1
theorem dX6_prices_33 : decode cX6_prices 33 = .ok (.invokevirtual 253, 3) := dbm_135.2.2.2.2
theorem dbm_136 : (((((decode cX6_prices 36 = .ok (.istore_n 3, 1)) ∧ (decode cX6_prices 37 = .ok (.aload_n 0, 1))) ∧ ((decode cX6_prices 38 = .ok (.invokevirtual 202, 3)) ∧ (decode cX6_prices 41 = .ok (.iload_n 3, 1)))) ∧ (((decode cX6_prices 42 = .ok (.ireturn, 1)) ∧ (decode cX6_owed 0 = .ok (.aload_n 0, 1))) ∧ ((decode cX6_owed 1 = .ok (.iconst 0, 1)) ∧ (decode cX6_owed 2 = .ok (.putfield 79, 3))))) ∧ ((((decode cX6_owed 5 = .ok (.aload_n 0, 1)) ∧ (decode cX6_owed 6 = .ok (.iload_n 1, 1))) ∧ ((decode cX6_owed 7 = .ok (.iload_n 2, 1)) ∧ (decode cX6_owed 8 = .ok (.invokevirtual 237, 3)))) ∧ (((decode cX6_owed 11 = .ok (.ifCond .ge 9, 3)) ∧ (decode cX6_owed 14 = .ok (.aload_n 0, 1))) ∧ ((decode cX6_owed 15 = .ok (.iconst (-1), 1)) ∧ (decode cX6_owed 16 = .ok (.invokevirtual 143, 3)))))) := by decide +kernel
theorem dX6_prices_36 : decode cX6_prices 36 = .ok (.istore_n 3, 1) := dbm_136.1.1.1.1
theorem dX6_prices_37 : decode cX6_prices 37 = .ok (.aload_n 0, 1) := dbm_136.1.1.1.2
theorem dX6_prices_38 : decode cX6_prices 38 = .ok (.invokevirtual 202, 3) := dbm_136.1.1.2.1
theorem dX6_prices_41 : decode cX6_prices 41 = .ok (.iload_n 3, 1) := dbm_136.1.1.2.2
theorem dX6_prices_42 : decode cX6_prices 42 = .ok (.ireturn, 1) := dbm_136.1.2.1.1
theorem dX6_owed_0 : decode cX6_owed 0 = .ok (.aload_n 0, 1) := dbm_136.1.2.1.2
theorem dX6_owed_1 : decode cX6_owed 1 = .ok (.iconst 0, 1) := dbm_136.1.2.2.1
theorem dX6_owed_2 : decode cX6_owed 2 = .ok (.putfield 79, 3) := dbm_136.1.2.2.2
theorem dX6_owed_5 : decode cX6_owed 5 = .ok (.aload_n 0, 1) := dbm_136.2.1.1.1
theorem dX6_owed_6 : decode cX6_owed 6 = .ok (.iload_n 1, 1) := dbm_136.2.1.1.2
theorem dX6_owed_7 : decode cX6_owed 7 = .ok (.iload_n 2, 1) := dbm_136.2.1.2.1
theorem dX6_owed_8 : decode cX6_owed 8 = .ok (.invokevirtual 237, 3) := dbm_136.2.1.2.2
theorem dX6_owed_11 : decode cX6_owed 11 = .ok (.ifCond .ge 9, 3) := dbm_136.2.2.1.1
theorem dX6_owed_14 : decode cX6_owed 14 = .ok (.aload_n 0, 1) := dbm_136.2.2.1.2
theorem dX6_owed_15 : decode cX6_owed 15 = .ok (.iconst (-1), 1) := dbm_136.2.2.2.1
theorem dX6_owed_16 : decode cX6_owed 16 = .ok (.invokevirtual 143, 3) := dbm_136.2.2.2.2
theorem dbm_137 : (((((decode cX6_owed 19 = .ok (.ireturn, 1)) ∧ (decode cX6_owed 20 = .ok (.bipush (-9), 2))) ∧ ((decode cX6_owed 22 = .ok (.istore_n 3, 1)) ∧ (decode cX6_owed 23 = .ok (.aload_n 0, 1)))) ∧ (((decode cX6_owed 24 = .ok (.invokevirtual 196, 3)) ∧ (decode cX6_owed 27 = .ok (.iconst 0, 1))) ∧ ((decode cX6_owed 28 = .ok (.istore 4, 2)) ∧ (decode cX6_owed 30 = .ok (.iload 4, 2))))) ∧ ((((decode cX6_owed 32 = .ok (.bipush 60, 2)) ∧ (decode cX6_owed 34 = .ok (.if_icmp .gt 40, 3))) ∧ ((decode cX6_owed 37 = .ok (.iload_n 3, 1)) ∧ (decode cX6_owed 38 = .ok (.ifCond .ge 36, 3)))) ∧ (((decode cX6_owed 41 = .ok (.aload_n 0, 1)) ∧ (decode cX6_owed 42 = .ok (.getfield 31, 3))) ∧ ((decode cX6_owed 45 = .ok (.bipush 7, 2)) ∧ (decode cX6_owed 47 = .ok (.iload_n 1, 1)))))) := by decide +kernel
theorem dX6_owed_19 : decode cX6_owed 19 = .ok (.ireturn, 1) := dbm_137.1.1.1.1
theorem dX6_owed_20 : decode cX6_owed 20 = .ok (.bipush (-9), 2) := dbm_137.1.1.1.2
theorem dX6_owed_22 : decode cX6_owed 22 = .ok (.istore_n 3, 1) := dbm_137.1.1.2.1
theorem dX6_owed_23 : decode cX6_owed 23 = .ok (.aload_n 0, 1) := dbm_137.1.1.2.2
theorem dX6_owed_24 : decode cX6_owed 24 = .ok (.invokevirtual 196, 3) := dbm_137.1.2.1.1
theorem dX6_owed_27 : decode cX6_owed 27 = .ok (.iconst 0, 1) := dbm_137.1.2.1.2
theorem dX6_owed_28 : decode cX6_owed 28 = .ok (.istore 4, 2) := dbm_137.1.2.2.1
theorem dX6_owed_30 : decode cX6_owed 30 = .ok (.iload 4, 2) := dbm_137.1.2.2.2
theorem dX6_owed_32 : decode cX6_owed 32 = .ok (.bipush 60, 2) := dbm_137.2.1.1.1
theorem dX6_owed_34 : decode cX6_owed 34 = .ok (.if_icmp .gt 40, 3) := dbm_137.2.1.1.2
theorem dX6_owed_37 : decode cX6_owed 37 = .ok (.iload_n 3, 1) := dbm_137.2.1.2.1
theorem dX6_owed_38 : decode cX6_owed 38 = .ok (.ifCond .ge 36, 3) := dbm_137.2.1.2.2
theorem dX6_owed_41 : decode cX6_owed 41 = .ok (.aload_n 0, 1) := dbm_137.2.2.1.1
theorem dX6_owed_42 : decode cX6_owed 42 = .ok (.getfield 31, 3) := dbm_137.2.2.1.2
theorem dX6_owed_45 : decode cX6_owed 45 = .ok (.bipush 7, 2) := dbm_137.2.2.2.1
theorem dX6_owed_47 : decode cX6_owed 47 = .ok (.iload_n 1, 1) := dbm_137.2.2.2.2
theorem dbm_138 : (((((decode cX6_owed 48 = .ok (.imul, 1)) ∧ (decode cX6_owed 49 = .ok (.iload_n 2, 1))) ∧ ((decode cX6_owed 50 = .ok (.iadd, 1)) ∧ (decode cX6_owed 51 = .ok (.iaload, 1)))) ∧ (((decode cX6_owed 52 = .ok (.ifCond .le 8, 3)) ∧ (decode cX6_owed 55 = .ok (.iload 4, 2))) ∧ ((decode cX6_owed 57 = .ok (.goto 5, 3)) ∧ (decode cX6_owed 60 = .ok (.bipush (-9), 2))))) ∧ ((((decode cX6_owed 62 = .ok (.istore_n 3, 1)) ∧ (decode cX6_owed 63 = .ok (.aload_n 0, 1))) ∧ ((decode cX6_owed 64 = .ok (.iconst 0, 1)) ∧ (decode cX6_owed 65 = .ok (.invokevirtual 135, 3)))) ∧ (((decode cX6_owed 68 = .ok (.iinc 4 1, 3)) ∧ (decode cX6_owed 71 = .ok (.goto (-41), 3))) ∧ ((decode cX6_owed 74 = .ok (.aload_n 0, 1)) ∧ (decode cX6_owed 75 = .ok (.invokevirtual 202, 3)))))) := by decide +kernel
theorem dX6_owed_48 : decode cX6_owed 48 = .ok (.imul, 1) := dbm_138.1.1.1.1
theorem dX6_owed_49 : decode cX6_owed 49 = .ok (.iload_n 2, 1) := dbm_138.1.1.1.2
theorem dX6_owed_50 : decode cX6_owed 50 = .ok (.iadd, 1) := dbm_138.1.1.2.1
theorem dX6_owed_51 : decode cX6_owed 51 = .ok (.iaload, 1) := dbm_138.1.1.2.2
theorem dX6_owed_52 : decode cX6_owed 52 = .ok (.ifCond .le 8, 3) := dbm_138.1.2.1.1
theorem dX6_owed_55 : decode cX6_owed 55 = .ok (.iload 4, 2) := dbm_138.1.2.1.2
theorem dX6_owed_57 : decode cX6_owed 57 = .ok (.goto 5, 3) := dbm_138.1.2.2.1
theorem dX6_owed_60 : decode cX6_owed 60 = .ok (.bipush (-9), 2) := dbm_138.1.2.2.2
theorem dX6_owed_62 : decode cX6_owed 62 = .ok (.istore_n 3, 1) := dbm_138.2.1.1.1
theorem dX6_owed_63 : decode cX6_owed 63 = .ok (.aload_n 0, 1) := dbm_138.2.1.1.2
theorem dX6_owed_64 : decode cX6_owed 64 = .ok (.iconst 0, 1) := dbm_138.2.1.2.1
theorem dX6_owed_65 : decode cX6_owed 65 = .ok (.invokevirtual 135, 3) := dbm_138.2.1.2.2
theorem dX6_owed_68 : decode cX6_owed 68 = .ok (.iinc 4 1, 3) := dbm_138.2.2.1.1
theorem dX6_owed_71 : decode cX6_owed 71 = .ok (.goto (-41), 3) := dbm_138.2.2.1.2
theorem dX6_owed_74 : decode cX6_owed 74 = .ok (.aload_n 0, 1) := dbm_138.2.2.2.1
theorem dX6_owed_75 : decode cX6_owed 75 = .ok (.invokevirtual 202, 3) := dbm_138.2.2.2.2
theorem dbm_139 : (((((decode cX6_owed 78 = .ok (.iload_n 3, 1)) ∧ (decode cX6_owed 79 = .ok (.ireturn, 1))) ∧ ((decode cX6_home 0 = .ok (.aload_n 0, 1)) ∧ (decode cX6_home 1 = .ok (.iconst 0, 1)))) ∧ (((decode cX6_home 2 = .ok (.putfield 79, 3)) ∧ (decode cX6_home 5 = .ok (.aload_n 0, 1))) ∧ ((decode cX6_home 6 = .ok (.iload_n 1, 1)) ∧ (decode cX6_home 7 = .ok (.invokevirtual 184, 3))))) ∧ ((((decode cX6_home 10 = .ok (.ifCond .ne 9, 3)) ∧ (decode cX6_home 13 = .ok (.aload_n 0, 1))) ∧ ((decode cX6_home 14 = .ok (.iconst (-1), 1)) ∧ (decode cX6_home 15 = .ok (.invokevirtual 143, 3)))) ∧ (((decode cX6_home 18 = .ok (.ireturn, 1)) ∧ (decode cX6_home 19 = .ok (.bipush (-9), 2))) ∧ ((decode cX6_home 21 = .ok (.istore_n 2, 1)) ∧ (decode cX6_home 22 = .ok (.aload_n 0, 1)))))) := by decide +kernel
theorem dX6_owed_78 : decode cX6_owed 78 = .ok (.iload_n 3, 1) := dbm_139.1.1.1.1
theorem dX6_owed_79 : decode cX6_owed 79 = .ok (.ireturn, 1) := dbm_139.1.1.1.2
theorem dX6_home_0 : decode cX6_home 0 = .ok (.aload_n 0, 1) := dbm_139.1.1.2.1
theorem dX6_home_1 : decode cX6_home 1 = .ok (.iconst 0, 1) := dbm_139.1.1.2.2
theorem dX6_home_2 : decode cX6_home 2 = .ok (.putfield 79, 3) := dbm_139.1.2.1.1
theorem dX6_home_5 : decode cX6_home 5 = .ok (.aload_n 0, 1) := dbm_139.1.2.1.2
theorem dX6_home_6 : decode cX6_home 6 = .ok (.iload_n 1, 1) := dbm_139.1.2.2.1
theorem dX6_home_7 : decode cX6_home 7 = .ok (.invokevirtual 184, 3) := dbm_139.1.2.2.2
theorem dX6_home_10 : decode cX6_home 10 = .ok (.ifCond .ne 9, 3) := dbm_139.2.1.1.1
theorem dX6_home_13 : decode cX6_home 13 = .ok (.aload_n 0, 1) := dbm_139.2.1.1.2
theorem dX6_home_14 : decode cX6_home 14 = .ok (.iconst (-1), 1) := dbm_139.2.1.2.1
theorem dX6_home_15 : decode cX6_home 15 = .ok (.invokevirtual 143, 3) := dbm_139.2.1.2.2
theorem dX6_home_18 : decode cX6_home 18 = .ok (.ireturn, 1) := dbm_139.2.2.1.1
theorem dX6_home_19 : decode cX6_home 19 = .ok (.bipush (-9), 2) := dbm_139.2.2.1.2
theorem dX6_home_21 : decode cX6_home 21 = .ok (.istore_n 2, 1) := dbm_139.2.2.2.1
theorem dX6_home_22 : decode cX6_home 22 = .ok (.aload_n 0, 1) := dbm_139.2.2.2.2
theorem dbm_140 : (((((decode cX6_home 23 = .ok (.invokevirtual 196, 3)) ∧ (decode cX6_home 26 = .ok (.iconst 0, 1))) ∧ ((decode cX6_home 27 = .ok (.istore_n 3, 1)) ∧ (decode cX6_home 28 = .ok (.iload_n 3, 1)))) ∧ (((decode cX6_home 29 = .ok (.bipush 60, 2)) ∧ (decode cX6_home 31 = .ok (.if_icmp .gt 40, 3))) ∧ ((decode cX6_home 34 = .ok (.iload_n 2, 1)) ∧ (decode cX6_home 35 = .ok (.ifCond .ge 36, 3))))) ∧ ((((decode cX6_home 38 = .ok (.aload_n 0, 1)) ∧ (decode cX6_home 39 = .ok (.getfield 22, 3))) ∧ ((decode cX6_home 42 = .ok (.iload_n 1, 1)) ∧ (decode cX6_home 43 = .ok (.iaload, 1)))) ∧ (((decode cX6_home 44 = .ok (.aload_n 0, 1)) ∧ (decode cX6_home 45 = .ok (.getfield 25, 3))) ∧ ((decode cX6_home 48 = .ok (.iload_n 1, 1)) ∧ (decode cX6_home 49 = .ok (.iaload, 1)))))) := by decide +kernel
theorem dX6_home_23 : decode cX6_home 23 = .ok (.invokevirtual 196, 3) := dbm_140.1.1.1.1
theorem dX6_home_26 : decode cX6_home 26 = .ok (.iconst 0, 1) := dbm_140.1.1.1.2
theorem dX6_home_27 : decode cX6_home 27 = .ok (.istore_n 3, 1) := dbm_140.1.1.2.1
theorem dX6_home_28 : decode cX6_home 28 = .ok (.iload_n 3, 1) := dbm_140.1.1.2.2
theorem dX6_home_29 : decode cX6_home 29 = .ok (.bipush 60, 2) := dbm_140.1.2.1.1
theorem dX6_home_31 : decode cX6_home 31 = .ok (.if_icmp .gt 40, 3) := dbm_140.1.2.1.2
theorem dX6_home_34 : decode cX6_home 34 = .ok (.iload_n 2, 1) := dbm_140.1.2.2.1
theorem dX6_home_35 : decode cX6_home 35 = .ok (.ifCond .ge 36, 3) := dbm_140.1.2.2.2
theorem dX6_home_38 : decode cX6_home 38 = .ok (.aload_n 0, 1) := dbm_140.2.1.1.1
theorem dX6_home_39 : decode cX6_home 39 = .ok (.getfield 22, 3) := dbm_140.2.1.1.2
theorem dX6_home_42 : decode cX6_home 42 = .ok (.iload_n 1, 1) := dbm_140.2.1.2.1
theorem dX6_home_43 : decode cX6_home 43 = .ok (.iaload, 1) := dbm_140.2.1.2.2
theorem dX6_home_44 : decode cX6_home 44 = .ok (.aload_n 0, 1) := dbm_140.2.2.1.1
theorem dX6_home_45 : decode cX6_home 45 = .ok (.getfield 25, 3) := dbm_140.2.2.1.2
theorem dX6_home_48 : decode cX6_home 48 = .ok (.iload_n 1, 1) := dbm_140.2.2.2.1
theorem dX6_home_49 : decode cX6_home 49 = .ok (.iaload, 1) := dbm_140.2.2.2.2
theorem dbm_141 : (((((decode cX6_home 50 = .ok (.if_icmp .ne 7, 3)) ∧ (decode cX6_home 53 = .ok (.iload_n 3, 1))) ∧ ((decode cX6_home 54 = .ok (.goto 5, 3)) ∧ (decode cX6_home 57 = .ok (.bipush (-9), 2)))) ∧ (((decode cX6_home 59 = .ok (.istore_n 2, 1)) ∧ (decode cX6_home 60 = .ok (.aload_n 0, 1))) ∧ ((decode cX6_home 61 = .ok (.iconst 0, 1)) ∧ (decode cX6_home 62 = .ok (.invokevirtual 135, 3))))) ∧ ((((decode cX6_home 65 = .ok (.iinc 3 1, 3)) ∧ (decode cX6_home 68 = .ok (.goto (-40), 3))) ∧ ((decode cX6_home 71 = .ok (.aload_n 0, 1)) ∧ (decode cX6_home 72 = .ok (.invokevirtual 202, 3)))) ∧ (((decode cX6_home 75 = .ok (.iload_n 2, 1)) ∧ (decode cX6_home 76 = .ok (.ireturn, 1))) ∧ ((decode cX6_richest 0 = .ok (.aload_n 0, 1)) ∧ (decode cX6_richest 1 = .ok (.iconst 0, 1)))))) := by decide +kernel
theorem dX6_home_50 : decode cX6_home 50 = .ok (.if_icmp .ne 7, 3) := dbm_141.1.1.1.1
theorem dX6_home_53 : decode cX6_home 53 = .ok (.iload_n 3, 1) := dbm_141.1.1.1.2
theorem dX6_home_54 : decode cX6_home 54 = .ok (.goto 5, 3) := dbm_141.1.1.2.1
theorem dX6_home_57 : decode cX6_home 57 = .ok (.bipush (-9), 2) := dbm_141.1.1.2.2
theorem dX6_home_59 : decode cX6_home 59 = .ok (.istore_n 2, 1) := dbm_141.1.2.1.1
theorem dX6_home_60 : decode cX6_home 60 = .ok (.aload_n 0, 1) := dbm_141.1.2.1.2
theorem dX6_home_61 : decode cX6_home 61 = .ok (.iconst 0, 1) := dbm_141.1.2.2.1
theorem dX6_home_62 : decode cX6_home 62 = .ok (.invokevirtual 135, 3) := dbm_141.1.2.2.2
theorem dX6_home_65 : decode cX6_home 65 = .ok (.iinc 3 1, 3) := dbm_141.2.1.1.1
theorem dX6_home_68 : decode cX6_home 68 = .ok (.goto (-40), 3) := dbm_141.2.1.1.2
theorem dX6_home_71 : decode cX6_home 71 = .ok (.aload_n 0, 1) := dbm_141.2.1.2.1
theorem dX6_home_72 : decode cX6_home 72 = .ok (.invokevirtual 202, 3) := dbm_141.2.1.2.2
theorem dX6_home_75 : decode cX6_home 75 = .ok (.iload_n 2, 1) := dbm_141.2.2.1.1
theorem dX6_home_76 : decode cX6_home 76 = .ok (.ireturn, 1) := dbm_141.2.2.1.2
theorem dX6_richest_0 : decode cX6_richest 0 = .ok (.aload_n 0, 1) := dbm_141.2.2.2.1
theorem dX6_richest_1 : decode cX6_richest 1 = .ok (.iconst 0, 1) := dbm_141.2.2.2.2
theorem dbm_142 : (((((decode cX6_richest 2 = .ok (.putfield 79, 3)) ∧ (decode cX6_richest 5 = .ok (.iload_n 1, 1))) ∧ ((decode cX6_richest 6 = .ok (.i2l, 1)) ∧ (decode cX6_richest 7 = .ok (.lconst 0, 1)))) ∧ (((decode cX6_richest 8 = .ok (.lconst 1, 1)) ∧ (decode cX6_richest 9 = .ok (.invokestatic 85, 3))) ∧ ((decode cX6_richest 12 = .ok (.ifCond .ne 10, 3)) ∧ (decode cX6_richest 15 = .ok (.aload_n 0, 1))))) ∧ ((((decode cX6_richest 16 = .ok (.bipush (-2), 2)) ∧ (decode cX6_richest 18 = .ok (.invokevirtual 143, 3))) ∧ ((decode cX6_richest 21 = .ok (.ireturn, 1)) ∧ (decode cX6_richest 22 = .ok (.bipush (-9), 2)))) ∧ (((decode cX6_richest 24 = .ok (.istore_n 2, 1)) ∧ (decode cX6_richest 25 = .ok (.iconst 0, 1))) ∧ ((decode cX6_richest 26 = .ok (.istore_n 3, 1)) ∧ (decode cX6_richest 27 = .ok (.iconst 0, 1)))))) := by decide +kernel
theorem dX6_richest_2 : decode cX6_richest 2 = .ok (.putfield 79, 3) := dbm_142.1.1.1.1
theorem dX6_richest_5 : decode cX6_richest 5 = .ok (.iload_n 1, 1) := dbm_142.1.1.1.2
theorem dX6_richest_6 : decode cX6_richest 6 = .ok (.i2l, 1) := dbm_142.1.1.2.1
theorem dX6_richest_7 : decode cX6_richest 7 = .ok (.lconst 0, 1) := dbm_142.1.1.2.2
theorem dX6_richest_8 : decode cX6_richest 8 = .ok (.lconst 1, 1) := dbm_142.1.2.1.1
theorem dX6_richest_9 : decode cX6_richest 9 = .ok (.invokestatic 85, 3) := dbm_142.1.2.1.2
theorem dX6_richest_12 : decode cX6_richest 12 = .ok (.ifCond .ne 10, 3) := dbm_142.1.2.2.1
theorem dX6_richest_15 : decode cX6_richest 15 = .ok (.aload_n 0, 1) := dbm_142.1.2.2.2
theorem dX6_richest_16 : decode cX6_richest 16 = .ok (.bipush (-2), 2) := dbm_142.2.1.1.1
theorem dX6_richest_18 : decode cX6_richest 18 = .ok (.invokevirtual 143, 3) := dbm_142.2.1.1.2
theorem dX6_richest_21 : decode cX6_richest 21 = .ok (.ireturn, 1) := dbm_142.2.1.2.1
theorem dX6_richest_22 : decode cX6_richest 22 = .ok (.bipush (-9), 2) := dbm_142.2.1.2.2
theorem dX6_richest_24 : decode cX6_richest 24 = .ok (.istore_n 2, 1) := dbm_142.2.2.1.1
theorem dX6_richest_25 : decode cX6_richest 25 = .ok (.iconst 0, 1) := dbm_142.2.2.1.2
theorem dX6_richest_26 : decode cX6_richest 26 = .ok (.istore_n 3, 1) := dbm_142.2.2.2.1
theorem dX6_richest_27 : decode cX6_richest 27 = .ok (.iconst 0, 1) := dbm_142.2.2.2.2
theorem dbm_143 : (((((decode cX6_richest 28 = .ok (.istore 4, 2)) ∧ (decode cX6_richest 30 = .ok (.iload 4, 2))) ∧ ((decode cX6_richest 32 = .ok (.iload_n 1, 1)) ∧ (decode cX6_richest 33 = .ok (.ifCond .ne 10, 3)))) ∧ (((decode cX6_richest 36 = .ok (.aload_n 0, 1)) ∧ (decode cX6_richest 37 = .ok (.getfield 89, 3))) ∧ ((decode cX6_richest 40 = .ok (.goto 7, 3)) ∧ (decode cX6_richest 43 = .ok (.aload_n 0, 1))))) ∧ ((((decode cX6_richest 44 = .ok (.getfield 92, 3)) ∧ (decode cX6_richest 47 = .ok (.if_icmp .ge 59, 3))) ∧ ((decode cX6_richest 50 = .ok (.iload_n 1, 1)) ∧ (decode cX6_richest 51 = .ok (.ifCond .ne 15, 3)))) ∧ (((decode cX6_richest 54 = .ok (.aload_n 0, 1)) ∧ (decode cX6_richest 55 = .ok (.iload 4, 2))) ∧ ((decode cX6_richest 57 = .ok (.invokevirtual 229, 3)) ∧ (decode cX6_richest 60 = .ok (.invokestatic 119, 3)))))) := by decide +kernel
theorem dX6_richest_28 : decode cX6_richest 28 = .ok (.istore 4, 2) := dbm_143.1.1.1.1
theorem dX6_richest_30 : decode cX6_richest 30 = .ok (.iload 4, 2) := dbm_143.1.1.1.2
theorem dX6_richest_32 : decode cX6_richest 32 = .ok (.iload_n 1, 1) := dbm_143.1.1.2.1
theorem dX6_richest_33 : decode cX6_richest 33 = .ok (.ifCond .ne 10, 3) := dbm_143.1.1.2.2
theorem dX6_richest_36 : decode cX6_richest 36 = .ok (.aload_n 0, 1) := dbm_143.1.2.1.1
theorem dX6_richest_37 : decode cX6_richest 37 = .ok (.getfield 89, 3) := dbm_143.1.2.1.2
theorem dX6_richest_40 : decode cX6_richest 40 = .ok (.goto 7, 3) := dbm_143.1.2.2.1
theorem dX6_richest_43 : decode cX6_richest 43 = .ok (.aload_n 0, 1) := dbm_143.1.2.2.2
theorem dX6_richest_44 : decode cX6_richest 44 = .ok (.getfield 92, 3) := dbm_143.2.1.1.1
theorem dX6_richest_47 : decode cX6_richest 47 = .ok (.if_icmp .ge 59, 3) := dbm_143.2.1.1.2
theorem dX6_richest_50 : decode cX6_richest 50 = .ok (.iload_n 1, 1) := dbm_143.2.1.2.1
theorem dX6_richest_51 : decode cX6_richest 51 = .ok (.ifCond .ne 15, 3) := dbm_143.2.1.2.2
theorem dX6_richest_54 : decode cX6_richest 54 = .ok (.aload_n 0, 1) := dbm_143.2.2.1.1
theorem dX6_richest_55 : decode cX6_richest 55 = .ok (.iload 4, 2) := dbm_143.2.2.1.2
theorem dX6_richest_57 : decode cX6_richest 57 = .ok (.invokevirtual 229, 3) := dbm_143.2.2.2.1
theorem dX6_richest_60 : decode cX6_richest 60 = .ok (.invokestatic 119, 3) := dbm_143.2.2.2.2
theorem dbm_144 : (((((decode cX6_richest 63 = .ok (.goto 9, 3)) ∧ (decode cX6_richest 66 = .ok (.aload_n 0, 1))) ∧ ((decode cX6_richest 67 = .ok (.iload 4, 2)) ∧ (decode cX6_richest 69 = .ok (.invokevirtual 113, 3)))) ∧ (((decode cX6_richest 72 = .ok (.istore 5, 2)) ∧ (decode cX6_richest 74 = .ok (.iload 5, 2))) ∧ ((decode cX6_richest 76 = .ok (.iload_n 3, 1)) ∧ (decode cX6_richest 77 = .ok (.if_icmp .le 8, 3))))) ∧ ((((decode cX6_richest 80 = .ok (.iload 4, 2)) ∧ (decode cX6_richest 82 = .ok (.goto 4, 3))) ∧ ((decode cX6_richest 85 = .ok (.iload_n 2, 1)) ∧ (decode cX6_richest 86 = .ok (.istore_n 2, 1)))) ∧ (((decode cX6_richest 87 = .ok (.iload 5, 2)) ∧ (decode cX6_richest 89 = .ok (.iload_n 3, 1))) ∧ ((decode cX6_richest 90 = .ok (.if_icmp .le 8, 3)) ∧ (decode cX6_richest 93 = .ok (.iload 5, 2)))))) := by decide +kernel
theorem dX6_richest_63 : decode cX6_richest 63 = .ok (.goto 9, 3) := dbm_144.1.1.1.1
theorem dX6_richest_66 : decode cX6_richest 66 = .ok (.aload_n 0, 1) := dbm_144.1.1.1.2
theorem dX6_richest_67 : decode cX6_richest 67 = .ok (.iload 4, 2) := dbm_144.1.1.2.1
theorem dX6_richest_69 : decode cX6_richest 69 = .ok (.invokevirtual 113, 3) := dbm_144.1.1.2.2
theorem dX6_richest_72 : decode cX6_richest 72 = .ok (.istore 5, 2) := dbm_144.1.2.1.1
theorem dX6_richest_74 : decode cX6_richest 74 = .ok (.iload 5, 2) := dbm_144.1.2.1.2
theorem dX6_richest_76 : decode cX6_richest 76 = .ok (.iload_n 3, 1) := dbm_144.1.2.2.1
theorem dX6_richest_77 : decode cX6_richest 77 = .ok (.if_icmp .le 8, 3) := dbm_144.1.2.2.2
theorem dX6_richest_80 : decode cX6_richest 80 = .ok (.iload 4, 2) := dbm_144.2.1.1.1
theorem dX6_richest_82 : decode cX6_richest 82 = .ok (.goto 4, 3) := dbm_144.2.1.1.2
theorem dX6_richest_85 : decode cX6_richest 85 = .ok (.iload_n 2, 1) := dbm_144.2.1.2.1
theorem dX6_richest_86 : decode cX6_richest 86 = .ok (.istore_n 2, 1) := dbm_144.2.1.2.2
theorem dX6_richest_87 : decode cX6_richest 87 = .ok (.iload 5, 2) := dbm_144.2.2.1.1
theorem dX6_richest_89 : decode cX6_richest 89 = .ok (.iload_n 3, 1) := dbm_144.2.2.1.2
theorem dX6_richest_90 : decode cX6_richest 90 = .ok (.if_icmp .le 8, 3) := dbm_144.2.2.2.1
theorem dX6_richest_93 : decode cX6_richest 93 = .ok (.iload 5, 2) := dbm_144.2.2.2.2
theorem dbm_145 : (((((decode cX6_richest 95 = .ok (.goto 4, 3)) ∧ (decode cX6_richest 98 = .ok (.iload_n 3, 1))) ∧ ((decode cX6_richest 99 = .ok (.istore_n 3, 1)) ∧ (decode cX6_richest 100 = .ok (.iinc 4 1, 3)))) ∧ (((decode cX6_richest 103 = .ok (.goto (-73), 3)) ∧ (decode cX6_richest 106 = .ok (.iload_n 2, 1))) ∧ ((decode cX6_richest 107 = .ok (.ireturn, 1)) ∧ (decode cX6_beside 0 = .ok (.iload_n 1, 1))))) ∧ ((((decode cX6_beside 1 = .ok (.tableswitch 74 0 2 #[27, 42, 59], 27)) ∧ (decode cX6_beside 28 = .ok (.iload_n 0, 1))) ∧ ((decode cX6_beside 29 = .ok (.bipush 6, 2)) ∧ (decode cX6_beside 31 = .ok (.if_icmp .le 10, 3)))) ∧ (((decode cX6_beside 34 = .ok (.iload_n 0, 1)) ∧ (decode cX6_beside 35 = .ok (.bipush 7, 2))) ∧ ((decode cX6_beside 37 = .ok (.isub, 1)) ∧ (decode cX6_beside 38 = .ok (.goto 4, 3)))))) := by decide +kernel
theorem dX6_richest_95 : decode cX6_richest 95 = .ok (.goto 4, 3) := dbm_145.1.1.1.1
theorem dX6_richest_98 : decode cX6_richest 98 = .ok (.iload_n 3, 1) := dbm_145.1.1.1.2
theorem dX6_richest_99 : decode cX6_richest 99 = .ok (.istore_n 3, 1) := dbm_145.1.1.2.1
theorem dX6_richest_100 : decode cX6_richest 100 = .ok (.iinc 4 1, 3) := dbm_145.1.1.2.2
theorem dX6_richest_103 : decode cX6_richest 103 = .ok (.goto (-73), 3) := dbm_145.1.2.1.1
theorem dX6_richest_106 : decode cX6_richest 106 = .ok (.iload_n 2, 1) := dbm_145.1.2.1.2
theorem dX6_richest_107 : decode cX6_richest 107 = .ok (.ireturn, 1) := dbm_145.1.2.2.1
theorem dX6_beside_0 : decode cX6_beside 0 = .ok (.iload_n 1, 1) := dbm_145.1.2.2.2
theorem dX6_beside_1 : decode cX6_beside 1 = .ok (.tableswitch 74 0 2 #[27, 42, 59], 27) := dbm_145.2.1.1.1
theorem dX6_beside_28 : decode cX6_beside 28 = .ok (.iload_n 0, 1) := dbm_145.2.1.1.2
theorem dX6_beside_29 : decode cX6_beside 29 = .ok (.bipush 6, 2) := dbm_145.2.1.2.1
theorem dX6_beside_31 : decode cX6_beside 31 = .ok (.if_icmp .le 10, 3) := dbm_145.2.1.2.2
theorem dX6_beside_34 : decode cX6_beside 34 = .ok (.iload_n 0, 1) := dbm_145.2.2.1.1
theorem dX6_beside_35 : decode cX6_beside 35 = .ok (.bipush 7, 2) := dbm_145.2.2.1.2
theorem dX6_beside_37 : decode cX6_beside 37 = .ok (.isub, 1) := dbm_145.2.2.2.1
theorem dX6_beside_38 : decode cX6_beside 38 = .ok (.goto 4, 3) := dbm_145.2.2.2.2
theorem dbm_146 : (((((decode cX6_beside 41 = .ok (.iconst (-1), 1)) ∧ (decode cX6_beside 42 = .ok (.ireturn, 1))) ∧ ((decode cX6_beside 43 = .ok (.iload_n 0, 1)) ∧ (decode cX6_beside 44 = .ok (.bipush 7, 2)))) ∧ (((decode cX6_beside 46 = .ok (.irem, 1)) ∧ (decode cX6_beside 47 = .ok (.bipush 6, 2))) ∧ ((decode cX6_beside 49 = .ok (.if_icmp .ge 9, 3)) ∧ (decode cX6_beside 52 = .ok (.iload_n 0, 1))))) ∧ ((((decode cX6_beside 53 = .ok (.iconst 1, 1)) ∧ (decode cX6_beside 54 = .ok (.iadd, 1))) ∧ ((decode cX6_beside 55 = .ok (.goto 4, 3)) ∧ (decode cX6_beside 58 = .ok (.iconst (-1), 1)))) ∧ (((decode cX6_beside 59 = .ok (.ireturn, 1)) ∧ (decode cX6_beside 60 = .ok (.iload_n 0, 1))) ∧ ((decode cX6_beside 61 = .ok (.bipush 42, 2)) ∧ (decode cX6_beside 63 = .ok (.if_icmp .ge 10, 3)))))) := by decide +kernel
theorem dX6_beside_41 : decode cX6_beside 41 = .ok (.iconst (-1), 1) := dbm_146.1.1.1.1
theorem dX6_beside_42 : decode cX6_beside 42 = .ok (.ireturn, 1) := dbm_146.1.1.1.2
theorem dX6_beside_43 : decode cX6_beside 43 = .ok (.iload_n 0, 1) := dbm_146.1.1.2.1
theorem dX6_beside_44 : decode cX6_beside 44 = .ok (.bipush 7, 2) := dbm_146.1.1.2.2
theorem dX6_beside_46 : decode cX6_beside 46 = .ok (.irem, 1) := dbm_146.1.2.1.1
theorem dX6_beside_47 : decode cX6_beside 47 = .ok (.bipush 6, 2) := dbm_146.1.2.1.2
theorem dX6_beside_49 : decode cX6_beside 49 = .ok (.if_icmp .ge 9, 3) := dbm_146.1.2.2.1
theorem dX6_beside_52 : decode cX6_beside 52 = .ok (.iload_n 0, 1) := dbm_146.1.2.2.2
theorem dX6_beside_53 : decode cX6_beside 53 = .ok (.iconst 1, 1) := dbm_146.2.1.1.1
theorem dX6_beside_54 : decode cX6_beside 54 = .ok (.iadd, 1) := dbm_146.2.1.1.2
theorem dX6_beside_55 : decode cX6_beside 55 = .ok (.goto 4, 3) := dbm_146.2.1.2.1
theorem dX6_beside_58 : decode cX6_beside 58 = .ok (.iconst (-1), 1) := dbm_146.2.1.2.2
theorem dX6_beside_59 : decode cX6_beside 59 = .ok (.ireturn, 1) := dbm_146.2.2.1.1
theorem dX6_beside_60 : decode cX6_beside 60 = .ok (.iload_n 0, 1) := dbm_146.2.2.1.2
theorem dX6_beside_61 : decode cX6_beside 61 = .ok (.bipush 42, 2) := dbm_146.2.2.2.1
theorem dX6_beside_63 : decode cX6_beside 63 = .ok (.if_icmp .ge 10, 3) := dbm_146.2.2.2.2
theorem dbm_147 : (((((decode cX6_beside 66 = .ok (.iload_n 0, 1)) ∧ (decode cX6_beside 67 = .ok (.bipush 7, 2))) ∧ ((decode cX6_beside 69 = .ok (.iadd, 1)) ∧ (decode cX6_beside 70 = .ok (.goto 4, 3)))) ∧ (((decode cX6_beside 73 = .ok (.iconst (-1), 1)) ∧ (decode cX6_beside 74 = .ok (.ireturn, 1))) ∧ ((decode cX6_beside 75 = .ok (.iload_n 0, 1)) ∧ (decode cX6_beside 76 = .ok (.bipush 7, 2))))) ∧ ((((decode cX6_beside 78 = .ok (.irem, 1)) ∧ (decode cX6_beside 79 = .ok (.ifCond .le 9, 3))) ∧ ((decode cX6_beside 82 = .ok (.iload_n 0, 1)) ∧ (decode cX6_beside 83 = .ok (.iconst 1, 1)))) ∧ (((decode cX6_beside 84 = .ok (.isub, 1)) ∧ (decode cX6_beside 85 = .ok (.goto 4, 3))) ∧ ((decode cX6_beside 88 = .ok (.iconst (-1), 1)) ∧ (decode cX6_beside 89 = .ok (.ireturn, 1)))))) := by decide +kernel
theorem dX6_beside_66 : decode cX6_beside 66 = .ok (.iload_n 0, 1) := dbm_147.1.1.1.1
theorem dX6_beside_67 : decode cX6_beside 67 = .ok (.bipush 7, 2) := dbm_147.1.1.1.2
theorem dX6_beside_69 : decode cX6_beside 69 = .ok (.iadd, 1) := dbm_147.1.1.2.1
theorem dX6_beside_70 : decode cX6_beside 70 = .ok (.goto 4, 3) := dbm_147.1.1.2.2
theorem dX6_beside_73 : decode cX6_beside 73 = .ok (.iconst (-1), 1) := dbm_147.1.2.1.1
theorem dX6_beside_74 : decode cX6_beside 74 = .ok (.ireturn, 1) := dbm_147.1.2.1.2
theorem dX6_beside_75 : decode cX6_beside 75 = .ok (.iload_n 0, 1) := dbm_147.1.2.2.1
theorem dX6_beside_76 : decode cX6_beside 76 = .ok (.bipush 7, 2) := dbm_147.1.2.2.2
theorem dX6_beside_78 : decode cX6_beside 78 = .ok (.irem, 1) := dbm_147.2.1.1.1
theorem dX6_beside_79 : decode cX6_beside 79 = .ok (.ifCond .le 9, 3) := dbm_147.2.1.1.2
theorem dX6_beside_82 : decode cX6_beside 82 = .ok (.iload_n 0, 1) := dbm_147.2.1.2.1
theorem dX6_beside_83 : decode cX6_beside 83 = .ok (.iconst 1, 1) := dbm_147.2.1.2.2
theorem dX6_beside_84 : decode cX6_beside 84 = .ok (.isub, 1) := dbm_147.2.2.1.1
theorem dX6_beside_85 : decode cX6_beside 85 = .ok (.goto 4, 3) := dbm_147.2.2.1.2
theorem dX6_beside_88 : decode cX6_beside 88 = .ok (.iconst (-1), 1) := dbm_147.2.2.2.1
theorem dX6_beside_89 : decode cX6_beside 89 = .ok (.ireturn, 1) := dbm_147.2.2.2.2
theorem dbm_148 : (((((decode cX6_layWays 0 = .ok (.iconst 0, 1)) ∧ (decode cX6_layWays 1 = .ok (.istore_n 2, 1))) ∧ ((decode cX6_layWays 2 = .ok (.iload_n 2, 1)) ∧ (decode cX6_layWays 3 = .ok (.sipush 6272, 3)))) ∧ (((decode cX6_layWays 6 = .ok (.if_icmp .ge 16, 3)) ∧ (decode cX6_layWays 9 = .ok (.aload_n 0, 1))) ∧ ((decode cX6_layWays 10 = .ok (.getfield 61, 3)) ∧ (decode cX6_layWays 13 = .ok (.iload_n 2, 1))))) ∧ ((((decode cX6_layWays 14 = .ok (.iconst (-1), 1)) ∧ (decode cX6_layWays 15 = .ok (.iastore, 1))) ∧ ((decode cX6_layWays 16 = .ok (.iinc 2 1, 3)) ∧ (decode cX6_layWays 19 = .ok (.goto (-17), 3)))) ∧ (((decode cX6_layWays 22 = .ok (.aload_n 0, 1)) ∧ (decode cX6_layWays 23 = .ok (.iload_n 1, 1))) ∧ ((decode cX6_layWays 24 = .ok (.invokevirtual 116, 3)) ∧ (decode cX6_layWays 27 = .ok (.istore_n 2, 1)))))) := by decide +kernel
theorem dX6_layWays_0 : decode cX6_layWays 0 = .ok (.iconst 0, 1) := dbm_148.1.1.1.1
theorem dX6_layWays_1 : decode cX6_layWays 1 = .ok (.istore_n 2, 1) := dbm_148.1.1.1.2
theorem dX6_layWays_2 : decode cX6_layWays 2 = .ok (.iload_n 2, 1) := dbm_148.1.1.2.1
theorem dX6_layWays_3 : decode cX6_layWays 3 = .ok (.sipush 6272, 3) := dbm_148.1.1.2.2
theorem dX6_layWays_6 : decode cX6_layWays 6 = .ok (.if_icmp .ge 16, 3) := dbm_148.1.2.1.1
theorem dX6_layWays_9 : decode cX6_layWays 9 = .ok (.aload_n 0, 1) := dbm_148.1.2.1.2
theorem dX6_layWays_10 : decode cX6_layWays 10 = .ok (.getfield 61, 3) := dbm_148.1.2.2.1
theorem dX6_layWays_13 : decode cX6_layWays 13 = .ok (.iload_n 2, 1) := dbm_148.1.2.2.2
theorem dX6_layWays_14 : decode cX6_layWays 14 = .ok (.iconst (-1), 1) := dbm_148.2.1.1.1
theorem dX6_layWays_15 : decode cX6_layWays 15 = .ok (.iastore, 1) := dbm_148.2.1.1.2
theorem dX6_layWays_16 : decode cX6_layWays 16 = .ok (.iinc 2 1, 3) := dbm_148.2.1.2.1
theorem dX6_layWays_19 : decode cX6_layWays 19 = .ok (.goto (-17), 3) := dbm_148.2.1.2.2
theorem dX6_layWays_22 : decode cX6_layWays 22 = .ok (.aload_n 0, 1) := dbm_148.2.2.1.1
theorem dX6_layWays_23 : decode cX6_layWays 23 = .ok (.iload_n 1, 1) := dbm_148.2.2.1.2
theorem dX6_layWays_24 : decode cX6_layWays 24 = .ok (.invokevirtual 116, 3) := dbm_148.2.2.2.1
theorem dX6_layWays_27 : decode cX6_layWays 27 = .ok (.istore_n 2, 1) := dbm_148.2.2.2.2
theorem dbm_149 : (((((decode cX6_layWays 28 = .ok (.aload_n 0, 1)) ∧ (decode cX6_layWays 29 = .ok (.getfield 61, 3))) ∧ ((decode cX6_layWays 32 = .ok (.sipush 128, 3)) ∧ (decode cX6_layWays 35 = .ok (.aload_n 0, 1)))) ∧ (((decode cX6_layWays 36 = .ok (.getfield 22, 3)) ∧ (decode cX6_layWays 39 = .ok (.iload_n 1, 1))) ∧ ((decode cX6_layWays 40 = .ok (.iaload, 1)) ∧ (decode cX6_layWays 41 = .ok (.imul, 1))))) ∧ ((((decode cX6_layWays 42 = .ok (.iconst 0, 1)) ∧ (decode cX6_layWays 43 = .ok (.iastore, 1))) ∧ ((decode cX6_layWays 44 = .ok (.aload_n 0, 1)) ∧ (decode cX6_layWays 45 = .ok (.getfield 64, 3)))) ∧ (((decode cX6_layWays 48 = .ok (.iconst 0, 1)) ∧ (decode cX6_layWays 49 = .ok (.sipush 128, 3))) ∧ ((decode cX6_layWays 52 = .ok (.aload_n 0, 1)) ∧ (decode cX6_layWays 53 = .ok (.getfield 22, 3)))))) := by decide +kernel
theorem dX6_layWays_28 : decode cX6_layWays 28 = .ok (.aload_n 0, 1) := dbm_149.1.1.1.1
theorem dX6_layWays_29 : decode cX6_layWays 29 = .ok (.getfield 61, 3) := dbm_149.1.1.1.2
theorem dX6_layWays_32 : decode cX6_layWays 32 = .ok (.sipush 128, 3) := dbm_149.1.1.2.1
theorem dX6_layWays_35 : decode cX6_layWays 35 = .ok (.aload_n 0, 1) := dbm_149.1.1.2.2
theorem dX6_layWays_36 : decode cX6_layWays 36 = .ok (.getfield 22, 3) := dbm_149.1.2.1.1
theorem dX6_layWays_39 : decode cX6_layWays 39 = .ok (.iload_n 1, 1) := dbm_149.1.2.1.2
theorem dX6_layWays_40 : decode cX6_layWays 40 = .ok (.iaload, 1) := dbm_149.1.2.2.1
theorem dX6_layWays_41 : decode cX6_layWays 41 = .ok (.imul, 1) := dbm_149.1.2.2.2
theorem dX6_layWays_42 : decode cX6_layWays 42 = .ok (.iconst 0, 1) := dbm_149.2.1.1.1
theorem dX6_layWays_43 : decode cX6_layWays 43 = .ok (.iastore, 1) := dbm_149.2.1.1.2
theorem dX6_layWays_44 : decode cX6_layWays 44 = .ok (.aload_n 0, 1) := dbm_149.2.1.2.1
theorem dX6_layWays_45 : decode cX6_layWays 45 = .ok (.getfield 64, 3) := dbm_149.2.1.2.2
theorem dX6_layWays_48 : decode cX6_layWays 48 = .ok (.iconst 0, 1) := dbm_149.2.2.1.1
theorem dX6_layWays_49 : decode cX6_layWays 49 = .ok (.sipush 128, 3) := dbm_149.2.2.1.2
theorem dX6_layWays_52 : decode cX6_layWays 52 = .ok (.aload_n 0, 1) := dbm_149.2.2.2.1
theorem dX6_layWays_53 : decode cX6_layWays 53 = .ok (.getfield 22, 3) := dbm_149.2.2.2.2
theorem dbm_150 : (((((decode cX6_layWays 56 = .ok (.iload_n 1, 1)) ∧ (decode cX6_layWays 57 = .ok (.iaload, 1))) ∧ ((decode cX6_layWays 58 = .ok (.imul, 1)) ∧ (decode cX6_layWays 59 = .ok (.iastore, 1)))) ∧ (((decode cX6_layWays 60 = .ok (.aload_n 0, 1)) ∧ (decode cX6_layWays 61 = .ok (.iconst 1, 1))) ∧ ((decode cX6_layWays 62 = .ok (.putfield 256, 3)) ∧ (decode cX6_layWays 65 = .ok (.iconst 0, 1))))) ∧ ((((decode cX6_layWays 66 = .ok (.istore_n 3, 1)) ∧ (decode cX6_layWays 67 = .ok (.iload_n 3, 1))) ∧ ((decode cX6_layWays 68 = .ok (.aload_n 0, 1)) ∧ (decode cX6_layWays 69 = .ok (.getfield 256, 3)))) ∧ (((decode cX6_layWays 72 = .ok (.if_icmp .ge 151, 3)) ∧ (decode cX6_layWays 75 = .ok (.iconst 0, 1))) ∧ ((decode cX6_layWays 76 = .ok (.istore 4, 2)) ∧ (decode cX6_layWays 78 = .ok (.iload 4, 2)))))) := by decide +kernel
theorem dX6_layWays_56 : decode cX6_layWays 56 = .ok (.iload_n 1, 1) := dbm_150.1.1.1.1
theorem dX6_layWays_57 : decode cX6_layWays 57 = .ok (.iaload, 1) := dbm_150.1.1.1.2
theorem dX6_layWays_58 : decode cX6_layWays 58 = .ok (.imul, 1) := dbm_150.1.1.2.1
theorem dX6_layWays_59 : decode cX6_layWays 59 = .ok (.iastore, 1) := dbm_150.1.1.2.2
theorem dX6_layWays_60 : decode cX6_layWays 60 = .ok (.aload_n 0, 1) := dbm_150.1.2.1.1
theorem dX6_layWays_61 : decode cX6_layWays 61 = .ok (.iconst 1, 1) := dbm_150.1.2.1.2
theorem dX6_layWays_62 : decode cX6_layWays 62 = .ok (.putfield 256, 3) := dbm_150.1.2.2.1
theorem dX6_layWays_65 : decode cX6_layWays 65 = .ok (.iconst 0, 1) := dbm_150.1.2.2.2
theorem dX6_layWays_66 : decode cX6_layWays 66 = .ok (.istore_n 3, 1) := dbm_150.2.1.1.1
theorem dX6_layWays_67 : decode cX6_layWays 67 = .ok (.iload_n 3, 1) := dbm_150.2.1.1.2
theorem dX6_layWays_68 : decode cX6_layWays 68 = .ok (.aload_n 0, 1) := dbm_150.2.1.2.1
theorem dX6_layWays_69 : decode cX6_layWays 69 = .ok (.getfield 256, 3) := dbm_150.2.1.2.2
theorem dX6_layWays_72 : decode cX6_layWays 72 = .ok (.if_icmp .ge 151, 3) := dbm_150.2.2.1.1
theorem dX6_layWays_75 : decode cX6_layWays 75 = .ok (.iconst 0, 1) := dbm_150.2.2.1.2
theorem dX6_layWays_76 : decode cX6_layWays 76 = .ok (.istore 4, 2) := dbm_150.2.2.2.1
theorem dX6_layWays_78 : decode cX6_layWays 78 = .ok (.iload 4, 2) := dbm_150.2.2.2.2
theorem dbm_151 : (((((decode cX6_layWays 80 = .ok (.iconst 4, 1)) ∧ (decode cX6_layWays 81 = .ok (.if_icmp .ge 136, 3))) ∧ ((decode cX6_layWays 84 = .ok (.aload_n 0, 1)) ∧ (decode cX6_layWays 85 = .ok (.getfield 64, 3)))) ∧ (((decode cX6_layWays 88 = .ok (.iload_n 3, 1)) ∧ (decode cX6_layWays 89 = .ok (.iaload, 1))) ∧ ((decode cX6_layWays 90 = .ok (.sipush 128, 3)) ∧ (decode cX6_layWays 93 = .ok (.idiv, 1))))) ∧ ((((decode cX6_layWays 94 = .ok (.iload 4, 2)) ∧ (decode cX6_layWays 96 = .ok (.invokestatic 259, 3))) ∧ ((decode cX6_layWays 99 = .ok (.istore 5, 2)) ∧ (decode cX6_layWays 101 = .ok (.iload 5, 2)))) ∧ (((decode cX6_layWays 103 = .ok (.ifCond .ge 7, 3)) ∧ (decode cX6_layWays 106 = .ok (.iconst 0, 1))) ∧ ((decode cX6_layWays 107 = .ok (.goto 25, 3)) ∧ (decode cX6_layWays 110 = .ok (.aload_n 0, 1)))))) := by decide +kernel
theorem dX6_layWays_80 : decode cX6_layWays 80 = .ok (.iconst 4, 1) := dbm_151.1.1.1.1
theorem dX6_layWays_81 : decode cX6_layWays 81 = .ok (.if_icmp .ge 136, 3) := dbm_151.1.1.1.2
theorem dX6_layWays_84 : decode cX6_layWays 84 = .ok (.aload_n 0, 1) := dbm_151.1.1.2.1
theorem dX6_layWays_85 : decode cX6_layWays 85 = .ok (.getfield 64, 3) := dbm_151.1.1.2.2
theorem dX6_layWays_88 : decode cX6_layWays 88 = .ok (.iload_n 3, 1) := dbm_151.1.2.1.1
theorem dX6_layWays_89 : decode cX6_layWays 89 = .ok (.iaload, 1) := dbm_151.1.2.1.2
theorem dX6_layWays_90 : decode cX6_layWays 90 = .ok (.sipush 128, 3) := dbm_151.1.2.2.1
theorem dX6_layWays_93 : decode cX6_layWays 93 = .ok (.idiv, 1) := dbm_151.1.2.2.2
theorem dX6_layWays_94 : decode cX6_layWays 94 = .ok (.iload 4, 2) := dbm_151.2.1.1.1
theorem dX6_layWays_96 : decode cX6_layWays 96 = .ok (.invokestatic 259, 3) := dbm_151.2.1.1.2
theorem dX6_layWays_99 : decode cX6_layWays 99 = .ok (.istore 5, 2) := dbm_151.2.1.2.1
theorem dX6_layWays_101 : decode cX6_layWays 101 = .ok (.iload 5, 2) := dbm_151.2.1.2.2
theorem dX6_layWays_103 : decode cX6_layWays 103 = .ok (.ifCond .ge 7, 3) := dbm_151.2.2.1.1
theorem dX6_layWays_106 : decode cX6_layWays 106 = .ok (.iconst 0, 1) := dbm_151.2.2.1.2
theorem dX6_layWays_107 : decode cX6_layWays 107 = .ok (.goto 25, 3) := dbm_151.2.2.2.1
theorem dX6_layWays_110 : decode cX6_layWays 110 = .ok (.aload_n 0, 1) := dbm_151.2.2.2.2
theorem dbm_152 : (((((decode cX6_layWays 111 = .ok (.getfield 64, 3)) ∧ (decode cX6_layWays 114 = .ok (.iload_n 3, 1))) ∧ ((decode cX6_layWays 115 = .ok (.iaload, 1)) ∧ (decode cX6_layWays 116 = .ok (.sipush 128, 3)))) ∧ (((decode cX6_layWays 119 = .ok (.irem, 1)) ∧ (decode cX6_layWays 120 = .ok (.aload_n 0, 1))) ∧ ((decode cX6_layWays 121 = .ok (.iload_n 1, 1)) ∧ (decode cX6_layWays 122 = .ok (.iload 5, 2))))) ∧ ((((decode cX6_layWays 124 = .ok (.invokevirtual 128, 3)) ∧ (decode cX6_layWays 127 = .ok (.iload_n 2, 1))) ∧ ((decode cX6_layWays 128 = .ok (.iconst (-1), 1)) ∧ (decode cX6_layWays 129 = .ok (.ixor, 1)))) ∧ (((decode cX6_layWays 130 = .ok (.iand, 1)) ∧ (decode cX6_layWays 131 = .ok (.ior, 1))) ∧ ((decode cX6_layWays 132 = .ok (.istore 6, 2)) ∧ (decode cX6_layWays 134 = .ok (.iload 5, 2)))))) := by decide +kernel
theorem dX6_layWays_111 : decode cX6_layWays 111 = .ok (.getfield 64, 3) := dbm_152.1.1.1.1
theorem dX6_layWays_114 : decode cX6_layWays 114 = .ok (.iload_n 3, 1) := dbm_152.1.1.1.2
theorem dX6_layWays_115 : decode cX6_layWays 115 = .ok (.iaload, 1) := dbm_152.1.1.2.1
theorem dX6_layWays_116 : decode cX6_layWays 116 = .ok (.sipush 128, 3) := dbm_152.1.1.2.2
theorem dX6_layWays_119 : decode cX6_layWays 119 = .ok (.irem, 1) := dbm_152.1.2.1.1
theorem dX6_layWays_120 : decode cX6_layWays 120 = .ok (.aload_n 0, 1) := dbm_152.1.2.1.2
theorem dX6_layWays_121 : decode cX6_layWays 121 = .ok (.iload_n 1, 1) := dbm_152.1.2.2.1
theorem dX6_layWays_122 : decode cX6_layWays 122 = .ok (.iload 5, 2) := dbm_152.1.2.2.2
theorem dX6_layWays_124 : decode cX6_layWays 124 = .ok (.invokevirtual 128, 3) := dbm_152.2.1.1.1
theorem dX6_layWays_127 : decode cX6_layWays 127 = .ok (.iload_n 2, 1) := dbm_152.2.1.1.2
theorem dX6_layWays_128 : decode cX6_layWays 128 = .ok (.iconst (-1), 1) := dbm_152.2.1.2.1
theorem dX6_layWays_129 : decode cX6_layWays 129 = .ok (.ixor, 1) := dbm_152.2.1.2.2
theorem dX6_layWays_130 : decode cX6_layWays 130 = .ok (.iand, 1) := dbm_152.2.2.1.1
theorem dX6_layWays_131 : decode cX6_layWays 131 = .ok (.ior, 1) := dbm_152.2.2.1.2
theorem dX6_layWays_132 : decode cX6_layWays 132 = .ok (.istore 6, 2) := dbm_152.2.2.2.1
theorem dX6_layWays_134 : decode cX6_layWays 134 = .ok (.iload 5, 2) := dbm_152.2.2.2.2
theorem dbm_153 : (((((decode cX6_layWays 136 = .ok (.ifCond .lt 75, 3)) ∧ (decode cX6_layWays 139 = .ok (.aload_n 0, 1))) ∧ ((decode cX6_layWays 140 = .ok (.getfield 61, 3)) ∧ (decode cX6_layWays 143 = .ok (.sipush 128, 3)))) ∧ (((decode cX6_layWays 146 = .ok (.iload 5, 2)) ∧ (decode cX6_layWays 148 = .ok (.imul, 1))) ∧ ((decode cX6_layWays 149 = .ok (.iload 6, 2)) ∧ (decode cX6_layWays 151 = .ok (.iadd, 1))))) ∧ ((((decode cX6_layWays 152 = .ok (.iaload, 1)) ∧ (decode cX6_layWays 153 = .ok (.ifCond .ge 58, 3))) ∧ ((decode cX6_layWays 156 = .ok (.aload_n 0, 1)) ∧ (decode cX6_layWays 157 = .ok (.getfield 61, 3)))) ∧ (((decode cX6_layWays 160 = .ok (.sipush 128, 3)) ∧ (decode cX6_layWays 163 = .ok (.iload 5, 2))) ∧ ((decode cX6_layWays 165 = .ok (.imul, 1)) ∧ (decode cX6_layWays 166 = .ok (.iload 6, 2)))))) := by decide +kernel
theorem dX6_layWays_136 : decode cX6_layWays 136 = .ok (.ifCond .lt 75, 3) := dbm_153.1.1.1.1
theorem dX6_layWays_139 : decode cX6_layWays 139 = .ok (.aload_n 0, 1) := dbm_153.1.1.1.2
theorem dX6_layWays_140 : decode cX6_layWays 140 = .ok (.getfield 61, 3) := dbm_153.1.1.2.1
theorem dX6_layWays_143 : decode cX6_layWays 143 = .ok (.sipush 128, 3) := dbm_153.1.1.2.2
theorem dX6_layWays_146 : decode cX6_layWays 146 = .ok (.iload 5, 2) := dbm_153.1.2.1.1
theorem dX6_layWays_148 : decode cX6_layWays 148 = .ok (.imul, 1) := dbm_153.1.2.1.2
theorem dX6_layWays_149 : decode cX6_layWays 149 = .ok (.iload 6, 2) := dbm_153.1.2.2.1
theorem dX6_layWays_151 : decode cX6_layWays 151 = .ok (.iadd, 1) := dbm_153.1.2.2.2
theorem dX6_layWays_152 : decode cX6_layWays 152 = .ok (.iaload, 1) := dbm_153.2.1.1.1
theorem dX6_layWays_153 : decode cX6_layWays 153 = .ok (.ifCond .ge 58, 3) := dbm_153.2.1.1.2
theorem dX6_layWays_156 : decode cX6_layWays 156 = .ok (.aload_n 0, 1) := dbm_153.2.1.2.1
theorem dX6_layWays_157 : decode cX6_layWays 157 = .ok (.getfield 61, 3) := dbm_153.2.1.2.2
theorem dX6_layWays_160 : decode cX6_layWays 160 = .ok (.sipush 128, 3) := dbm_153.2.2.1.1
theorem dX6_layWays_163 : decode cX6_layWays 163 = .ok (.iload 5, 2) := dbm_153.2.2.1.2
theorem dX6_layWays_165 : decode cX6_layWays 165 = .ok (.imul, 1) := dbm_153.2.2.2.1
theorem dX6_layWays_166 : decode cX6_layWays 166 = .ok (.iload 6, 2) := dbm_153.2.2.2.2
theorem dbm_154 : (((((decode cX6_layWays 168 = .ok (.iadd, 1)) ∧ (decode cX6_layWays 169 = .ok (.aload_n 0, 1))) ∧ ((decode cX6_layWays 170 = .ok (.getfield 61, 3)) ∧ (decode cX6_layWays 173 = .ok (.aload_n 0, 1)))) ∧ (((decode cX6_layWays 174 = .ok (.getfield 64, 3)) ∧ (decode cX6_layWays 177 = .ok (.iload_n 3, 1))) ∧ ((decode cX6_layWays 178 = .ok (.iaload, 1)) ∧ (decode cX6_layWays 179 = .ok (.iaload, 1))))) ∧ ((((decode cX6_layWays 180 = .ok (.iconst 1, 1)) ∧ (decode cX6_layWays 181 = .ok (.iadd, 1))) ∧ ((decode cX6_layWays 182 = .ok (.iastore, 1)) ∧ (decode cX6_layWays 183 = .ok (.aload_n 0, 1)))) ∧ (((decode cX6_layWays 184 = .ok (.getfield 64, 3)) ∧ (decode cX6_layWays 187 = .ok (.aload_n 0, 1))) ∧ ((decode cX6_layWays 188 = .ok (.getfield 256, 3)) ∧ (decode cX6_layWays 191 = .ok (.sipush 128, 3)))))) := by decide +kernel
theorem dX6_layWays_168 : decode cX6_layWays 168 = .ok (.iadd, 1) := dbm_154.1.1.1.1
theorem dX6_layWays_169 : decode cX6_layWays 169 = .ok (.aload_n 0, 1) := dbm_154.1.1.1.2
theorem dX6_layWays_170 : decode cX6_layWays 170 = .ok (.getfield 61, 3) := dbm_154.1.1.2.1
theorem dX6_layWays_173 : decode cX6_layWays 173 = .ok (.aload_n 0, 1) := dbm_154.1.1.2.2
theorem dX6_layWays_174 : decode cX6_layWays 174 = .ok (.getfield 64, 3) := dbm_154.1.2.1.1
theorem dX6_layWays_177 : decode cX6_layWays 177 = .ok (.iload_n 3, 1) := dbm_154.1.2.1.2
theorem dX6_layWays_178 : decode cX6_layWays 178 = .ok (.iaload, 1) := dbm_154.1.2.2.1
theorem dX6_layWays_179 : decode cX6_layWays 179 = .ok (.iaload, 1) := dbm_154.1.2.2.2
theorem dX6_layWays_180 : decode cX6_layWays 180 = .ok (.iconst 1, 1) := dbm_154.2.1.1.1
theorem dX6_layWays_181 : decode cX6_layWays 181 = .ok (.iadd, 1) := dbm_154.2.1.1.2
theorem dX6_layWays_182 : decode cX6_layWays 182 = .ok (.iastore, 1) := dbm_154.2.1.2.1
theorem dX6_layWays_183 : decode cX6_layWays 183 = .ok (.aload_n 0, 1) := dbm_154.2.1.2.2
theorem dX6_layWays_184 : decode cX6_layWays 184 = .ok (.getfield 64, 3) := dbm_154.2.2.1.1
theorem dX6_layWays_187 : decode cX6_layWays 187 = .ok (.aload_n 0, 1) := dbm_154.2.2.1.2
theorem dX6_layWays_188 : decode cX6_layWays 188 = .ok (.getfield 256, 3) := dbm_154.2.2.2.1
theorem dX6_layWays_191 : decode cX6_layWays 191 = .ok (.sipush 128, 3) := dbm_154.2.2.2.2
theorem dbm_155 : (((((decode cX6_layWays 194 = .ok (.iload 5, 2)) ∧ (decode cX6_layWays 196 = .ok (.imul, 1))) ∧ ((decode cX6_layWays 197 = .ok (.iload 6, 2)) ∧ (decode cX6_layWays 199 = .ok (.iadd, 1)))) ∧ (((decode cX6_layWays 200 = .ok (.iastore, 1)) ∧ (decode cX6_layWays 201 = .ok (.aload_n 0, 1))) ∧ ((decode cX6_layWays 202 = .ok (.dup, 1)) ∧ (decode cX6_layWays 203 = .ok (.getfield 256, 3))))) ∧ ((((decode cX6_layWays 206 = .ok (.iconst 1, 1)) ∧ (decode cX6_layWays 207 = .ok (.iadd, 1))) ∧ ((decode cX6_layWays 208 = .ok (.putfield 256, 3)) ∧ (decode cX6_layWays 211 = .ok (.iinc 4 1, 3)))) ∧ (((decode cX6_layWays 214 = .ok (.goto (-136), 3)) ∧ (decode cX6_layWays 217 = .ok (.iinc 3 1, 3))) ∧ ((decode cX6_layWays 220 = .ok (.goto (-153), 3)) ∧ (decode cX6_layWays 223 = .ok (.return_, 1)))))) := by decide +kernel
theorem dX6_layWays_194 : decode cX6_layWays 194 = .ok (.iload 5, 2) := dbm_155.1.1.1.1
theorem dX6_layWays_196 : decode cX6_layWays 196 = .ok (.imul, 1) := dbm_155.1.1.1.2
theorem dX6_layWays_197 : decode cX6_layWays 197 = .ok (.iload 6, 2) := dbm_155.1.1.2.1
theorem dX6_layWays_199 : decode cX6_layWays 199 = .ok (.iadd, 1) := dbm_155.1.1.2.2
theorem dX6_layWays_200 : decode cX6_layWays 200 = .ok (.iastore, 1) := dbm_155.1.2.1.1
theorem dX6_layWays_201 : decode cX6_layWays 201 = .ok (.aload_n 0, 1) := dbm_155.1.2.1.2
theorem dX6_layWays_202 : decode cX6_layWays 202 = .ok (.dup, 1) := dbm_155.1.2.2.1
theorem dX6_layWays_203 : decode cX6_layWays 203 = .ok (.getfield 256, 3) := dbm_155.1.2.2.2
theorem dX6_layWays_206 : decode cX6_layWays 206 = .ok (.iconst 1, 1) := dbm_155.2.1.1.1
theorem dX6_layWays_207 : decode cX6_layWays 207 = .ok (.iadd, 1) := dbm_155.2.1.1.2
theorem dX6_layWays_208 : decode cX6_layWays 208 = .ok (.putfield 256, 3) := dbm_155.2.1.2.1
theorem dX6_layWays_211 : decode cX6_layWays 211 = .ok (.iinc 4 1, 3) := dbm_155.2.1.2.2
theorem dX6_layWays_214 : decode cX6_layWays 214 = .ok (.goto (-136), 3) := dbm_155.2.2.1.1
theorem dX6_layWays_217 : decode cX6_layWays 217 = .ok (.iinc 3 1, 3) := dbm_155.2.2.1.2
theorem dX6_layWays_220 : decode cX6_layWays 220 = .ok (.goto (-153), 3) := dbm_155.2.2.2.1
theorem dX6_layWays_223 : decode cX6_layWays 223 = .ok (.return_, 1) := dbm_155.2.2.2.2
theorem dbm_156 : (((((decode cX6_way 0 = .ok (.aload_n 0, 1)) ∧ (decode cX6_way 1 = .ok (.iconst 0, 1))) ∧ ((decode cX6_way 2 = .ok (.putfield 79, 3)) ∧ (decode cX6_way 5 = .ok (.aload_n 0, 1)))) ∧ (((decode cX6_way 6 = .ok (.iload_n 1, 1)) ∧ (decode cX6_way 7 = .ok (.invokevirtual 184, 3))) ∧ ((decode cX6_way 10 = .ok (.ifCond .eq 14, 3)) ∧ (decode cX6_way 13 = .ok (.iload_n 2, 1))))) ∧ ((((decode cX6_way 14 = .ok (.invokestatic 139, 3)) ∧ (decode cX6_way 17 = .ok (.ifCond .eq 7, 3))) ∧ ((decode cX6_way 20 = .ok (.iconst 0, 1)) ∧ (decode cX6_way 21 = .ok (.goto 4, 3)))) ∧ (((decode cX6_way 24 = .ok (.iconst (-1), 1)) ∧ (decode cX6_way 25 = .ok (.iload_n 3, 1))) ∧ ((decode cX6_way 26 = .ok (.iconst 1, 1)) ∧ (decode cX6_way 27 = .ok (.invokestatic 250, 3)))))) := by decide +kernel
theorem dX6_way_0 : decode cX6_way 0 = .ok (.aload_n 0, 1) := dbm_156.1.1.1.1
theorem dX6_way_1 : decode cX6_way 1 = .ok (.iconst 0, 1) := dbm_156.1.1.1.2
theorem dX6_way_2 : decode cX6_way 2 = .ok (.putfield 79, 3) := dbm_156.1.1.2.1
theorem dX6_way_5 : decode cX6_way 5 = .ok (.aload_n 0, 1) := dbm_156.1.1.2.2
theorem dX6_way_6 : decode cX6_way 6 = .ok (.iload_n 1, 1) := dbm_156.1.2.1.1
theorem dX6_way_7 : decode cX6_way 7 = .ok (.invokevirtual 184, 3) := dbm_156.1.2.1.2
theorem dX6_way_10 : decode cX6_way 10 = .ok (.ifCond .eq 14, 3) := dbm_156.1.2.2.1
theorem dX6_way_13 : decode cX6_way 13 = .ok (.iload_n 2, 1) := dbm_156.1.2.2.2
theorem dX6_way_14 : decode cX6_way 14 = .ok (.invokestatic 139, 3) := dbm_156.2.1.1.1
theorem dX6_way_17 : decode cX6_way 17 = .ok (.ifCond .eq 7, 3) := dbm_156.2.1.1.2
theorem dX6_way_20 : decode cX6_way 20 = .ok (.iconst 0, 1) := dbm_156.2.1.2.1
theorem dX6_way_21 : decode cX6_way 21 = .ok (.goto 4, 3) := dbm_156.2.1.2.2
theorem dX6_way_24 : decode cX6_way 24 = .ok (.iconst (-1), 1) := dbm_156.2.2.1.1
theorem dX6_way_25 : decode cX6_way 25 = .ok (.iload_n 3, 1) := dbm_156.2.2.1.2
theorem dX6_way_26 : decode cX6_way 26 = .ok (.iconst 1, 1) := dbm_156.2.2.2.1
theorem dX6_way_27 : decode cX6_way 27 = .ok (.invokestatic 250, 3) := dbm_156.2.2.2.2
theorem dbm_157 : (((((decode cX6_way 30 = .ok (.istore 4, 2)) ∧ (decode cX6_way 32 = .ok (.iload 4, 2))) ∧ ((decode cX6_way 34 = .ok (.ifCond .ge 10, 3)) ∧ (decode cX6_way 37 = .ok (.aload_n 0, 1)))) ∧ (((decode cX6_way 38 = .ok (.iload 4, 2)) ∧ (decode cX6_way 40 = .ok (.invokevirtual 143, 3))) ∧ ((decode cX6_way 43 = .ok (.ireturn, 1)) ∧ (decode cX6_way 44 = .ok (.aload_n 0, 1))))) ∧ ((((decode cX6_way 45 = .ok (.iload_n 1, 1)) ∧ (decode cX6_way 46 = .ok (.invokevirtual 262, 3))) ∧ ((decode cX6_way 49 = .ok (.aload_n 0, 1)) ∧ (decode cX6_way 50 = .ok (.getfield 22, 3)))) ∧ (((decode cX6_way 53 = .ok (.iload_n 1, 1)) ∧ (decode cX6_way 54 = .ok (.iaload, 1))) ∧ ((decode cX6_way 55 = .ok (.iload_n 2, 1)) ∧ (decode cX6_way 56 = .ok (.invokestatic 103, 3)))))) := by decide +kernel
theorem dX6_way_30 : decode cX6_way 30 = .ok (.istore 4, 2) := dbm_157.1.1.1.1
theorem dX6_way_32 : decode cX6_way 32 = .ok (.iload 4, 2) := dbm_157.1.1.1.2
theorem dX6_way_34 : decode cX6_way 34 = .ok (.ifCond .ge 10, 3) := dbm_157.1.1.2.1
theorem dX6_way_37 : decode cX6_way 37 = .ok (.aload_n 0, 1) := dbm_157.1.1.2.2
theorem dX6_way_38 : decode cX6_way 38 = .ok (.iload 4, 2) := dbm_157.1.2.1.1
theorem dX6_way_40 : decode cX6_way 40 = .ok (.invokevirtual 143, 3) := dbm_157.1.2.1.2
theorem dX6_way_43 : decode cX6_way 43 = .ok (.ireturn, 1) := dbm_157.1.2.2.1
theorem dX6_way_44 : decode cX6_way 44 = .ok (.aload_n 0, 1) := dbm_157.1.2.2.2
theorem dX6_way_45 : decode cX6_way 45 = .ok (.iload_n 1, 1) := dbm_157.2.1.1.1
theorem dX6_way_46 : decode cX6_way 46 = .ok (.invokevirtual 262, 3) := dbm_157.2.1.1.2
theorem dX6_way_49 : decode cX6_way 49 = .ok (.aload_n 0, 1) := dbm_157.2.1.2.1
theorem dX6_way_50 : decode cX6_way 50 = .ok (.getfield 22, 3) := dbm_157.2.1.2.2
theorem dX6_way_53 : decode cX6_way 53 = .ok (.iload_n 1, 1) := dbm_157.2.2.1.1
theorem dX6_way_54 : decode cX6_way 54 = .ok (.iaload, 1) := dbm_157.2.2.1.2
theorem dX6_way_55 : decode cX6_way 55 = .ok (.iload_n 2, 1) := dbm_157.2.2.2.1
theorem dX6_way_56 : decode cX6_way 56 = .ok (.invokestatic 103, 3) := dbm_157.2.2.2.2
theorem dbm_158 : (((((decode cX6_way 59 = .ok (.bipush 12, 2)) ∧ (decode cX6_way 61 = .ok (.iadd, 1))) ∧ ((decode cX6_way 62 = .ok (.istore 5, 2)) ∧ (decode cX6_way 64 = .ok (.bipush 8, 2)))) ∧ (((decode cX6_way 66 = .ok (.istore 6, 2)) ∧ (decode cX6_way 68 = .ok (.iconst 0, 1))) ∧ ((decode cX6_way 69 = .ok (.istore 7, 2)) ∧ (decode cX6_way 71 = .ok (.iconst 0, 1))))) ∧ ((((decode cX6_way 72 = .ok (.istore 8, 2)) ∧ (decode cX6_way 74 = .ok (.iload 8, 2))) ∧ ((decode cX6_way 76 = .ok (.sipush 128, 3)) ∧ (decode cX6_way 79 = .ok (.if_icmp .ge 72, 3)))) ∧ (((decode cX6_way 82 = .ok (.aload_n 0, 1)) ∧ (decode cX6_way 83 = .ok (.getfield 61, 3))) ∧ ((decode cX6_way 86 = .ok (.sipush 128, 3)) ∧ (decode cX6_way 89 = .ok (.iload_n 2, 1)))))) := by decide +kernel
theorem dX6_way_59 : decode cX6_way 59 = .ok (.bipush 12, 2) := dbm_158.1.1.1.1
theorem dX6_way_61 : decode cX6_way 61 = .ok (.iadd, 1) := dbm_158.1.1.1.2
theorem dX6_way_62 : decode cX6_way 62 = .ok (.istore 5, 2) := dbm_158.1.1.2.1
theorem dX6_way_64 : decode cX6_way 64 = .ok (.bipush 8, 2) := dbm_158.1.1.2.2
theorem dX6_way_66 : decode cX6_way 66 = .ok (.istore 6, 2) := dbm_158.1.2.1.1
theorem dX6_way_68 : decode cX6_way 68 = .ok (.iconst 0, 1) := dbm_158.1.2.1.2
theorem dX6_way_69 : decode cX6_way 69 = .ok (.istore 7, 2) := dbm_158.1.2.2.1
theorem dX6_way_71 : decode cX6_way 71 = .ok (.iconst 0, 1) := dbm_158.1.2.2.2
theorem dX6_way_72 : decode cX6_way 72 = .ok (.istore 8, 2) := dbm_158.2.1.1.1
theorem dX6_way_74 : decode cX6_way 74 = .ok (.iload 8, 2) := dbm_158.2.1.1.2
theorem dX6_way_76 : decode cX6_way 76 = .ok (.sipush 128, 3) := dbm_158.2.1.2.1
theorem dX6_way_79 : decode cX6_way 79 = .ok (.if_icmp .ge 72, 3) := dbm_158.2.1.2.2
theorem dX6_way_82 : decode cX6_way 82 = .ok (.aload_n 0, 1) := dbm_158.2.2.1.1
theorem dX6_way_83 : decode cX6_way 83 = .ok (.getfield 61, 3) := dbm_158.2.2.1.2
theorem dX6_way_86 : decode cX6_way 86 = .ok (.sipush 128, 3) := dbm_158.2.2.2.1
theorem dX6_way_89 : decode cX6_way 89 = .ok (.iload_n 2, 1) := dbm_158.2.2.2.2
theorem dbm_159 : (((((decode cX6_way 90 = .ok (.imul, 1)) ∧ (decode cX6_way 91 = .ok (.iload 8, 2))) ∧ ((decode cX6_way 93 = .ok (.iadd, 1)) ∧ (decode cX6_way 94 = .ok (.iaload, 1)))) ∧ (((decode cX6_way 95 = .ok (.istore 9, 2)) ∧ (decode cX6_way 97 = .ok (.iload 8, 2))) ∧ ((decode cX6_way 99 = .ok (.invokestatic 119, 3)) ∧ (decode cX6_way 102 = .ok (.istore 10, 2))))) ∧ ((((decode cX6_way 104 = .ok (.iload 9, 2)) ∧ (decode cX6_way 106 = .ok (.ifCond .lt 39, 3))) ∧ ((decode cX6_way 109 = .ok (.iload 9, 2)) ∧ (decode cX6_way 111 = .ok (.iload 5, 2)))) ∧ (((decode cX6_way 113 = .ok (.if_icmp .gt 32, 3)) ∧ (decode cX6_way 116 = .ok (.iload 10, 2))) ∧ ((decode cX6_way 118 = .ok (.iload 6, 2)) ∧ (decode cX6_way 120 = .ok (.if_icmp .lt 17, 3)))))) := by decide +kernel
theorem dX6_way_90 : decode cX6_way 90 = .ok (.imul, 1) := dbm_159.1.1.1.1
theorem dX6_way_91 : decode cX6_way 91 = .ok (.iload 8, 2) := dbm_159.1.1.1.2
theorem dX6_way_93 : decode cX6_way 93 = .ok (.iadd, 1) := dbm_159.1.1.2.1
theorem dX6_way_94 : decode cX6_way 94 = .ok (.iaload, 1) := dbm_159.1.1.2.2
theorem dX6_way_95 : decode cX6_way 95 = .ok (.istore 9, 2) := dbm_159.1.2.1.1
theorem dX6_way_97 : decode cX6_way 97 = .ok (.iload 8, 2) := dbm_159.1.2.1.2
theorem dX6_way_99 : decode cX6_way 99 = .ok (.invokestatic 119, 3) := dbm_159.1.2.2.1
theorem dX6_way_102 : decode cX6_way 102 = .ok (.istore 10, 2) := dbm_159.1.2.2.2
theorem dX6_way_104 : decode cX6_way 104 = .ok (.iload 9, 2) := dbm_159.2.1.1.1
theorem dX6_way_106 : decode cX6_way 106 = .ok (.ifCond .lt 39, 3) := dbm_159.2.1.1.2
theorem dX6_way_109 : decode cX6_way 109 = .ok (.iload 9, 2) := dbm_159.2.1.2.1
theorem dX6_way_111 : decode cX6_way 111 = .ok (.iload 5, 2) := dbm_159.2.1.2.2
theorem dX6_way_113 : decode cX6_way 113 = .ok (.if_icmp .gt 32, 3) := dbm_159.2.2.1.1
theorem dX6_way_116 : decode cX6_way 116 = .ok (.iload 10, 2) := dbm_159.2.2.1.2
theorem dX6_way_118 : decode cX6_way 118 = .ok (.iload 6, 2) := dbm_159.2.2.2.1
theorem dX6_way_120 : decode cX6_way 120 = .ok (.if_icmp .lt 17, 3) := dbm_159.2.2.2.2
theorem dbm_160 : (((((decode cX6_way 123 = .ok (.iload 10, 2)) ∧ (decode cX6_way 125 = .ok (.iload 6, 2))) ∧ ((decode cX6_way 127 = .ok (.if_icmp .ne 18, 3)) ∧ (decode cX6_way 130 = .ok (.iload 9, 2)))) ∧ (((decode cX6_way 132 = .ok (.iload 7, 2)) ∧ (decode cX6_way 134 = .ok (.if_icmp .ge 11, 3))) ∧ ((decode cX6_way 137 = .ok (.iload 10, 2)) ∧ (decode cX6_way 139 = .ok (.istore 6, 2))))) ∧ ((((decode cX6_way 141 = .ok (.iload 9, 2)) ∧ (decode cX6_way 143 = .ok (.istore 7, 2))) ∧ ((decode cX6_way 145 = .ok (.iinc 8 1, 3)) ∧ (decode cX6_way 148 = .ok (.goto (-74), 3)))) ∧ (((decode cX6_way 151 = .ok (.iload_n 3, 1)) ∧ (decode cX6_way 152 = .ok (.ifCond .ne 8, 3))) ∧ ((decode cX6_way 155 = .ok (.iload 6, 2)) ∧ (decode cX6_way 157 = .ok (.goto 5, 3)))))) := by decide +kernel
theorem dX6_way_123 : decode cX6_way 123 = .ok (.iload 10, 2) := dbm_160.1.1.1.1
theorem dX6_way_125 : decode cX6_way 125 = .ok (.iload 6, 2) := dbm_160.1.1.1.2
theorem dX6_way_127 : decode cX6_way 127 = .ok (.if_icmp .ne 18, 3) := dbm_160.1.1.2.1
theorem dX6_way_130 : decode cX6_way 130 = .ok (.iload 9, 2) := dbm_160.1.1.2.2
theorem dX6_way_132 : decode cX6_way 132 = .ok (.iload 7, 2) := dbm_160.1.2.1.1
theorem dX6_way_134 : decode cX6_way 134 = .ok (.if_icmp .ge 11, 3) := dbm_160.1.2.1.2
theorem dX6_way_137 : decode cX6_way 137 = .ok (.iload 10, 2) := dbm_160.1.2.2.1
theorem dX6_way_139 : decode cX6_way 139 = .ok (.istore 6, 2) := dbm_160.1.2.2.2
theorem dX6_way_141 : decode cX6_way 141 = .ok (.iload 9, 2) := dbm_160.2.1.1.1
theorem dX6_way_143 : decode cX6_way 143 = .ok (.istore 7, 2) := dbm_160.2.1.1.2
theorem dX6_way_145 : decode cX6_way 145 = .ok (.iinc 8 1, 3) := dbm_160.2.1.2.1
theorem dX6_way_148 : decode cX6_way 148 = .ok (.goto (-74), 3) := dbm_160.2.1.2.2
theorem dX6_way_151 : decode cX6_way 151 = .ok (.iload_n 3, 1) := dbm_160.2.2.1.1
theorem dX6_way_152 : decode cX6_way 152 = .ok (.ifCond .ne 8, 3) := dbm_160.2.2.1.2
theorem dX6_way_155 : decode cX6_way 155 = .ok (.iload 6, 2) := dbm_160.2.2.2.1
theorem dX6_way_157 : decode cX6_way 157 = .ok (.goto 5, 3) := dbm_160.2.2.2.2
theorem dbm_161 : (((((decode cX6_way 160 = .ok (.iload 7, 2)) ∧ (decode cX6_way 162 = .ok (.ireturn, 1))) ∧ ((decode cX6_layPaying 0 = .ok (.iconst 0, 1)) ∧ (decode cX6_layPaying 1 = .ok (.istore_n 1, 1)))) ∧ (((decode cX6_layPaying 2 = .ok (.iload_n 1, 1)) ∧ (decode cX6_layPaying 3 = .ok (.sipush 128, 3))) ∧ ((decode cX6_layPaying 6 = .ok (.if_icmp .ge 125, 3)) ∧ (decode cX6_layPaying 9 = .ok (.iconst 0, 1))))) ∧ ((((decode cX6_layPaying 10 = .ok (.istore_n 2, 1)) ∧ (decode cX6_layPaying 11 = .ok (.iload_n 2, 1))) ∧ ((decode cX6_layPaying 12 = .ok (.bipush 8, 2)) ∧ (decode cX6_layPaying 14 = .ok (.if_icmp .ge 111, 3)))) ∧ (((decode cX6_layPaying 17 = .ok (.iconst (-1), 1)) ∧ (decode cX6_layPaying 18 = .ok (.istore_n 3, 1))) ∧ ((decode cX6_layPaying 19 = .ok (.iconst 0, 1)) ∧ (decode cX6_layPaying 20 = .ok (.istore 4, 2)))))) := by decide +kernel
theorem dX6_way_160 : decode cX6_way 160 = .ok (.iload 7, 2) := dbm_161.1.1.1.1
theorem dX6_way_162 : decode cX6_way 162 = .ok (.ireturn, 1) := dbm_161.1.1.1.2
theorem dX6_layPaying_0 : decode cX6_layPaying 0 = .ok (.iconst 0, 1) := dbm_161.1.1.2.1
theorem dX6_layPaying_1 : decode cX6_layPaying 1 = .ok (.istore_n 1, 1) := dbm_161.1.1.2.2
theorem dX6_layPaying_2 : decode cX6_layPaying 2 = .ok (.iload_n 1, 1) := dbm_161.1.2.1.1
theorem dX6_layPaying_3 : decode cX6_layPaying 3 = .ok (.sipush 128, 3) := dbm_161.1.2.1.2
theorem dX6_layPaying_6 : decode cX6_layPaying 6 = .ok (.if_icmp .ge 125, 3) := dbm_161.1.2.2.1
theorem dX6_layPaying_9 : decode cX6_layPaying 9 = .ok (.iconst 0, 1) := dbm_161.1.2.2.2
theorem dX6_layPaying_10 : decode cX6_layPaying 10 = .ok (.istore_n 2, 1) := dbm_161.2.1.1.1
theorem dX6_layPaying_11 : decode cX6_layPaying 11 = .ok (.iload_n 2, 1) := dbm_161.2.1.1.2
theorem dX6_layPaying_12 : decode cX6_layPaying 12 = .ok (.bipush 8, 2) := dbm_161.2.1.2.1
theorem dX6_layPaying_14 : decode cX6_layPaying 14 = .ok (.if_icmp .ge 111, 3) := dbm_161.2.1.2.2
theorem dX6_layPaying_17 : decode cX6_layPaying 17 = .ok (.iconst (-1), 1) := dbm_161.2.2.1.1
theorem dX6_layPaying_18 : decode cX6_layPaying 18 = .ok (.istore_n 3, 1) := dbm_161.2.2.1.2
theorem dX6_layPaying_19 : decode cX6_layPaying 19 = .ok (.iconst 0, 1) := dbm_161.2.2.2.1
theorem dX6_layPaying_20 : decode cX6_layPaying 20 = .ok (.istore 4, 2) := dbm_161.2.2.2.2
theorem dbm_162 : (((((decode cX6_layPaying 22 = .ok (.iload 4, 2)) ∧ (decode cX6_layPaying 24 = .ok (.aload_n 0, 1))) ∧ ((decode cX6_layPaying 25 = .ok (.getfield 89, 3)) ∧ (decode cX6_layPaying 28 = .ok (.if_icmp .ge 71, 3)))) ∧ (((decode cX6_layPaying 31 = .ok (.iload_n 1, 1)) ∧ (decode cX6_layPaying 32 = .ok (.iload 4, 2))) ∧ ((decode cX6_layPaying 34 = .ok (.invokestatic 131, 3)) ∧ (decode cX6_layPaying 37 = .ok (.ifCond .eq 56, 3))))) ∧ ((((decode cX6_layPaying 40 = .ok (.aload_n 0, 1)) ∧ (decode cX6_layPaying 41 = .ok (.getfield 16, 3))) ∧ ((decode cX6_layPaying 44 = .ok (.iload_n 2, 1)) ∧ (decode cX6_layPaying 45 = .ok (.iaload, 1)))) ∧ (((decode cX6_layPaying 46 = .ok (.aload_n 0, 1)) ∧ (decode cX6_layPaying 47 = .ok (.getfield 16, 3))) ∧ ((decode cX6_layPaying 50 = .ok (.iload 4, 2)) ∧ (decode cX6_layPaying 52 = .ok (.iaload, 1)))))) := by decide +kernel
theorem dX6_layPaying_22 : decode cX6_layPaying 22 = .ok (.iload 4, 2) := dbm_162.1.1.1.1
theorem dX6_layPaying_24 : decode cX6_layPaying 24 = .ok (.aload_n 0, 1) := dbm_162.1.1.1.2
theorem dX6_layPaying_25 : decode cX6_layPaying 25 = .ok (.getfield 89, 3) := dbm_162.1.1.2.1
theorem dX6_layPaying_28 : decode cX6_layPaying 28 = .ok (.if_icmp .ge 71, 3) := dbm_162.1.1.2.2
theorem dX6_layPaying_31 : decode cX6_layPaying 31 = .ok (.iload_n 1, 1) := dbm_162.1.2.1.1
theorem dX6_layPaying_32 : decode cX6_layPaying 32 = .ok (.iload 4, 2) := dbm_162.1.2.1.2
theorem dX6_layPaying_34 : decode cX6_layPaying 34 = .ok (.invokestatic 131, 3) := dbm_162.1.2.2.1
theorem dX6_layPaying_37 : decode cX6_layPaying 37 = .ok (.ifCond .eq 56, 3) := dbm_162.1.2.2.2
theorem dX6_layPaying_40 : decode cX6_layPaying 40 = .ok (.aload_n 0, 1) := dbm_162.2.1.1.1
theorem dX6_layPaying_41 : decode cX6_layPaying 41 = .ok (.getfield 16, 3) := dbm_162.2.1.1.2
theorem dX6_layPaying_44 : decode cX6_layPaying 44 = .ok (.iload_n 2, 1) := dbm_162.2.1.2.1
theorem dX6_layPaying_45 : decode cX6_layPaying 45 = .ok (.iaload, 1) := dbm_162.2.1.2.2
theorem dX6_layPaying_46 : decode cX6_layPaying 46 = .ok (.aload_n 0, 1) := dbm_162.2.2.1.1
theorem dX6_layPaying_47 : decode cX6_layPaying 47 = .ok (.getfield 16, 3) := dbm_162.2.2.1.2
theorem dX6_layPaying_50 : decode cX6_layPaying 50 = .ok (.iload 4, 2) := dbm_162.2.2.2.1
theorem dX6_layPaying_52 : decode cX6_layPaying 52 = .ok (.iaload, 1) := dbm_162.2.2.2.2
theorem dbm_163 : (((((decode cX6_layPaying 53 = .ok (.invokestatic 103, 3)) ∧ (decode cX6_layPaying 56 = .ok (.aload_n 0, 1))) ∧ ((decode cX6_layPaying 57 = .ok (.getfield 67, 3)) ∧ (decode cX6_layPaying 60 = .ok (.bipush 8, 2)))) ∧ (((decode cX6_layPaying 62 = .ok (.iload_n 1, 1)) ∧ (decode cX6_layPaying 63 = .ok (.iconst 1, 1))) ∧ ((decode cX6_layPaying 64 = .ok (.iload 4, 2)) ∧ (decode cX6_layPaying 66 = .ok (.ishl, 1))))) ∧ ((((decode cX6_layPaying 67 = .ok (.isub, 1)) ∧ (decode cX6_layPaying 68 = .ok (.imul, 1))) ∧ ((decode cX6_layPaying 69 = .ok (.iload 4, 2)) ∧ (decode cX6_layPaying 71 = .ok (.iadd, 1)))) ∧ (((decode cX6_layPaying 72 = .ok (.iaload, 1)) ∧ (decode cX6_layPaying 73 = .ok (.iadd, 1))) ∧ ((decode cX6_layPaying 74 = .ok (.istore 5, 2)) ∧ (decode cX6_layPaying 76 = .ok (.iload_n 3, 1)))))) := by decide +kernel
theorem dX6_layPaying_53 : decode cX6_layPaying 53 = .ok (.invokestatic 103, 3) := dbm_163.1.1.1.1
theorem dX6_layPaying_56 : decode cX6_layPaying 56 = .ok (.aload_n 0, 1) := dbm_163.1.1.1.2
theorem dX6_layPaying_57 : decode cX6_layPaying 57 = .ok (.getfield 67, 3) := dbm_163.1.1.2.1
theorem dX6_layPaying_60 : decode cX6_layPaying 60 = .ok (.bipush 8, 2) := dbm_163.1.1.2.2
theorem dX6_layPaying_62 : decode cX6_layPaying 62 = .ok (.iload_n 1, 1) := dbm_163.1.2.1.1
theorem dX6_layPaying_63 : decode cX6_layPaying 63 = .ok (.iconst 1, 1) := dbm_163.1.2.1.2
theorem dX6_layPaying_64 : decode cX6_layPaying 64 = .ok (.iload 4, 2) := dbm_163.1.2.2.1
theorem dX6_layPaying_66 : decode cX6_layPaying 66 = .ok (.ishl, 1) := dbm_163.1.2.2.2
theorem dX6_layPaying_67 : decode cX6_layPaying 67 = .ok (.isub, 1) := dbm_163.2.1.1.1
theorem dX6_layPaying_68 : decode cX6_layPaying 68 = .ok (.imul, 1) := dbm_163.2.1.1.2
theorem dX6_layPaying_69 : decode cX6_layPaying 69 = .ok (.iload 4, 2) := dbm_163.2.1.2.1
theorem dX6_layPaying_71 : decode cX6_layPaying 71 = .ok (.iadd, 1) := dbm_163.2.1.2.2
theorem dX6_layPaying_72 : decode cX6_layPaying 72 = .ok (.iaload, 1) := dbm_163.2.2.1.1
theorem dX6_layPaying_73 : decode cX6_layPaying 73 = .ok (.iadd, 1) := dbm_163.2.2.1.2
theorem dX6_layPaying_74 : decode cX6_layPaying 74 = .ok (.istore 5, 2) := dbm_163.2.2.2.1
theorem dX6_layPaying_76 : decode cX6_layPaying 76 = .ok (.iload_n 3, 1) := dbm_163.2.2.2.2
theorem dbm_164 : (((((decode cX6_layPaying 77 = .ok (.ifCond .lt 9, 3)) ∧ (decode cX6_layPaying 80 = .ok (.iload 5, 2))) ∧ ((decode cX6_layPaying 82 = .ok (.iload_n 3, 1)) ∧ (decode cX6_layPaying 83 = .ok (.if_icmp .ge 8, 3)))) ∧ (((decode cX6_layPaying 86 = .ok (.iload 5, 2)) ∧ (decode cX6_layPaying 88 = .ok (.goto 4, 3))) ∧ ((decode cX6_layPaying 91 = .ok (.iload_n 3, 1)) ∧ (decode cX6_layPaying 92 = .ok (.istore_n 3, 1))))) ∧ ((((decode cX6_layPaying 93 = .ok (.iinc 4 1, 3)) ∧ (decode cX6_layPaying 96 = .ok (.goto (-74), 3))) ∧ ((decode cX6_layPaying 99 = .ok (.aload_n 0, 1)) ∧ (decode cX6_layPaying 100 = .ok (.getfield 67, 3)))) ∧ (((decode cX6_layPaying 103 = .ok (.bipush 8, 2)) ∧ (decode cX6_layPaying 105 = .ok (.iload_n 1, 1))) ∧ ((decode cX6_layPaying 106 = .ok (.imul, 1)) ∧ (decode cX6_layPaying 107 = .ok (.iload_n 2, 1)))))) := by decide +kernel
theorem dX6_layPaying_77 : decode cX6_layPaying 77 = .ok (.ifCond .lt 9, 3) := dbm_164.1.1.1.1
theorem dX6_layPaying_80 : decode cX6_layPaying 80 = .ok (.iload 5, 2) := dbm_164.1.1.1.2
theorem dX6_layPaying_82 : decode cX6_layPaying 82 = .ok (.iload_n 3, 1) := dbm_164.1.1.2.1
theorem dX6_layPaying_83 : decode cX6_layPaying 83 = .ok (.if_icmp .ge 8, 3) := dbm_164.1.1.2.2
theorem dX6_layPaying_86 : decode cX6_layPaying 86 = .ok (.iload 5, 2) := dbm_164.1.2.1.1
theorem dX6_layPaying_88 : decode cX6_layPaying 88 = .ok (.goto 4, 3) := dbm_164.1.2.1.2
theorem dX6_layPaying_91 : decode cX6_layPaying 91 = .ok (.iload_n 3, 1) := dbm_164.1.2.2.1
theorem dX6_layPaying_92 : decode cX6_layPaying 92 = .ok (.istore_n 3, 1) := dbm_164.1.2.2.2
theorem dX6_layPaying_93 : decode cX6_layPaying 93 = .ok (.iinc 4 1, 3) := dbm_164.2.1.1.1
theorem dX6_layPaying_96 : decode cX6_layPaying 96 = .ok (.goto (-74), 3) := dbm_164.2.1.1.2
theorem dX6_layPaying_99 : decode cX6_layPaying 99 = .ok (.aload_n 0, 1) := dbm_164.2.1.2.1
theorem dX6_layPaying_100 : decode cX6_layPaying 100 = .ok (.getfield 67, 3) := dbm_164.2.1.2.2
theorem dX6_layPaying_103 : decode cX6_layPaying 103 = .ok (.bipush 8, 2) := dbm_164.2.2.1.1
theorem dX6_layPaying_105 : decode cX6_layPaying 105 = .ok (.iload_n 1, 1) := dbm_164.2.2.1.2
theorem dX6_layPaying_106 : decode cX6_layPaying 106 = .ok (.imul, 1) := dbm_164.2.2.2.1
theorem dX6_layPaying_107 : decode cX6_layPaying 107 = .ok (.iload_n 2, 1) := dbm_164.2.2.2.2
theorem dbm_165 : (((((decode cX6_layPaying 108 = .ok (.iadd, 1)) ∧ (decode cX6_layPaying 109 = .ok (.iload_n 3, 1))) ∧ ((decode cX6_layPaying 110 = .ok (.ifCond .ge 7, 3)) ∧ (decode cX6_layPaying 113 = .ok (.iconst 0, 1)))) ∧ (((decode cX6_layPaying 114 = .ok (.goto 4, 3)) ∧ (decode cX6_layPaying 117 = .ok (.iload_n 3, 1))) ∧ ((decode cX6_layPaying 118 = .ok (.iastore, 1)) ∧ (decode cX6_layPaying 119 = .ok (.iinc 2 1, 3))))) ∧ ((((decode cX6_layPaying 122 = .ok (.goto (-111), 3)) ∧ (decode cX6_layPaying 125 = .ok (.iinc 1 1, 3))) ∧ ((decode cX6_layPaying 128 = .ok (.goto (-126), 3)) ∧ (decode cX6_layPaying 131 = .ok (.return_, 1)))) ∧ (((decode cX6_nextOn 0 = .ok (.iconst 0, 1)) ∧ (decode cX6_nextOn 1 = .ok (.istore_n 3, 1))) ∧ ((decode cX6_nextOn 2 = .ok (.iload_n 1, 1)) ∧ (decode cX6_nextOn 3 = .ok (.iload_n 3, 1)))))) := by decide +kernel
theorem dX6_layPaying_108 : decode cX6_layPaying 108 = .ok (.iadd, 1) := dbm_165.1.1.1.1
theorem dX6_layPaying_109 : decode cX6_layPaying 109 = .ok (.iload_n 3, 1) := dbm_165.1.1.1.2
theorem dX6_layPaying_110 : decode cX6_layPaying 110 = .ok (.ifCond .ge 7, 3) := dbm_165.1.1.2.1
theorem dX6_layPaying_113 : decode cX6_layPaying 113 = .ok (.iconst 0, 1) := dbm_165.1.1.2.2
theorem dX6_layPaying_114 : decode cX6_layPaying 114 = .ok (.goto 4, 3) := dbm_165.1.2.1.1
theorem dX6_layPaying_117 : decode cX6_layPaying 117 = .ok (.iload_n 3, 1) := dbm_165.1.2.1.2
theorem dX6_layPaying_118 : decode cX6_layPaying 118 = .ok (.iastore, 1) := dbm_165.1.2.2.1
theorem dX6_layPaying_119 : decode cX6_layPaying 119 = .ok (.iinc 2 1, 3) := dbm_165.1.2.2.2
theorem dX6_layPaying_122 : decode cX6_layPaying 122 = .ok (.goto (-111), 3) := dbm_165.2.1.1.1
theorem dX6_layPaying_125 : decode cX6_layPaying 125 = .ok (.iinc 1 1, 3) := dbm_165.2.1.1.2
theorem dX6_layPaying_128 : decode cX6_layPaying 128 = .ok (.goto (-126), 3) := dbm_165.2.1.2.1
theorem dX6_layPaying_131 : decode cX6_layPaying 131 = .ok (.return_, 1) := dbm_165.2.1.2.2
theorem dX6_nextOn_0 : decode cX6_nextOn 0 = .ok (.iconst 0, 1) := dbm_165.2.2.1.1
theorem dX6_nextOn_1 : decode cX6_nextOn 1 = .ok (.istore_n 3, 1) := dbm_165.2.2.1.2
theorem dX6_nextOn_2 : decode cX6_nextOn 2 = .ok (.iload_n 1, 1) := dbm_165.2.2.2.1
theorem dX6_nextOn_3 : decode cX6_nextOn 3 = .ok (.iload_n 3, 1) := dbm_165.2.2.2.2
theorem dbm_166 : (((((decode cX6_nextOn 4 = .ok (.invokestatic 131, 3)) ∧ (decode cX6_nextOn 7 = .ok (.ifCond .eq 48, 3))) ∧ ((decode cX6_nextOn 10 = .ok (.aload_n 0, 1)) ∧ (decode cX6_nextOn 11 = .ok (.getfield 16, 3)))) ∧ (((decode cX6_nextOn 14 = .ok (.iload_n 2, 1)) ∧ (decode cX6_nextOn 15 = .ok (.iaload, 1))) ∧ ((decode cX6_nextOn 16 = .ok (.aload_n 0, 1)) ∧ (decode cX6_nextOn 17 = .ok (.getfield 16, 3))))) ∧ ((((decode cX6_nextOn 20 = .ok (.iload_n 3, 1)) ∧ (decode cX6_nextOn 21 = .ok (.iaload, 1))) ∧ ((decode cX6_nextOn 22 = .ok (.invokestatic 103, 3)) ∧ (decode cX6_nextOn 25 = .ok (.aload_n 0, 1)))) ∧ (((decode cX6_nextOn 26 = .ok (.getfield 67, 3)) ∧ (decode cX6_nextOn 29 = .ok (.bipush 8, 2))) ∧ ((decode cX6_nextOn 31 = .ok (.iload_n 1, 1)) ∧ (decode cX6_nextOn 32 = .ok (.iconst 1, 1)))))) := by decide +kernel
theorem dX6_nextOn_4 : decode cX6_nextOn 4 = .ok (.invokestatic 131, 3) := dbm_166.1.1.1.1
theorem dX6_nextOn_7 : decode cX6_nextOn 7 = .ok (.ifCond .eq 48, 3) := dbm_166.1.1.1.2
theorem dX6_nextOn_10 : decode cX6_nextOn 10 = .ok (.aload_n 0, 1) := dbm_166.1.1.2.1
theorem dX6_nextOn_11 : decode cX6_nextOn 11 = .ok (.getfield 16, 3) := dbm_166.1.1.2.2
theorem dX6_nextOn_14 : decode cX6_nextOn 14 = .ok (.iload_n 2, 1) := dbm_166.1.2.1.1
theorem dX6_nextOn_15 : decode cX6_nextOn 15 = .ok (.iaload, 1) := dbm_166.1.2.1.2
theorem dX6_nextOn_16 : decode cX6_nextOn 16 = .ok (.aload_n 0, 1) := dbm_166.1.2.2.1
theorem dX6_nextOn_17 : decode cX6_nextOn 17 = .ok (.getfield 16, 3) := dbm_166.1.2.2.2
theorem dX6_nextOn_20 : decode cX6_nextOn 20 = .ok (.iload_n 3, 1) := dbm_166.2.1.1.1
theorem dX6_nextOn_21 : decode cX6_nextOn 21 = .ok (.iaload, 1) := dbm_166.2.1.1.2
theorem dX6_nextOn_22 : decode cX6_nextOn 22 = .ok (.invokestatic 103, 3) := dbm_166.2.1.2.1
theorem dX6_nextOn_25 : decode cX6_nextOn 25 = .ok (.aload_n 0, 1) := dbm_166.2.1.2.2
theorem dX6_nextOn_26 : decode cX6_nextOn 26 = .ok (.getfield 67, 3) := dbm_166.2.2.1.1
theorem dX6_nextOn_29 : decode cX6_nextOn 29 = .ok (.bipush 8, 2) := dbm_166.2.2.1.2
theorem dX6_nextOn_31 : decode cX6_nextOn 31 = .ok (.iload_n 1, 1) := dbm_166.2.2.2.1
theorem dX6_nextOn_32 : decode cX6_nextOn 32 = .ok (.iconst 1, 1) := dbm_166.2.2.2.2
theorem dbm_167 : (((((decode cX6_nextOn 33 = .ok (.iload_n 3, 1)) ∧ (decode cX6_nextOn 34 = .ok (.ishl, 1))) ∧ ((decode cX6_nextOn 35 = .ok (.isub, 1)) ∧ (decode cX6_nextOn 36 = .ok (.imul, 1)))) ∧ (((decode cX6_nextOn 37 = .ok (.iload_n 3, 1)) ∧ (decode cX6_nextOn 38 = .ok (.iadd, 1))) ∧ ((decode cX6_nextOn 39 = .ok (.iaload, 1)) ∧ (decode cX6_nextOn 40 = .ok (.iadd, 1))))) ∧ ((((decode cX6_nextOn 41 = .ok (.aload_n 0, 1)) ∧ (decode cX6_nextOn 42 = .ok (.getfield 67, 3))) ∧ ((decode cX6_nextOn 45 = .ok (.bipush 8, 2)) ∧ (decode cX6_nextOn 47 = .ok (.iload_n 1, 1)))) ∧ (((decode cX6_nextOn 48 = .ok (.imul, 1)) ∧ (decode cX6_nextOn 49 = .ok (.iload_n 2, 1))) ∧ ((decode cX6_nextOn 50 = .ok (.iadd, 1)) ∧ (decode cX6_nextOn 51 = .ok (.iaload, 1)))))) := by decide +kernel
theorem dX6_nextOn_33 : decode cX6_nextOn 33 = .ok (.iload_n 3, 1) := dbm_167.1.1.1.1
theorem dX6_nextOn_34 : decode cX6_nextOn 34 = .ok (.ishl, 1) := dbm_167.1.1.1.2
theorem dX6_nextOn_35 : decode cX6_nextOn 35 = .ok (.isub, 1) := dbm_167.1.1.2.1
theorem dX6_nextOn_36 : decode cX6_nextOn 36 = .ok (.imul, 1) := dbm_167.1.1.2.2
theorem dX6_nextOn_37 : decode cX6_nextOn 37 = .ok (.iload_n 3, 1) := dbm_167.1.2.1.1
theorem dX6_nextOn_38 : decode cX6_nextOn 38 = .ok (.iadd, 1) := dbm_167.1.2.1.2
theorem dX6_nextOn_39 : decode cX6_nextOn 39 = .ok (.iaload, 1) := dbm_167.1.2.2.1
theorem dX6_nextOn_40 : decode cX6_nextOn 40 = .ok (.iadd, 1) := dbm_167.1.2.2.2
theorem dX6_nextOn_41 : decode cX6_nextOn 41 = .ok (.aload_n 0, 1) := dbm_167.2.1.1.1
theorem dX6_nextOn_42 : decode cX6_nextOn 42 = .ok (.getfield 67, 3) := dbm_167.2.1.1.2
theorem dX6_nextOn_45 : decode cX6_nextOn 45 = .ok (.bipush 8, 2) := dbm_167.2.1.2.1
theorem dX6_nextOn_47 : decode cX6_nextOn 47 = .ok (.iload_n 1, 1) := dbm_167.2.1.2.2
theorem dX6_nextOn_48 : decode cX6_nextOn 48 = .ok (.imul, 1) := dbm_167.2.2.1.1
theorem dX6_nextOn_49 : decode cX6_nextOn 49 = .ok (.iload_n 2, 1) := dbm_167.2.2.1.2
theorem dX6_nextOn_50 : decode cX6_nextOn 50 = .ok (.iadd, 1) := dbm_167.2.2.2.1
theorem dX6_nextOn_51 : decode cX6_nextOn 51 = .ok (.iaload, 1) := dbm_167.2.2.2.2
theorem dbm_168 : (((((decode cX6_nextOn 52 = .ok (.if_icmp .eq 9, 3)) ∧ (decode cX6_nextOn 55 = .ok (.iinc 3 1, 3))) ∧ ((decode cX6_nextOn 58 = .ok (.goto (-56), 3)) ∧ (decode cX6_nextOn 61 = .ok (.iload_n 3, 1)))) ∧ (((decode cX6_nextOn 62 = .ok (.ireturn, 1)) ∧ (decode cX6_payAll 0 = .ok (.aload_n 0, 1))) ∧ ((decode cX6_payAll 1 = .ok (.iconst 0, 1)) ∧ (decode cX6_payAll 2 = .ok (.putfield 79, 3))))) ∧ ((((decode cX6_payAll 5 = .ok (.aload_n 0, 1)) ∧ (decode cX6_payAll 6 = .ok (.iload_n 1, 1))) ∧ ((decode cX6_payAll 7 = .ok (.invokevirtual 184, 3)) ∧ (decode cX6_payAll 10 = .ok (.ifCond .ne 7, 3)))) ∧ (((decode cX6_payAll 13 = .ok (.iconst (-1), 1)) ∧ (decode cX6_payAll 14 = .ok (.goto 14, 3))) ∧ ((decode cX6_payAll 17 = .ok (.iload_n 2, 1)) ∧ (decode cX6_payAll 18 = .ok (.iconst (-1), 1)))))) := by decide +kernel
theorem dX6_nextOn_52 : decode cX6_nextOn 52 = .ok (.if_icmp .eq 9, 3) := dbm_168.1.1.1.1
theorem dX6_nextOn_55 : decode cX6_nextOn 55 = .ok (.iinc 3 1, 3) := dbm_168.1.1.1.2
theorem dX6_nextOn_58 : decode cX6_nextOn 58 = .ok (.goto (-56), 3) := dbm_168.1.1.2.1
theorem dX6_nextOn_61 : decode cX6_nextOn 61 = .ok (.iload_n 3, 1) := dbm_168.1.1.2.2
theorem dX6_nextOn_62 : decode cX6_nextOn 62 = .ok (.ireturn, 1) := dbm_168.1.2.1.1
theorem dX6_payAll_0 : decode cX6_payAll 0 = .ok (.aload_n 0, 1) := dbm_168.1.2.1.2
theorem dX6_payAll_1 : decode cX6_payAll 1 = .ok (.iconst 0, 1) := dbm_168.1.2.2.1
theorem dX6_payAll_2 : decode cX6_payAll 2 = .ok (.putfield 79, 3) := dbm_168.1.2.2.2
theorem dX6_payAll_5 : decode cX6_payAll 5 = .ok (.aload_n 0, 1) := dbm_168.2.1.1.1
theorem dX6_payAll_6 : decode cX6_payAll 6 = .ok (.iload_n 1, 1) := dbm_168.2.1.1.2
theorem dX6_payAll_7 : decode cX6_payAll 7 = .ok (.invokevirtual 184, 3) := dbm_168.2.1.2.1
theorem dX6_payAll_10 : decode cX6_payAll 10 = .ok (.ifCond .ne 7, 3) := dbm_168.2.1.2.2
theorem dX6_payAll_13 : decode cX6_payAll 13 = .ok (.iconst (-1), 1) := dbm_168.2.2.1.1
theorem dX6_payAll_14 : decode cX6_payAll 14 = .ok (.goto 14, 3) := dbm_168.2.2.1.2
theorem dX6_payAll_17 : decode cX6_payAll 17 = .ok (.iload_n 2, 1) := dbm_168.2.2.2.1
theorem dX6_payAll_18 : decode cX6_payAll 18 = .ok (.iconst (-1), 1) := dbm_168.2.2.2.2
theorem dbm_169 : (((((decode cX6_payAll 19 = .ok (.if_icmp .ge 8, 3)) ∧ (decode cX6_payAll 22 = .ok (.bipush (-4), 2))) ∧ ((decode cX6_payAll 24 = .ok (.goto 4, 3)) ∧ (decode cX6_payAll 27 = .ok (.iconst 0, 1)))) ∧ (((decode cX6_payAll 28 = .ok (.istore_n 3, 1)) ∧ (decode cX6_payAll 29 = .ok (.iload_n 3, 1))) ∧ ((decode cX6_payAll 30 = .ok (.ifCond .ge 9, 3)) ∧ (decode cX6_payAll 33 = .ok (.aload_n 0, 1))))) ∧ ((((decode cX6_payAll 34 = .ok (.iload_n 3, 1)) ∧ (decode cX6_payAll 35 = .ok (.invokevirtual 143, 3))) ∧ ((decode cX6_payAll 38 = .ok (.ireturn, 1)) ∧ (decode cX6_payAll 39 = .ok (.aload_n 0, 1)))) ∧ (((decode cX6_payAll 40 = .ok (.getfield 16, 3)) ∧ (decode cX6_payAll 43 = .ok (.bipush 7, 2))) ∧ ((decode cX6_payAll 45 = .ok (.aload_n 0, 1)) ∧ (decode cX6_payAll 46 = .ok (.getfield 22, 3)))))) := by decide +kernel
theorem dX6_payAll_19 : decode cX6_payAll 19 = .ok (.if_icmp .ge 8, 3) := dbm_169.1.1.1.1
theorem dX6_payAll_22 : decode cX6_payAll 22 = .ok (.bipush (-4), 2) := dbm_169.1.1.1.2
theorem dX6_payAll_24 : decode cX6_payAll 24 = .ok (.goto 4, 3) := dbm_169.1.1.2.1
theorem dX6_payAll_27 : decode cX6_payAll 27 = .ok (.iconst 0, 1) := dbm_169.1.1.2.2
theorem dX6_payAll_28 : decode cX6_payAll 28 = .ok (.istore_n 3, 1) := dbm_169.1.2.1.1
theorem dX6_payAll_29 : decode cX6_payAll 29 = .ok (.iload_n 3, 1) := dbm_169.1.2.1.2
theorem dX6_payAll_30 : decode cX6_payAll 30 = .ok (.ifCond .ge 9, 3) := dbm_169.1.2.2.1
theorem dX6_payAll_33 : decode cX6_payAll 33 = .ok (.aload_n 0, 1) := dbm_169.1.2.2.2
theorem dX6_payAll_34 : decode cX6_payAll 34 = .ok (.iload_n 3, 1) := dbm_169.2.1.1.1
theorem dX6_payAll_35 : decode cX6_payAll 35 = .ok (.invokevirtual 143, 3) := dbm_169.2.1.1.2
theorem dX6_payAll_38 : decode cX6_payAll 38 = .ok (.ireturn, 1) := dbm_169.2.1.2.1
theorem dX6_payAll_39 : decode cX6_payAll 39 = .ok (.aload_n 0, 1) := dbm_169.2.1.2.2
theorem dX6_payAll_40 : decode cX6_payAll 40 = .ok (.getfield 16, 3) := dbm_169.2.2.1.1
theorem dX6_payAll_43 : decode cX6_payAll 43 = .ok (.bipush 7, 2) := dbm_169.2.2.1.2
theorem dX6_payAll_45 : decode cX6_payAll 45 = .ok (.aload_n 0, 1) := dbm_169.2.2.2.1
theorem dX6_payAll_46 : decode cX6_payAll 46 = .ok (.getfield 22, 3) := dbm_169.2.2.2.2
theorem dbm_170 : (((((decode cX6_payAll 49 = .ok (.iload_n 1, 1)) ∧ (decode cX6_payAll 50 = .ok (.iaload, 1))) ∧ ((decode cX6_payAll 51 = .ok (.iastore, 1)) ∧ (decode cX6_payAll 52 = .ok (.aload_n 0, 1)))) ∧ (((decode cX6_payAll 53 = .ok (.invokevirtual 265, 3)) ∧ (decode cX6_payAll 56 = .ok (.aload_n 0, 1))) ∧ ((decode cX6_payAll 57 = .ok (.iload_n 1, 1)) ∧ (decode cX6_payAll 58 = .ok (.invokevirtual 116, 3))))) ∧ ((((decode cX6_payAll 61 = .ok (.istore 4, 2)) ∧ (decode cX6_payAll 63 = .ok (.iload_n 2, 1))) ∧ ((decode cX6_payAll 64 = .ok (.ifCond .ge 25, 3)) ∧ (decode cX6_payAll 67 = .ok (.iconst 3, 1)))) ∧ (((decode cX6_payAll 68 = .ok (.aload_n 0, 1)) ∧ (decode cX6_payAll 69 = .ok (.getfield 67, 3))) ∧ ((decode cX6_payAll 72 = .ok (.bipush 8, 2)) ∧ (decode cX6_payAll 74 = .ok (.iload 4, 2)))))) := by decide +kernel
theorem dX6_payAll_49 : decode cX6_payAll 49 = .ok (.iload_n 1, 1) := dbm_170.1.1.1.1
theorem dX6_payAll_50 : decode cX6_payAll 50 = .ok (.iaload, 1) := dbm_170.1.1.1.2
theorem dX6_payAll_51 : decode cX6_payAll 51 = .ok (.iastore, 1) := dbm_170.1.1.2.1
theorem dX6_payAll_52 : decode cX6_payAll 52 = .ok (.aload_n 0, 1) := dbm_170.1.1.2.2
theorem dX6_payAll_53 : decode cX6_payAll 53 = .ok (.invokevirtual 265, 3) := dbm_170.1.2.1.1
theorem dX6_payAll_56 : decode cX6_payAll 56 = .ok (.aload_n 0, 1) := dbm_170.1.2.1.2
theorem dX6_payAll_57 : decode cX6_payAll 57 = .ok (.iload_n 1, 1) := dbm_170.1.2.2.1
theorem dX6_payAll_58 : decode cX6_payAll 58 = .ok (.invokevirtual 116, 3) := dbm_170.1.2.2.2
theorem dX6_payAll_61 : decode cX6_payAll 61 = .ok (.istore 4, 2) := dbm_170.2.1.1.1
theorem dX6_payAll_63 : decode cX6_payAll 63 = .ok (.iload_n 2, 1) := dbm_170.2.1.1.2
theorem dX6_payAll_64 : decode cX6_payAll 64 = .ok (.ifCond .ge 25, 3) := dbm_170.2.1.2.1
theorem dX6_payAll_67 : decode cX6_payAll 67 = .ok (.iconst 3, 1) := dbm_170.2.1.2.2
theorem dX6_payAll_68 : decode cX6_payAll 68 = .ok (.aload_n 0, 1) := dbm_170.2.2.1.1
theorem dX6_payAll_69 : decode cX6_payAll 69 = .ok (.getfield 67, 3) := dbm_170.2.2.1.2
theorem dX6_payAll_72 : decode cX6_payAll 72 = .ok (.bipush 8, 2) := dbm_170.2.2.2.1
theorem dX6_payAll_74 : decode cX6_payAll 74 = .ok (.iload 4, 2) := dbm_170.2.2.2.2
theorem dbm_171 : (((((decode cX6_payAll 76 = .ok (.imul, 1)) ∧ (decode cX6_payAll 77 = .ok (.bipush 7, 2))) ∧ ((decode cX6_payAll 79 = .ok (.iadd, 1)) ∧ (decode cX6_payAll 80 = .ok (.iaload, 1)))) ∧ (((decode cX6_payAll 81 = .ok (.imul, 1)) ∧ (decode cX6_payAll 82 = .ok (.aload_n 0, 1))) ∧ ((decode cX6_payAll 83 = .ok (.iload_n 1, 1)) ∧ (decode cX6_payAll 84 = .ok (.invokevirtual 113, 3))))) ∧ ((((decode cX6_payAll 87 = .ok (.iadd, 1)) ∧ (decode cX6_payAll 88 = .ok (.ireturn, 1))) ∧ ((decode cX6_payAll 89 = .ok (.iload_n 2, 1)) ∧ (decode cX6_payAll 90 = .ok (.iload 4, 2)))) ∧ (((decode cX6_payAll 92 = .ok (.invokestatic 119, 3)) ∧ (decode cX6_payAll 95 = .ok (.if_icmp .lt 6, 3))) ∧ ((decode cX6_payAll 98 = .ok (.bipush (-9), 2)) ∧ (decode cX6_payAll 100 = .ok (.ireturn, 1)))))) := by decide +kernel
theorem dX6_payAll_76 : decode cX6_payAll 76 = .ok (.imul, 1) := dbm_171.1.1.1.1
theorem dX6_payAll_77 : decode cX6_payAll 77 = .ok (.bipush 7, 2) := dbm_171.1.1.1.2
theorem dX6_payAll_79 : decode cX6_payAll 79 = .ok (.iadd, 1) := dbm_171.1.1.2.1
theorem dX6_payAll_80 : decode cX6_payAll 80 = .ok (.iaload, 1) := dbm_171.1.1.2.2
theorem dX6_payAll_81 : decode cX6_payAll 81 = .ok (.imul, 1) := dbm_171.1.2.1.1
theorem dX6_payAll_82 : decode cX6_payAll 82 = .ok (.aload_n 0, 1) := dbm_171.1.2.1.2
theorem dX6_payAll_83 : decode cX6_payAll 83 = .ok (.iload_n 1, 1) := dbm_171.1.2.2.1
theorem dX6_payAll_84 : decode cX6_payAll 84 = .ok (.invokevirtual 113, 3) := dbm_171.1.2.2.2
theorem dX6_payAll_87 : decode cX6_payAll 87 = .ok (.iadd, 1) := dbm_171.2.1.1.1
theorem dX6_payAll_88 : decode cX6_payAll 88 = .ok (.ireturn, 1) := dbm_171.2.1.1.2
theorem dX6_payAll_89 : decode cX6_payAll 89 = .ok (.iload_n 2, 1) := dbm_171.2.1.2.1
theorem dX6_payAll_90 : decode cX6_payAll 90 = .ok (.iload 4, 2) := dbm_171.2.1.2.2
theorem dX6_payAll_92 : decode cX6_payAll 92 = .ok (.invokestatic 119, 3) := dbm_171.2.2.1.1
theorem dX6_payAll_95 : decode cX6_payAll 95 = .ok (.if_icmp .lt 6, 3) := dbm_171.2.2.1.2
theorem dX6_payAll_98 : decode cX6_payAll 98 = .ok (.bipush (-9), 2) := dbm_171.2.2.2.1
theorem dX6_payAll_100 : decode cX6_payAll 100 = .ok (.ireturn, 1) := dbm_171.2.2.2.2
theorem dbm_172 : (((((decode cX6_payAll 101 = .ok (.bipush 7, 2)) ∧ (decode cX6_payAll 103 = .ok (.istore 5, 2))) ∧ ((decode cX6_payAll 105 = .ok (.iconst 0, 1)) ∧ (decode cX6_payAll 106 = .ok (.istore 6, 2)))) ∧ (((decode cX6_payAll 108 = .ok (.iload 6, 2)) ∧ (decode cX6_payAll 110 = .ok (.iload_n 2, 1))) ∧ ((decode cX6_payAll 111 = .ok (.if_icmp .gt 28, 3)) ∧ (decode cX6_payAll 114 = .ok (.aload_n 0, 1))))) ∧ ((((decode cX6_payAll 115 = .ok (.iload 4, 2)) ∧ (decode cX6_payAll 117 = .ok (.iload 5, 2))) ∧ ((decode cX6_payAll 119 = .ok (.invokevirtual 268, 3)) ∧ (decode cX6_payAll 122 = .ok (.istore 5, 2)))) ∧ (((decode cX6_payAll 124 = .ok (.iload 4, 2)) ∧ (decode cX6_payAll 126 = .ok (.iconst 1, 1))) ∧ ((decode cX6_payAll 127 = .ok (.iload 5, 2)) ∧ (decode cX6_payAll 129 = .ok (.ishl, 1)))))) := by decide +kernel
theorem dX6_payAll_101 : decode cX6_payAll 101 = .ok (.bipush 7, 2) := dbm_172.1.1.1.1
theorem dX6_payAll_103 : decode cX6_payAll 103 = .ok (.istore 5, 2) := dbm_172.1.1.1.2
theorem dX6_payAll_105 : decode cX6_payAll 105 = .ok (.iconst 0, 1) := dbm_172.1.1.2.1
theorem dX6_payAll_106 : decode cX6_payAll 106 = .ok (.istore 6, 2) := dbm_172.1.1.2.2
theorem dX6_payAll_108 : decode cX6_payAll 108 = .ok (.iload 6, 2) := dbm_172.1.2.1.1
theorem dX6_payAll_110 : decode cX6_payAll 110 = .ok (.iload_n 2, 1) := dbm_172.1.2.1.2
theorem dX6_payAll_111 : decode cX6_payAll 111 = .ok (.if_icmp .gt 28, 3) := dbm_172.1.2.2.1
theorem dX6_payAll_114 : decode cX6_payAll 114 = .ok (.aload_n 0, 1) := dbm_172.1.2.2.2
theorem dX6_payAll_115 : decode cX6_payAll 115 = .ok (.iload 4, 2) := dbm_172.2.1.1.1
theorem dX6_payAll_117 : decode cX6_payAll 117 = .ok (.iload 5, 2) := dbm_172.2.1.1.2
theorem dX6_payAll_119 : decode cX6_payAll 119 = .ok (.invokevirtual 268, 3) := dbm_172.2.1.2.1
theorem dX6_payAll_122 : decode cX6_payAll 122 = .ok (.istore 5, 2) := dbm_172.2.1.2.2
theorem dX6_payAll_124 : decode cX6_payAll 124 = .ok (.iload 4, 2) := dbm_172.2.2.1.1
theorem dX6_payAll_126 : decode cX6_payAll 126 = .ok (.iconst 1, 1) := dbm_172.2.2.1.2
theorem dX6_payAll_127 : decode cX6_payAll 127 = .ok (.iload 5, 2) := dbm_172.2.2.2.1
theorem dX6_payAll_129 : decode cX6_payAll 129 = .ok (.ishl, 1) := dbm_172.2.2.2.2
theorem dbm_173 : (((((decode cX6_payAll 130 = .ok (.isub, 1)) ∧ (decode cX6_payAll 131 = .ok (.istore 4, 2))) ∧ ((decode cX6_payAll 133 = .ok (.iinc 6 1, 3)) ∧ (decode cX6_payAll 136 = .ok (.goto (-28), 3)))) ∧ (((decode cX6_payAll 139 = .ok (.iload 5, 2)) ∧ (decode cX6_payAll 141 = .ok (.ireturn, 1))) ∧ ((decode cX6_clear 0 = .ok (.aload_n 0, 1)) ∧ (decode cX6_clear 1 = .ok (.iconst 0, 1))))) ∧ ((((decode cX6_clear 2 = .ok (.putfield 79, 3)) ∧ (decode cX6_clear 5 = .ok (.aload_n 0, 1))) ∧ ((decode cX6_clear 6 = .ok (.iload_n 1, 1)) ∧ (decode cX6_clear 7 = .ok (.invokevirtual 181, 3)))) ∧ (((decode cX6_clear 10 = .ok (.ifCond .eq 16, 3)) ∧ (decode cX6_clear 13 = .ok (.aload_n 0, 1))) ∧ ((decode cX6_clear 14 = .ok (.iload_n 2, 1)) ∧ (decode cX6_clear 15 = .ok (.invokevirtual 181, 3)))))) := by decide +kernel
theorem dX6_payAll_130 : decode cX6_payAll 130 = .ok (.isub, 1) := dbm_173.1.1.1.1
theorem dX6_payAll_131 : decode cX6_payAll 131 = .ok (.istore 4, 2) := dbm_173.1.1.1.2
theorem dX6_payAll_133 : decode cX6_payAll 133 = .ok (.iinc 6 1, 3) := dbm_173.1.1.2.1
theorem dX6_payAll_136 : decode cX6_payAll 136 = .ok (.goto (-28), 3) := dbm_173.1.1.2.2
theorem dX6_payAll_139 : decode cX6_payAll 139 = .ok (.iload 5, 2) := dbm_173.1.2.1.1
theorem dX6_payAll_141 : decode cX6_payAll 141 = .ok (.ireturn, 1) := dbm_173.1.2.1.2
theorem dX6_clear_0 : decode cX6_clear 0 = .ok (.aload_n 0, 1) := dbm_173.1.2.2.1
theorem dX6_clear_1 : decode cX6_clear 1 = .ok (.iconst 0, 1) := dbm_173.1.2.2.2
theorem dX6_clear_2 : decode cX6_clear 2 = .ok (.putfield 79, 3) := dbm_173.2.1.1.1
theorem dX6_clear_5 : decode cX6_clear 5 = .ok (.aload_n 0, 1) := dbm_173.2.1.1.2
theorem dX6_clear_6 : decode cX6_clear 6 = .ok (.iload_n 1, 1) := dbm_173.2.1.2.1
theorem dX6_clear_7 : decode cX6_clear 7 = .ok (.invokevirtual 181, 3) := dbm_173.2.1.2.2
theorem dX6_clear_10 : decode cX6_clear 10 = .ok (.ifCond .eq 16, 3) := dbm_173.2.2.1.1
theorem dX6_clear_13 : decode cX6_clear 13 = .ok (.aload_n 0, 1) := dbm_173.2.2.1.2
theorem dX6_clear_14 : decode cX6_clear 14 = .ok (.iload_n 2, 1) := dbm_173.2.2.2.1
theorem dX6_clear_15 : decode cX6_clear 15 = .ok (.invokevirtual 181, 3) := dbm_173.2.2.2.2
theorem dbm_174 : (((((decode cX6_clear 18 = .ok (.ifCond .eq 8, 3)) ∧ (decode cX6_clear 21 = .ok (.iload_n 1, 1))) ∧ ((decode cX6_clear 22 = .ok (.iload_n 2, 1)) ∧ (decode cX6_clear 23 = .ok (.if_icmp .ne 13, 3)))) ∧ (((decode cX6_clear 26 = .ok (.ldc_w 271, 3)) ∧ (decode cX6_clear 29 = .ok (.aload_n 0, 1))) ∧ ((decode cX6_clear 30 = .ok (.iconst (-1), 1)) ∧ (decode cX6_clear 31 = .ok (.invokevirtual 143, 3))))) ∧ ((((decode cX6_clear 34 = .ok (.isub, 1)) ∧ (decode cX6_clear 35 = .ok (.ireturn, 1))) ∧ ((decode cX6_clear 36 = .ok (.aload_n 0, 1)) ∧ (decode cX6_clear 37 = .ok (.iload_n 1, 1)))) ∧ (((decode cX6_clear 38 = .ok (.invokevirtual 229, 3)) ∧ (decode cX6_clear 41 = .ok (.invokestatic 119, 3))) ∧ ((decode cX6_clear 44 = .ok (.aload_n 0, 1)) ∧ (decode cX6_clear 45 = .ok (.iload_n 2, 1)))))) := by decide +kernel
theorem dX6_clear_18 : decode cX6_clear 18 = .ok (.ifCond .eq 8, 3) := dbm_174.1.1.1.1
theorem dX6_clear_21 : decode cX6_clear 21 = .ok (.iload_n 1, 1) := dbm_174.1.1.1.2
theorem dX6_clear_22 : decode cX6_clear 22 = .ok (.iload_n 2, 1) := dbm_174.1.1.2.1
theorem dX6_clear_23 : decode cX6_clear 23 = .ok (.if_icmp .ne 13, 3) := dbm_174.1.1.2.2
theorem dX6_clear_26 : decode cX6_clear 26 = .ok (.ldc_w 271, 3) := dbm_174.1.2.1.1
theorem dX6_clear_29 : decode cX6_clear 29 = .ok (.aload_n 0, 1) := dbm_174.1.2.1.2
theorem dX6_clear_30 : decode cX6_clear 30 = .ok (.iconst (-1), 1) := dbm_174.1.2.2.1
theorem dX6_clear_31 : decode cX6_clear 31 = .ok (.invokevirtual 143, 3) := dbm_174.1.2.2.2
theorem dX6_clear_34 : decode cX6_clear 34 = .ok (.isub, 1) := dbm_174.2.1.1.1
theorem dX6_clear_35 : decode cX6_clear 35 = .ok (.ireturn, 1) := dbm_174.2.1.1.2
theorem dX6_clear_36 : decode cX6_clear 36 = .ok (.aload_n 0, 1) := dbm_174.2.1.2.1
theorem dX6_clear_37 : decode cX6_clear 37 = .ok (.iload_n 1, 1) := dbm_174.2.1.2.2
theorem dX6_clear_38 : decode cX6_clear 38 = .ok (.invokevirtual 229, 3) := dbm_174.2.2.1.1
theorem dX6_clear_41 : decode cX6_clear 41 = .ok (.invokestatic 119, 3) := dbm_174.2.2.1.2
theorem dX6_clear_44 : decode cX6_clear 44 = .ok (.aload_n 0, 1) := dbm_174.2.2.2.1
theorem dX6_clear_45 : decode cX6_clear 45 = .ok (.iload_n 2, 1) := dbm_174.2.2.2.2
theorem dbm_175 : (((((decode cX6_clear 46 = .ok (.invokevirtual 229, 3)) ∧ (decode cX6_clear 49 = .ok (.invokestatic 119, 3))) ∧ ((decode cX6_clear 52 = .ok (.isub, 1)) ∧ (decode cX6_clear 53 = .ok (.ireturn, 1)))) ∧ (((decode cX6_burn 0 = .ok (.aload_n 0, 1)) ∧ (decode cX6_burn 1 = .ok (.iconst 0, 1))) ∧ ((decode cX6_burn 2 = .ok (.putfield 79, 3)) ∧ (decode cX6_burn 5 = .ok (.iload_n 1, 1))))) ∧ ((((decode cX6_burn 6 = .ok (.iconst 1, 1)) ∧ (decode cX6_burn 7 = .ok (.bipush 30, 2))) ∧ ((decode cX6_burn 9 = .ok (.invokestatic 240, 3)) ∧ (decode cX6_burn 12 = .ok (.iload_n 2, 1)))) ∧ (((decode cX6_burn 13 = .ok (.iconst 1, 1)) ∧ (decode cX6_burn 14 = .ok (.invokestatic 250, 3))) ∧ ((decode cX6_burn 17 = .ok (.istore_n 3, 1)) ∧ (decode cX6_burn 18 = .ok (.iload_n 3, 1)))))) := by decide +kernel
theorem dX6_clear_46 : decode cX6_clear 46 = .ok (.invokevirtual 229, 3) := dbm_175.1.1.1.1
theorem dX6_clear_49 : decode cX6_clear 49 = .ok (.invokestatic 119, 3) := dbm_175.1.1.1.2
theorem dX6_clear_52 : decode cX6_clear 52 = .ok (.isub, 1) := dbm_175.1.1.2.1
theorem dX6_clear_53 : decode cX6_clear 53 = .ok (.ireturn, 1) := dbm_175.1.1.2.2
theorem dX6_burn_0 : decode cX6_burn 0 = .ok (.aload_n 0, 1) := dbm_175.1.2.1.1
theorem dX6_burn_1 : decode cX6_burn 1 = .ok (.iconst 0, 1) := dbm_175.1.2.1.2
theorem dX6_burn_2 : decode cX6_burn 2 = .ok (.putfield 79, 3) := dbm_175.1.2.2.1
theorem dX6_burn_5 : decode cX6_burn 5 = .ok (.iload_n 1, 1) := dbm_175.1.2.2.2
theorem dX6_burn_6 : decode cX6_burn 6 = .ok (.iconst 1, 1) := dbm_175.2.1.1.1
theorem dX6_burn_7 : decode cX6_burn 7 = .ok (.bipush 30, 2) := dbm_175.2.1.1.2
theorem dX6_burn_9 : decode cX6_burn 9 = .ok (.invokestatic 240, 3) := dbm_175.2.1.2.1
theorem dX6_burn_12 : decode cX6_burn 12 = .ok (.iload_n 2, 1) := dbm_175.2.1.2.2
theorem dX6_burn_13 : decode cX6_burn 13 = .ok (.iconst 1, 1) := dbm_175.2.2.1.1
theorem dX6_burn_14 : decode cX6_burn 14 = .ok (.invokestatic 250, 3) := dbm_175.2.2.1.2
theorem dX6_burn_17 : decode cX6_burn 17 = .ok (.istore_n 3, 1) := dbm_175.2.2.2.1
theorem dX6_burn_18 : decode cX6_burn 18 = .ok (.iload_n 3, 1) := dbm_175.2.2.2.2
theorem dbm_176 : (((((decode cX6_burn 19 = .ok (.ifCond .ge 9, 3)) ∧ (decode cX6_burn 22 = .ok (.aload_n 0, 1))) ∧ ((decode cX6_burn 23 = .ok (.iload_n 3, 1)) ∧ (decode cX6_burn 24 = .ok (.invokevirtual 143, 3)))) ∧ (((decode cX6_burn 27 = .ok (.ireturn, 1)) ∧ (decode cX6_burn 28 = .ok (.iconst 0, 1))) ∧ ((decode cX6_burn 29 = .ok (.istore 4, 2)) ∧ (decode cX6_burn 31 = .ok (.iload 4, 2))))) ∧ ((((decode cX6_burn 33 = .ok (.bipush 49, 2)) ∧ (decode cX6_burn 35 = .ok (.if_icmp .ge 17, 3))) ∧ ((decode cX6_burn 38 = .ok (.aload_n 0, 1)) ∧ (decode cX6_burn 39 = .ok (.getfield 70, 3)))) ∧ (((decode cX6_burn 42 = .ok (.iload 4, 2)) ∧ (decode cX6_burn 44 = .ok (.iconst 0, 1))) ∧ ((decode cX6_burn 45 = .ok (.iastore, 1)) ∧ (decode cX6_burn 46 = .ok (.iinc 4 1, 3)))))) := by decide +kernel
theorem dX6_burn_19 : decode cX6_burn 19 = .ok (.ifCond .ge 9, 3) := dbm_176.1.1.1.1
theorem dX6_burn_22 : decode cX6_burn 22 = .ok (.aload_n 0, 1) := dbm_176.1.1.1.2
theorem dX6_burn_23 : decode cX6_burn 23 = .ok (.iload_n 3, 1) := dbm_176.1.1.2.1
theorem dX6_burn_24 : decode cX6_burn 24 = .ok (.invokevirtual 143, 3) := dbm_176.1.1.2.2
theorem dX6_burn_27 : decode cX6_burn 27 = .ok (.ireturn, 1) := dbm_176.1.2.1.1
theorem dX6_burn_28 : decode cX6_burn 28 = .ok (.iconst 0, 1) := dbm_176.1.2.1.2
theorem dX6_burn_29 : decode cX6_burn 29 = .ok (.istore 4, 2) := dbm_176.1.2.2.1
theorem dX6_burn_31 : decode cX6_burn 31 = .ok (.iload 4, 2) := dbm_176.1.2.2.2
theorem dX6_burn_33 : decode cX6_burn 33 = .ok (.bipush 49, 2) := dbm_176.2.1.1.1
theorem dX6_burn_35 : decode cX6_burn 35 = .ok (.if_icmp .ge 17, 3) := dbm_176.2.1.1.2
theorem dX6_burn_38 : decode cX6_burn 38 = .ok (.aload_n 0, 1) := dbm_176.2.1.2.1
theorem dX6_burn_39 : decode cX6_burn 39 = .ok (.getfield 70, 3) := dbm_176.2.1.2.2
theorem dX6_burn_42 : decode cX6_burn 42 = .ok (.iload 4, 2) := dbm_176.2.2.1.1
theorem dX6_burn_44 : decode cX6_burn 44 = .ok (.iconst 0, 1) := dbm_176.2.2.1.2
theorem dX6_burn_45 : decode cX6_burn 45 = .ok (.iastore, 1) := dbm_176.2.2.2.1
theorem dX6_burn_46 : decode cX6_burn 46 = .ok (.iinc 4 1, 3) := dbm_176.2.2.2.2
theorem dbm_177 : (((((decode cX6_burn 49 = .ok (.goto (-18), 3)) ∧ (decode cX6_burn 52 = .ok (.aload_n 0, 1))) ∧ ((decode cX6_burn 53 = .ok (.invokevirtual 196, 3)) ∧ (decode cX6_burn 56 = .ok (.iconst 0, 1)))) ∧ (((decode cX6_burn 57 = .ok (.istore 4, 2)) ∧ (decode cX6_burn 59 = .ok (.iload 4, 2))) ∧ ((decode cX6_burn 61 = .ok (.iload_n 1, 1)) ∧ (decode cX6_burn 62 = .ok (.if_icmp .ge 98, 3))))) ∧ ((((decode cX6_burn 65 = .ok (.aload_n 0, 1)) ∧ (decode cX6_burn 66 = .ok (.iconst 0, 1))) ∧ ((decode cX6_burn 67 = .ok (.invokevirtual 135, 3)) ∧ (decode cX6_burn 70 = .ok (.iconst 0, 1)))) ∧ (((decode cX6_burn 71 = .ok (.istore 5, 2)) ∧ (decode cX6_burn 73 = .ok (.iload 5, 2))) ∧ ((decode cX6_burn 75 = .ok (.aload_n 0, 1)) ∧ (decode cX6_burn 76 = .ok (.getfield 92, 3)))))) := by decide +kernel
theorem dX6_burn_49 : decode cX6_burn 49 = .ok (.goto (-18), 3) := dbm_177.1.1.1.1
theorem dX6_burn_52 : decode cX6_burn 52 = .ok (.aload_n 0, 1) := dbm_177.1.1.1.2
theorem dX6_burn_53 : decode cX6_burn 53 = .ok (.invokevirtual 196, 3) := dbm_177.1.1.2.1
theorem dX6_burn_56 : decode cX6_burn 56 = .ok (.iconst 0, 1) := dbm_177.1.1.2.2
theorem dX6_burn_57 : decode cX6_burn 57 = .ok (.istore 4, 2) := dbm_177.1.2.1.1
theorem dX6_burn_59 : decode cX6_burn 59 = .ok (.iload 4, 2) := dbm_177.1.2.1.2
theorem dX6_burn_61 : decode cX6_burn 61 = .ok (.iload_n 1, 1) := dbm_177.1.2.2.1
theorem dX6_burn_62 : decode cX6_burn 62 = .ok (.if_icmp .ge 98, 3) := dbm_177.1.2.2.2
theorem dX6_burn_65 : decode cX6_burn 65 = .ok (.aload_n 0, 1) := dbm_177.2.1.1.1
theorem dX6_burn_66 : decode cX6_burn 66 = .ok (.iconst 0, 1) := dbm_177.2.1.1.2
theorem dX6_burn_67 : decode cX6_burn 67 = .ok (.invokevirtual 135, 3) := dbm_177.2.1.2.1
theorem dX6_burn_70 : decode cX6_burn 70 = .ok (.iconst 0, 1) := dbm_177.2.1.2.2
theorem dX6_burn_71 : decode cX6_burn 71 = .ok (.istore 5, 2) := dbm_177.2.2.1.1
theorem dX6_burn_73 : decode cX6_burn 73 = .ok (.iload 5, 2) := dbm_177.2.2.1.2
theorem dX6_burn_75 : decode cX6_burn 75 = .ok (.aload_n 0, 1) := dbm_177.2.2.2.1
theorem dX6_burn_76 : decode cX6_burn 76 = .ok (.getfield 92, 3) := dbm_177.2.2.2.2
theorem dbm_178 : (((((decode cX6_burn 79 = .ok (.if_icmp .ge 75, 3)) ∧ (decode cX6_burn 82 = .ok (.iconst 0, 1))) ∧ ((decode cX6_burn 83 = .ok (.istore 6, 2)) ∧ (decode cX6_burn 85 = .ok (.iload 6, 2)))) ∧ (((decode cX6_burn 87 = .ok (.bipush 49, 2)) ∧ (decode cX6_burn 89 = .ok (.if_icmp .ge 59, 3))) ∧ ((decode cX6_burn 92 = .ok (.aload_n 0, 1)) ∧ (decode cX6_burn 93 = .ok (.getfield 28, 3))))) ∧ ((((decode cX6_burn 96 = .ok (.iload 5, 2)) ∧ (decode cX6_burn 98 = .ok (.iaload, 1))) ∧ ((decode cX6_burn 99 = .ok (.ifCond .le 49, 3)) ∧ (decode cX6_burn 102 = .ok (.aload_n 0, 1)))) ∧ (((decode cX6_burn 103 = .ok (.getfield 70, 3)) ∧ (decode cX6_burn 106 = .ok (.iload 6, 2))) ∧ ((decode cX6_burn 108 = .ok (.dup2, 1)) ∧ (decode cX6_burn 109 = .ok (.iaload, 1)))))) := by decide +kernel
theorem dX6_burn_79 : decode cX6_burn 79 = .ok (.if_icmp .ge 75, 3) := dbm_178.1.1.1.1
theorem dX6_burn_82 : decode cX6_burn 82 = .ok (.iconst 0, 1) := dbm_178.1.1.1.2
theorem dX6_burn_83 : decode cX6_burn 83 = .ok (.istore 6, 2) := dbm_178.1.1.2.1
theorem dX6_burn_85 : decode cX6_burn 85 = .ok (.iload 6, 2) := dbm_178.1.1.2.2
theorem dX6_burn_87 : decode cX6_burn 87 = .ok (.bipush 49, 2) := dbm_178.1.2.1.1
theorem dX6_burn_89 : decode cX6_burn 89 = .ok (.if_icmp .ge 59, 3) := dbm_178.1.2.1.2
theorem dX6_burn_92 : decode cX6_burn 92 = .ok (.aload_n 0, 1) := dbm_178.1.2.2.1
theorem dX6_burn_93 : decode cX6_burn 93 = .ok (.getfield 28, 3) := dbm_178.1.2.2.2
theorem dX6_burn_96 : decode cX6_burn 96 = .ok (.iload 5, 2) := dbm_178.2.1.1.1
theorem dX6_burn_98 : decode cX6_burn 98 = .ok (.iaload, 1) := dbm_178.2.1.1.2
theorem dX6_burn_99 : decode cX6_burn 99 = .ok (.ifCond .le 49, 3) := dbm_178.2.1.2.1
theorem dX6_burn_102 : decode cX6_burn 102 = .ok (.aload_n 0, 1) := dbm_178.2.1.2.2
theorem dX6_burn_103 : decode cX6_burn 103 = .ok (.getfield 70, 3) := dbm_178.2.2.1.1
theorem dX6_burn_106 : decode cX6_burn 106 = .ok (.iload 6, 2) := dbm_178.2.2.1.2
theorem dX6_burn_108 : decode cX6_burn 108 = .ok (.dup2, 1) := dbm_178.2.2.2.1
theorem dX6_burn_109 : decode cX6_burn 109 = .ok (.iaload, 1) := dbm_178.2.2.2.2
theorem dbm_179 : (((((decode cX6_burn 110 = .ok (.aload_n 0, 1)) ∧ (decode cX6_burn 111 = .ok (.getfield 22, 3))) ∧ ((decode cX6_burn 114 = .ok (.iload 5, 2)) ∧ (decode cX6_burn 116 = .ok (.iaload, 1)))) ∧ (((decode cX6_burn 117 = .ok (.iload 6, 2)) ∧ (decode cX6_burn 119 = .ok (.invokestatic 103, 3))) ∧ ((decode cX6_burn 122 = .ok (.aload_n 0, 1)) ∧ (decode cX6_burn 123 = .ok (.getfield 28, 3))))) ∧ ((((decode cX6_burn 126 = .ok (.iload 5, 2)) ∧ (decode cX6_burn 128 = .ok (.iaload, 1))) ∧ ((decode cX6_burn 129 = .ok (.if_icmp .gt 10, 3)) ∧ (decode cX6_burn 132 = .ok (.iconst 1, 1)))) ∧ (((decode cX6_burn 133 = .ok (.iload 5, 2)) ∧ (decode cX6_burn 135 = .ok (.ishl, 1))) ∧ ((decode cX6_burn 136 = .ok (.goto 4, 3)) ∧ (decode cX6_burn 139 = .ok (.iconst 0, 1)))))) := by decide +kernel
theorem dX6_burn_110 : decode cX6_burn 110 = .ok (.aload_n 0, 1) := dbm_179.1.1.1.1
theorem dX6_burn_111 : decode cX6_burn 111 = .ok (.getfield 22, 3) := dbm_179.1.1.1.2
theorem dX6_burn_114 : decode cX6_burn 114 = .ok (.iload 5, 2) := dbm_179.1.1.2.1
theorem dX6_burn_116 : decode cX6_burn 116 = .ok (.iaload, 1) := dbm_179.1.1.2.2
theorem dX6_burn_117 : decode cX6_burn 117 = .ok (.iload 6, 2) := dbm_179.1.2.1.1
theorem dX6_burn_119 : decode cX6_burn 119 = .ok (.invokestatic 103, 3) := dbm_179.1.2.1.2
theorem dX6_burn_122 : decode cX6_burn 122 = .ok (.aload_n 0, 1) := dbm_179.1.2.2.1
theorem dX6_burn_123 : decode cX6_burn 123 = .ok (.getfield 28, 3) := dbm_179.1.2.2.2
theorem dX6_burn_126 : decode cX6_burn 126 = .ok (.iload 5, 2) := dbm_179.2.1.1.1
theorem dX6_burn_128 : decode cX6_burn 128 = .ok (.iaload, 1) := dbm_179.2.1.1.2
theorem dX6_burn_129 : decode cX6_burn 129 = .ok (.if_icmp .gt 10, 3) := dbm_179.2.1.2.1
theorem dX6_burn_132 : decode cX6_burn 132 = .ok (.iconst 1, 1) := dbm_179.2.1.2.2
theorem dX6_burn_133 : decode cX6_burn 133 = .ok (.iload 5, 2) := dbm_179.2.2.1.1
theorem dX6_burn_135 : decode cX6_burn 135 = .ok (.ishl, 1) := dbm_179.2.2.1.2
theorem dX6_burn_136 : decode cX6_burn 136 = .ok (.goto 4, 3) := dbm_179.2.2.2.1
theorem dX6_burn_139 : decode cX6_burn 139 = .ok (.iconst 0, 1) := dbm_179.2.2.2.2
theorem dbm_180 : (((((decode cX6_burn 140 = .ok (.ior, 1)) ∧ (decode cX6_burn 141 = .ok (.iastore, 1))) ∧ ((decode cX6_burn 142 = .ok (.iinc 6 1, 3)) ∧ (decode cX6_burn 145 = .ok (.goto (-60), 3)))) ∧ (((decode cX6_burn 148 = .ok (.iinc 5 1, 3)) ∧ (decode cX6_burn 151 = .ok (.goto (-78), 3))) ∧ ((decode cX6_burn 154 = .ok (.iinc 4 1, 3)) ∧ (decode cX6_burn 157 = .ok (.goto (-98), 3))))) ∧ ((((decode cX6_burn 160 = .ok (.aload_n 0, 1)) ∧ (decode cX6_burn 161 = .ok (.invokevirtual 202, 3))) ∧ ((decode cX6_burn 164 = .ok (.iconst 0, 1)) ∧ (decode cX6_burn 165 = .ok (.istore 4, 2)))) ∧ (((decode cX6_burn 167 = .ok (.iconst 1, 1)) ∧ (decode cX6_burn 168 = .ok (.istore 5, 2))) ∧ ((decode cX6_burn 170 = .ok (.iload 5, 2)) ∧ (decode cX6_burn 172 = .ok (.bipush 49, 2)))))) := by decide +kernel
theorem dX6_burn_140 : decode cX6_burn 140 = .ok (.ior, 1) := dbm_180.1.1.1.1
theorem dX6_burn_141 : decode cX6_burn 141 = .ok (.iastore, 1) := dbm_180.1.1.1.2
theorem dX6_burn_142 : decode cX6_burn 142 = .ok (.iinc 6 1, 3) := dbm_180.1.1.2.1
theorem dX6_burn_145 : decode cX6_burn 145 = .ok (.goto (-60), 3) := dbm_180.1.1.2.2
theorem dX6_burn_148 : decode cX6_burn 148 = .ok (.iinc 5 1, 3) := dbm_180.1.2.1.1
theorem dX6_burn_151 : decode cX6_burn 151 = .ok (.goto (-78), 3) := dbm_180.1.2.1.2
theorem dX6_burn_154 : decode cX6_burn 154 = .ok (.iinc 4 1, 3) := dbm_180.1.2.2.1
theorem dX6_burn_157 : decode cX6_burn 157 = .ok (.goto (-98), 3) := dbm_180.1.2.2.2
theorem dX6_burn_160 : decode cX6_burn 160 = .ok (.aload_n 0, 1) := dbm_180.2.1.1.1
theorem dX6_burn_161 : decode cX6_burn 161 = .ok (.invokevirtual 202, 3) := dbm_180.2.1.1.2
theorem dX6_burn_164 : decode cX6_burn 164 = .ok (.iconst 0, 1) := dbm_180.2.1.2.1
theorem dX6_burn_165 : decode cX6_burn 165 = .ok (.istore 4, 2) := dbm_180.2.1.2.2
theorem dX6_burn_167 : decode cX6_burn 167 = .ok (.iconst 1, 1) := dbm_180.2.2.1.1
theorem dX6_burn_168 : decode cX6_burn 168 = .ok (.istore 5, 2) := dbm_180.2.2.1.2
theorem dX6_burn_170 : decode cX6_burn 170 = .ok (.iload 5, 2) := dbm_180.2.2.2.1
theorem dX6_burn_172 : decode cX6_burn 172 = .ok (.bipush 49, 2) := dbm_180.2.2.2.2
theorem dbm_181 : (((((decode cX6_burn 174 = .ok (.if_icmp .ge 41, 3)) ∧ (decode cX6_burn 177 = .ok (.aload_n 0, 1))) ∧ ((decode cX6_burn 178 = .ok (.getfield 70, 3)) ∧ (decode cX6_burn 181 = .ok (.iload 5, 2)))) ∧ (((decode cX6_burn 183 = .ok (.iaload, 1)) ∧ (decode cX6_burn 184 = .ok (.invokestatic 119, 3))) ∧ ((decode cX6_burn 187 = .ok (.aload_n 0, 1)) ∧ (decode cX6_burn 188 = .ok (.getfield 70, 3))))) ∧ ((((decode cX6_burn 191 = .ok (.iload 4, 2)) ∧ (decode cX6_burn 193 = .ok (.iaload, 1))) ∧ ((decode cX6_burn 194 = .ok (.invokestatic 119, 3)) ∧ (decode cX6_burn 197 = .ok (.if_icmp .le 8, 3)))) ∧ (((decode cX6_burn 200 = .ok (.iload 5, 2)) ∧ (decode cX6_burn 202 = .ok (.goto 5, 3))) ∧ ((decode cX6_burn 205 = .ok (.iload 4, 2)) ∧ (decode cX6_burn 207 = .ok (.istore 4, 2)))))) := by decide +kernel
theorem dX6_burn_174 : decode cX6_burn 174 = .ok (.if_icmp .ge 41, 3) := dbm_181.1.1.1.1
theorem dX6_burn_177 : decode cX6_burn 177 = .ok (.aload_n 0, 1) := dbm_181.1.1.1.2
theorem dX6_burn_178 : decode cX6_burn 178 = .ok (.getfield 70, 3) := dbm_181.1.1.2.1
theorem dX6_burn_181 : decode cX6_burn 181 = .ok (.iload 5, 2) := dbm_181.1.1.2.2
theorem dX6_burn_183 : decode cX6_burn 183 = .ok (.iaload, 1) := dbm_181.1.2.1.1
theorem dX6_burn_184 : decode cX6_burn 184 = .ok (.invokestatic 119, 3) := dbm_181.1.2.1.2
theorem dX6_burn_187 : decode cX6_burn 187 = .ok (.aload_n 0, 1) := dbm_181.1.2.2.1
theorem dX6_burn_188 : decode cX6_burn 188 = .ok (.getfield 70, 3) := dbm_181.1.2.2.2
theorem dX6_burn_191 : decode cX6_burn 191 = .ok (.iload 4, 2) := dbm_181.2.1.1.1
theorem dX6_burn_193 : decode cX6_burn 193 = .ok (.iaload, 1) := dbm_181.2.1.1.2
theorem dX6_burn_194 : decode cX6_burn 194 = .ok (.invokestatic 119, 3) := dbm_181.2.1.2.1
theorem dX6_burn_197 : decode cX6_burn 197 = .ok (.if_icmp .le 8, 3) := dbm_181.2.1.2.2
theorem dX6_burn_200 : decode cX6_burn 200 = .ok (.iload 5, 2) := dbm_181.2.2.1.1
theorem dX6_burn_202 : decode cX6_burn 202 = .ok (.goto 5, 3) := dbm_181.2.2.1.2
theorem dX6_burn_205 : decode cX6_burn 205 = .ok (.iload 4, 2) := dbm_181.2.2.2.1
theorem dX6_burn_207 : decode cX6_burn 207 = .ok (.istore 4, 2) := dbm_181.2.2.2.2
theorem dbm_182 : (((((decode cX6_burn 209 = .ok (.iinc 5 1, 3)) ∧ (decode cX6_burn 212 = .ok (.goto (-42), 3))) ∧ ((decode cX6_burn 215 = .ok (.iload_n 2, 1)) ∧ (decode cX6_burn 216 = .ok (.ifCond .ne 8, 3)))) ∧ (((decode cX6_burn 219 = .ok (.iload 4, 2)) ∧ (decode cX6_burn 221 = .ok (.goto 13, 3))) ∧ ((decode cX6_burn 224 = .ok (.aload_n 0, 1)) ∧ (decode cX6_burn 225 = .ok (.getfield 70, 3))))) ∧ ((((decode cX6_burn 228 = .ok (.iload 4, 2)) ∧ (decode cX6_burn 230 = .ok (.iaload, 1))) ∧ ((decode cX6_burn 231 = .ok (.invokestatic 119, 3)) ∧ (decode cX6_burn 234 = .ok (.ireturn, 1)))) ∧ (((decode cX6_shut 0 = .ok (.aload_n 0, 1)) ∧ (decode cX6_shut 1 = .ok (.iconst 0, 1))) ∧ ((decode cX6_shut 2 = .ok (.putfield 79, 3)) ∧ (decode cX6_shut 5 = .ok (.iload_n 1, 1)))))) := by decide +kernel
theorem dX6_burn_209 : decode cX6_burn 209 = .ok (.iinc 5 1, 3) := dbm_182.1.1.1.1
theorem dX6_burn_212 : decode cX6_burn 212 = .ok (.goto (-42), 3) := dbm_182.1.1.1.2
theorem dX6_burn_215 : decode cX6_burn 215 = .ok (.iload_n 2, 1) := dbm_182.1.1.2.1
theorem dX6_burn_216 : decode cX6_burn 216 = .ok (.ifCond .ne 8, 3) := dbm_182.1.1.2.2
theorem dX6_burn_219 : decode cX6_burn 219 = .ok (.iload 4, 2) := dbm_182.1.2.1.1
theorem dX6_burn_221 : decode cX6_burn 221 = .ok (.goto 13, 3) := dbm_182.1.2.1.2
theorem dX6_burn_224 : decode cX6_burn 224 = .ok (.aload_n 0, 1) := dbm_182.1.2.2.1
theorem dX6_burn_225 : decode cX6_burn 225 = .ok (.getfield 70, 3) := dbm_182.1.2.2.2
theorem dX6_burn_228 : decode cX6_burn 228 = .ok (.iload 4, 2) := dbm_182.2.1.1.1
theorem dX6_burn_230 : decode cX6_burn 230 = .ok (.iaload, 1) := dbm_182.2.1.1.2
theorem dX6_burn_231 : decode cX6_burn 231 = .ok (.invokestatic 119, 3) := dbm_182.2.1.2.1
theorem dX6_burn_234 : decode cX6_burn 234 = .ok (.ireturn, 1) := dbm_182.2.1.2.2
theorem dX6_shut_0 : decode cX6_shut 0 = .ok (.aload_n 0, 1) := dbm_182.2.2.1.1
theorem dX6_shut_1 : decode cX6_shut 1 = .ok (.iconst 0, 1) := dbm_182.2.2.1.2
theorem dX6_shut_2 : decode cX6_shut 2 = .ok (.putfield 79, 3) := dbm_182.2.2.2.1
theorem dX6_shut_5 : decode cX6_shut 5 = .ok (.iload_n 1, 1) := dbm_182.2.2.2.2
theorem dbm_183 : (((((decode cX6_shut 6 = .ok (.iconst 0, 1)) ∧ (decode cX6_shut 7 = .ok (.bipush 60, 2))) ∧ ((decode cX6_shut 9 = .ok (.invokestatic 240, 3)) ∧ (decode cX6_shut 12 = .ok (.istore_n 2, 1)))) ∧ (((decode cX6_shut 13 = .ok (.iload_n 2, 1)) ∧ (decode cX6_shut 14 = .ok (.ifCond .ge 9, 3))) ∧ ((decode cX6_shut 17 = .ok (.aload_n 0, 1)) ∧ (decode cX6_shut 18 = .ok (.iload_n 2, 1))))) ∧ ((((decode cX6_shut 19 = .ok (.invokevirtual 143, 3)) ∧ (decode cX6_shut 22 = .ok (.ireturn, 1))) ∧ ((decode cX6_shut 23 = .ok (.bipush (-9), 2)) ∧ (decode cX6_shut 25 = .ok (.istore_n 3, 1)))) ∧ (((decode cX6_shut 26 = .ok (.aload_n 0, 1)) ∧ (decode cX6_shut 27 = .ok (.invokevirtual 196, 3))) ∧ ((decode cX6_shut 30 = .ok (.aload_n 0, 1)) ∧ (decode cX6_shut 31 = .ok (.iload_n 1, 1)))))) := by decide +kernel
theorem dX6_shut_6 : decode cX6_shut 6 = .ok (.iconst 0, 1) := dbm_183.1.1.1.1
theorem dX6_shut_7 : decode cX6_shut 7 = .ok (.bipush 60, 2) := dbm_183.1.1.1.2
theorem dX6_shut_9 : decode cX6_shut 9 = .ok (.invokestatic 240, 3) := dbm_183.1.1.2.1
theorem dX6_shut_12 : decode cX6_shut 12 = .ok (.istore_n 2, 1) := dbm_183.1.1.2.2
theorem dX6_shut_13 : decode cX6_shut 13 = .ok (.iload_n 2, 1) := dbm_183.1.2.1.1
theorem dX6_shut_14 : decode cX6_shut 14 = .ok (.ifCond .ge 9, 3) := dbm_183.1.2.1.2
theorem dX6_shut_17 : decode cX6_shut 17 = .ok (.aload_n 0, 1) := dbm_183.1.2.2.1
theorem dX6_shut_18 : decode cX6_shut 18 = .ok (.iload_n 2, 1) := dbm_183.1.2.2.2
theorem dX6_shut_19 : decode cX6_shut 19 = .ok (.invokevirtual 143, 3) := dbm_183.2.1.1.1
theorem dX6_shut_22 : decode cX6_shut 22 = .ok (.ireturn, 1) := dbm_183.2.1.1.2
theorem dX6_shut_23 : decode cX6_shut 23 = .ok (.bipush (-9), 2) := dbm_183.2.1.2.1
theorem dX6_shut_25 : decode cX6_shut 25 = .ok (.istore_n 3, 1) := dbm_183.2.1.2.2
theorem dX6_shut_26 : decode cX6_shut 26 = .ok (.aload_n 0, 1) := dbm_183.2.2.1.1
theorem dX6_shut_27 : decode cX6_shut 27 = .ok (.invokevirtual 196, 3) := dbm_183.2.2.1.2
theorem dX6_shut_30 : decode cX6_shut 30 = .ok (.aload_n 0, 1) := dbm_183.2.2.2.1
theorem dX6_shut_31 : decode cX6_shut 31 = .ok (.iload_n 1, 1) := dbm_183.2.2.2.2
theorem dbm_184 : (((((decode cX6_shut 32 = .ok (.invokevirtual 189, 3)) ∧ (decode cX6_shut 35 = .ok (.aload_n 0, 1))) ∧ ((decode cX6_shut 36 = .ok (.invokevirtual 253, 3)) ∧ (decode cX6_shut 39 = .ok (.istore 4, 2)))) ∧ (((decode cX6_shut 41 = .ok (.aload_n 0, 1)) ∧ (decode cX6_shut 42 = .ok (.invokevirtual 202, 3))) ∧ ((decode cX6_shut 45 = .ok (.iconst 0, 1)) ∧ (decode cX6_shut 46 = .ok (.istore 5, 2))))) ∧ ((((decode cX6_shut 48 = .ok (.iload 5, 2)) ∧ (decode cX6_shut 50 = .ok (.aload_n 0, 1))) ∧ ((decode cX6_shut 51 = .ok (.getfield 89, 3)) ∧ (decode cX6_shut 54 = .ok (.if_icmp .ge 62, 3)))) ∧ (((decode cX6_shut 57 = .ok (.aload_n 0, 1)) ∧ (decode cX6_shut 58 = .ok (.getfield 19, 3))) ∧ ((decode cX6_shut 61 = .ok (.iload 5, 2)) ∧ (decode cX6_shut 63 = .ok (.iconst 0, 1)))))) := by decide +kernel
theorem dX6_shut_32 : decode cX6_shut 32 = .ok (.invokevirtual 189, 3) := dbm_184.1.1.1.1
theorem dX6_shut_35 : decode cX6_shut 35 = .ok (.aload_n 0, 1) := dbm_184.1.1.1.2
theorem dX6_shut_36 : decode cX6_shut 36 = .ok (.invokevirtual 253, 3) := dbm_184.1.1.2.1
theorem dX6_shut_39 : decode cX6_shut 39 = .ok (.istore 4, 2) := dbm_184.1.1.2.2
theorem dX6_shut_41 : decode cX6_shut 41 = .ok (.aload_n 0, 1) := dbm_184.1.2.1.1
theorem dX6_shut_42 : decode cX6_shut 42 = .ok (.invokevirtual 202, 3) := dbm_184.1.2.1.2
theorem dX6_shut_45 : decode cX6_shut 45 = .ok (.iconst 0, 1) := dbm_184.1.2.2.1
theorem dX6_shut_46 : decode cX6_shut 46 = .ok (.istore 5, 2) := dbm_184.1.2.2.2
theorem dX6_shut_48 : decode cX6_shut 48 = .ok (.iload 5, 2) := dbm_184.2.1.1.1
theorem dX6_shut_50 : decode cX6_shut 50 = .ok (.aload_n 0, 1) := dbm_184.2.1.1.2
theorem dX6_shut_51 : decode cX6_shut 51 = .ok (.getfield 89, 3) := dbm_184.2.1.2.1
theorem dX6_shut_54 : decode cX6_shut 54 = .ok (.if_icmp .ge 62, 3) := dbm_184.2.1.2.2
theorem dX6_shut_57 : decode cX6_shut 57 = .ok (.aload_n 0, 1) := dbm_184.2.2.1.1
theorem dX6_shut_58 : decode cX6_shut 58 = .ok (.getfield 19, 3) := dbm_184.2.2.1.2
theorem dX6_shut_61 : decode cX6_shut 61 = .ok (.iload 5, 2) := dbm_184.2.2.2.1
theorem dX6_shut_63 : decode cX6_shut 63 = .ok (.iconst 0, 1) := dbm_184.2.2.2.2
theorem dbm_185 : (((((decode cX6_shut 64 = .ok (.iastore, 1)) ∧ (decode cX6_shut 65 = .ok (.aload_n 0, 1))) ∧ ((decode cX6_shut 66 = .ok (.iload_n 1, 1)) ∧ (decode cX6_shut 67 = .ok (.invokevirtual 189, 3)))) ∧ (((decode cX6_shut 70 = .ok (.aload_n 0, 1)) ∧ (decode cX6_shut 71 = .ok (.invokevirtual 253, 3))) ∧ ((decode cX6_shut 74 = .ok (.istore 6, 2)) ∧ (decode cX6_shut 76 = .ok (.aload_n 0, 1))))) ∧ ((((decode cX6_shut 77 = .ok (.invokevirtual 202, 3)) ∧ (decode cX6_shut 80 = .ok (.iload 6, 2))) ∧ ((decode cX6_shut 82 = .ok (.iload 4, 2)) ∧ (decode cX6_shut 84 = .ok (.if_icmp .ge 8, 3)))) ∧ (((decode cX6_shut 87 = .ok (.iload 5, 2)) ∧ (decode cX6_shut 89 = .ok (.goto 4, 3))) ∧ ((decode cX6_shut 92 = .ok (.iload_n 3, 1)) ∧ (decode cX6_shut 93 = .ok (.istore_n 3, 1)))))) := by decide +kernel
theorem dX6_shut_64 : decode cX6_shut 64 = .ok (.iastore, 1) := dbm_185.1.1.1.1
theorem dX6_shut_65 : decode cX6_shut 65 = .ok (.aload_n 0, 1) := dbm_185.1.1.1.2
theorem dX6_shut_66 : decode cX6_shut 66 = .ok (.iload_n 1, 1) := dbm_185.1.1.2.1
theorem dX6_shut_67 : decode cX6_shut 67 = .ok (.invokevirtual 189, 3) := dbm_185.1.1.2.2
theorem dX6_shut_70 : decode cX6_shut 70 = .ok (.aload_n 0, 1) := dbm_185.1.2.1.1
theorem dX6_shut_71 : decode cX6_shut 71 = .ok (.invokevirtual 253, 3) := dbm_185.1.2.1.2
theorem dX6_shut_74 : decode cX6_shut 74 = .ok (.istore 6, 2) := dbm_185.1.2.2.1
theorem dX6_shut_76 : decode cX6_shut 76 = .ok (.aload_n 0, 1) := dbm_185.1.2.2.2
theorem dX6_shut_77 : decode cX6_shut 77 = .ok (.invokevirtual 202, 3) := dbm_185.2.1.1.1
theorem dX6_shut_80 : decode cX6_shut 80 = .ok (.iload 6, 2) := dbm_185.2.1.1.2
theorem dX6_shut_82 : decode cX6_shut 82 = .ok (.iload 4, 2) := dbm_185.2.1.2.1
theorem dX6_shut_84 : decode cX6_shut 84 = .ok (.if_icmp .ge 8, 3) := dbm_185.2.1.2.2
theorem dX6_shut_87 : decode cX6_shut 87 = .ok (.iload 5, 2) := dbm_185.2.2.1.1
theorem dX6_shut_89 : decode cX6_shut 89 = .ok (.goto 4, 3) := dbm_185.2.2.1.2
theorem dX6_shut_92 : decode cX6_shut 92 = .ok (.iload_n 3, 1) := dbm_185.2.2.2.1
theorem dX6_shut_93 : decode cX6_shut 93 = .ok (.istore_n 3, 1) := dbm_185.2.2.2.2
theorem dbm_186 : (((((decode cX6_shut 94 = .ok (.iload 6, 2)) ∧ (decode cX6_shut 96 = .ok (.iload 4, 2))) ∧ ((decode cX6_shut 98 = .ok (.if_icmp .ge 8, 3)) ∧ (decode cX6_shut 101 = .ok (.iload 6, 2)))) ∧ (((decode cX6_shut 103 = .ok (.goto 5, 3)) ∧ (decode cX6_shut 106 = .ok (.iload 4, 2))) ∧ ((decode cX6_shut 108 = .ok (.istore 4, 2)) ∧ (decode cX6_shut 110 = .ok (.iinc 5 1, 3))))) ∧ ((((decode cX6_shut 113 = .ok (.goto (-65), 3)) ∧ (decode cX6_shut 116 = .ok (.iload_n 3, 1))) ∧ ((decode cX6_shut 117 = .ok (.ireturn, 1)) ∧ (decode cX6_heavyPrices 0 = .ok (.iconst 0, 1)))) ∧ (((decode cX6_heavyPrices 1 = .ok (.istore_n 1, 1)) ∧ (decode cX6_heavyPrices 2 = .ok (.iconst 0, 1))) ∧ ((decode cX6_heavyPrices 3 = .ok (.istore_n 2, 1)) ∧ (decode cX6_heavyPrices 4 = .ok (.iload_n 2, 1)))))) := by decide +kernel
theorem dX6_shut_94 : decode cX6_shut 94 = .ok (.iload 6, 2) := dbm_186.1.1.1.1
theorem dX6_shut_96 : decode cX6_shut 96 = .ok (.iload 4, 2) := dbm_186.1.1.1.2
theorem dX6_shut_98 : decode cX6_shut 98 = .ok (.if_icmp .ge 8, 3) := dbm_186.1.1.2.1
theorem dX6_shut_101 : decode cX6_shut 101 = .ok (.iload 6, 2) := dbm_186.1.1.2.2
theorem dX6_shut_103 : decode cX6_shut 103 = .ok (.goto 5, 3) := dbm_186.1.2.1.1
theorem dX6_shut_106 : decode cX6_shut 106 = .ok (.iload 4, 2) := dbm_186.1.2.1.2
theorem dX6_shut_108 : decode cX6_shut 108 = .ok (.istore 4, 2) := dbm_186.1.2.2.1
theorem dX6_shut_110 : decode cX6_shut 110 = .ok (.iinc 5 1, 3) := dbm_186.1.2.2.2
theorem dX6_shut_113 : decode cX6_shut 113 = .ok (.goto (-65), 3) := dbm_186.2.1.1.1
theorem dX6_shut_116 : decode cX6_shut 116 = .ok (.iload_n 3, 1) := dbm_186.2.1.1.2
theorem dX6_shut_117 : decode cX6_shut 117 = .ok (.ireturn, 1) := dbm_186.2.1.2.1
theorem dX6_heavyPrices_0 : decode cX6_heavyPrices 0 = .ok (.iconst 0, 1) := dbm_186.2.1.2.2
theorem dX6_heavyPrices_1 : decode cX6_heavyPrices 1 = .ok (.istore_n 1, 1) := dbm_186.2.2.1.1
theorem dX6_heavyPrices_2 : decode cX6_heavyPrices 2 = .ok (.iconst 0, 1) := dbm_186.2.2.1.2
theorem dX6_heavyPrices_3 : decode cX6_heavyPrices 3 = .ok (.istore_n 2, 1) := dbm_186.2.2.2.1
theorem dX6_heavyPrices_4 : decode cX6_heavyPrices 4 = .ok (.iload_n 2, 1) := dbm_186.2.2.2.2
theorem dbm_187 : (((((decode cX6_heavyPrices 5 = .ok (.aload_n 0, 1)) ∧ (decode cX6_heavyPrices 6 = .ok (.getfield 92, 3))) ∧ ((decode cX6_heavyPrices 9 = .ok (.if_icmp .ge 31, 3)) ∧ (decode cX6_heavyPrices 12 = .ok (.aload_n 0, 1)))) ∧ (((decode cX6_heavyPrices 13 = .ok (.iload_n 2, 1)) ∧ (decode cX6_heavyPrices 14 = .ok (.invokevirtual 113, 3))) ∧ ((decode cX6_heavyPrices 17 = .ok (.istore_n 3, 1)) ∧ (decode cX6_heavyPrices 18 = .ok (.iload_n 1, 1))))) ∧ ((((decode cX6_heavyPrices 19 = .ok (.iload_n 3, 1)) ∧ (decode cX6_heavyPrices 20 = .ok (.bipush 30, 2))) ∧ ((decode cX6_heavyPrices 22 = .ok (.if_icmp .le 9, 3)) ∧ (decode cX6_heavyPrices 25 = .ok (.iconst 2, 1)))) ∧ (((decode cX6_heavyPrices 26 = .ok (.iload_n 3, 1)) ∧ (decode cX6_heavyPrices 27 = .ok (.imul, 1))) ∧ ((decode cX6_heavyPrices 28 = .ok (.goto 4, 3)) ∧ (decode cX6_heavyPrices 31 = .ok (.iload_n 3, 1)))))) := by decide +kernel
theorem dX6_heavyPrices_5 : decode cX6_heavyPrices 5 = .ok (.aload_n 0, 1) := dbm_187.1.1.1.1
theorem dX6_heavyPrices_6 : decode cX6_heavyPrices 6 = .ok (.getfield 92, 3) := dbm_187.1.1.1.2
theorem dX6_heavyPrices_9 : decode cX6_heavyPrices 9 = .ok (.if_icmp .ge 31, 3) := dbm_187.1.1.2.1
theorem dX6_heavyPrices_12 : decode cX6_heavyPrices 12 = .ok (.aload_n 0, 1) := dbm_187.1.1.2.2
theorem dX6_heavyPrices_13 : decode cX6_heavyPrices 13 = .ok (.iload_n 2, 1) := dbm_187.1.2.1.1
theorem dX6_heavyPrices_14 : decode cX6_heavyPrices 14 = .ok (.invokevirtual 113, 3) := dbm_187.1.2.1.2
theorem dX6_heavyPrices_17 : decode cX6_heavyPrices 17 = .ok (.istore_n 3, 1) := dbm_187.1.2.2.1
theorem dX6_heavyPrices_18 : decode cX6_heavyPrices 18 = .ok (.iload_n 1, 1) := dbm_187.1.2.2.2
theorem dX6_heavyPrices_19 : decode cX6_heavyPrices 19 = .ok (.iload_n 3, 1) := dbm_187.2.1.1.1
theorem dX6_heavyPrices_20 : decode cX6_heavyPrices 20 = .ok (.bipush 30, 2) := dbm_187.2.1.1.2
theorem dX6_heavyPrices_22 : decode cX6_heavyPrices 22 = .ok (.if_icmp .le 9, 3) := dbm_187.2.1.2.1
theorem dX6_heavyPrices_25 : decode cX6_heavyPrices 25 = .ok (.iconst 2, 1) := dbm_187.2.1.2.2
theorem dX6_heavyPrices_26 : decode cX6_heavyPrices 26 = .ok (.iload_n 3, 1) := dbm_187.2.2.1.1
theorem dX6_heavyPrices_27 : decode cX6_heavyPrices 27 = .ok (.imul, 1) := dbm_187.2.2.1.2
theorem dX6_heavyPrices_28 : decode cX6_heavyPrices 28 = .ok (.goto 4, 3) := dbm_187.2.2.2.1
theorem dX6_heavyPrices_31 : decode cX6_heavyPrices 31 = .ok (.iload_n 3, 1) := dbm_187.2.2.2.2
theorem dbm_188 : (((((decode cX6_heavyPrices 32 = .ok (.iadd, 1)) ∧ (decode cX6_heavyPrices 33 = .ok (.istore_n 1, 1))) ∧ ((decode cX6_heavyPrices 34 = .ok (.iinc 2 1, 3)) ∧ (decode cX6_heavyPrices 37 = .ok (.goto (-33), 3)))) ∧ (((decode cX6_heavyPrices 40 = .ok (.iload_n 1, 1)) ∧ (decode cX6_heavyPrices 41 = .ok (.ireturn, 1))) ∧ ((decode cX6_trade 0 = .ok (.aload_n 0, 1)) ∧ (decode cX6_trade 1 = .ok (.iconst 0, 1))))) ∧ ((((decode cX6_trade 2 = .ok (.putfield 79, 3)) ∧ (decode cX6_trade 5 = .ok (.aload_n 0, 1))) ∧ ((decode cX6_trade 6 = .ok (.iload_n 1, 1)) ∧ (decode cX6_trade 7 = .ok (.iload_n 2, 1)))) ∧ (((decode cX6_trade 8 = .ok (.invokevirtual 237, 3)) ∧ (decode cX6_trade 11 = .ok (.istore_n 3, 1))) ∧ ((decode cX6_trade 12 = .ok (.iload_n 3, 1)) ∧ (decode cX6_trade 13 = .ok (.ifCond .ne 22, 3)))))) := by decide +kernel
theorem dX6_heavyPrices_32 : decode cX6_heavyPrices 32 = .ok (.iadd, 1) := dbm_188.1.1.1.1
theorem dX6_heavyPrices_33 : decode cX6_heavyPrices 33 = .ok (.istore_n 1, 1) := dbm_188.1.1.1.2
theorem dX6_heavyPrices_34 : decode cX6_heavyPrices 34 = .ok (.iinc 2 1, 3) := dbm_188.1.1.2.1
theorem dX6_heavyPrices_37 : decode cX6_heavyPrices 37 = .ok (.goto (-33), 3) := dbm_188.1.1.2.2
theorem dX6_heavyPrices_40 : decode cX6_heavyPrices 40 = .ok (.iload_n 1, 1) := dbm_188.1.2.1.1
theorem dX6_heavyPrices_41 : decode cX6_heavyPrices 41 = .ok (.ireturn, 1) := dbm_188.1.2.1.2
theorem dX6_trade_0 : decode cX6_trade 0 = .ok (.aload_n 0, 1) := dbm_188.1.2.2.1
theorem dX6_trade_1 : decode cX6_trade 1 = .ok (.iconst 0, 1) := dbm_188.1.2.2.2
theorem dX6_trade_2 : decode cX6_trade 2 = .ok (.putfield 79, 3) := dbm_188.2.1.1.1
theorem dX6_trade_5 : decode cX6_trade 5 = .ok (.aload_n 0, 1) := dbm_188.2.1.1.2
theorem dX6_trade_6 : decode cX6_trade 6 = .ok (.iload_n 1, 1) := dbm_188.2.1.2.1
theorem dX6_trade_7 : decode cX6_trade 7 = .ok (.iload_n 2, 1) := dbm_188.2.1.2.2
theorem dX6_trade_8 : decode cX6_trade 8 = .ok (.invokevirtual 237, 3) := dbm_188.2.2.1.1
theorem dX6_trade_11 : decode cX6_trade 11 = .ok (.istore_n 3, 1) := dbm_188.2.2.1.2
theorem dX6_trade_12 : decode cX6_trade 12 = .ok (.iload_n 3, 1) := dbm_188.2.2.2.1
theorem dX6_trade_13 : decode cX6_trade 13 = .ok (.ifCond .ne 22, 3) := dbm_188.2.2.2.2
theorem dbm_189 : (((((decode cX6_trade 16 = .ok (.aload_n 0, 1)) ∧ (decode cX6_trade 17 = .ok (.getfield 31, 3))) ∧ ((decode cX6_trade 20 = .ok (.bipush 7, 2)) ∧ (decode cX6_trade 22 = .ok (.iload_n 1, 1)))) ∧ (((decode cX6_trade 23 = .ok (.imul, 1)) ∧ (decode cX6_trade 24 = .ok (.iload_n 2, 1))) ∧ ((decode cX6_trade 25 = .ok (.iadd, 1)) ∧ (decode cX6_trade 26 = .ok (.iaload, 1))))) ∧ ((((decode cX6_trade 27 = .ok (.ifCond .ne 8, 3)) ∧ (decode cX6_trade 30 = .ok (.bipush (-3), 2))) ∧ ((decode cX6_trade 32 = .ok (.goto 4, 3)) ∧ (decode cX6_trade 35 = .ok (.iload_n 3, 1)))) ∧ (((decode cX6_trade 36 = .ok (.istore_n 3, 1)) ∧ (decode cX6_trade 37 = .ok (.iload_n 3, 1))) ∧ ((decode cX6_trade 38 = .ok (.ifCond .ge 9, 3)) ∧ (decode cX6_trade 41 = .ok (.aload_n 0, 1)))))) := by decide +kernel
theorem dX6_trade_16 : decode cX6_trade 16 = .ok (.aload_n 0, 1) := dbm_189.1.1.1.1
theorem dX6_trade_17 : decode cX6_trade 17 = .ok (.getfield 31, 3) := dbm_189.1.1.1.2
theorem dX6_trade_20 : decode cX6_trade 20 = .ok (.bipush 7, 2) := dbm_189.1.1.2.1
theorem dX6_trade_22 : decode cX6_trade 22 = .ok (.iload_n 1, 1) := dbm_189.1.1.2.2
theorem dX6_trade_23 : decode cX6_trade 23 = .ok (.imul, 1) := dbm_189.1.2.1.1
theorem dX6_trade_24 : decode cX6_trade 24 = .ok (.iload_n 2, 1) := dbm_189.1.2.1.2
theorem dX6_trade_25 : decode cX6_trade 25 = .ok (.iadd, 1) := dbm_189.1.2.2.1
theorem dX6_trade_26 : decode cX6_trade 26 = .ok (.iaload, 1) := dbm_189.1.2.2.2
theorem dX6_trade_27 : decode cX6_trade 27 = .ok (.ifCond .ne 8, 3) := dbm_189.2.1.1.1
theorem dX6_trade_30 : decode cX6_trade 30 = .ok (.bipush (-3), 2) := dbm_189.2.1.1.2
theorem dX6_trade_32 : decode cX6_trade 32 = .ok (.goto 4, 3) := dbm_189.2.1.2.1
theorem dX6_trade_35 : decode cX6_trade 35 = .ok (.iload_n 3, 1) := dbm_189.2.1.2.2
theorem dX6_trade_36 : decode cX6_trade 36 = .ok (.istore_n 3, 1) := dbm_189.2.2.1.1
theorem dX6_trade_37 : decode cX6_trade 37 = .ok (.iload_n 3, 1) := dbm_189.2.2.1.2
theorem dX6_trade_38 : decode cX6_trade 38 = .ok (.ifCond .ge 9, 3) := dbm_189.2.2.2.1
theorem dX6_trade_41 : decode cX6_trade 41 = .ok (.aload_n 0, 1) := dbm_189.2.2.2.2
theorem dbm_190 : (((((decode cX6_trade 42 = .ok (.iload_n 3, 1)) ∧ (decode cX6_trade 43 = .ok (.invokevirtual 143, 3))) ∧ ((decode cX6_trade 46 = .ok (.ireturn, 1)) ∧ (decode cX6_trade 47 = .ok (.bipush (-9), 2)))) ∧ (((decode cX6_trade 49 = .ok (.istore 4, 2)) ∧ (decode cX6_trade 51 = .ok (.aload_n 0, 1))) ∧ ((decode cX6_trade 52 = .ok (.invokevirtual 272, 3)) ∧ (decode cX6_trade 55 = .ok (.istore 5, 2))))) ∧ ((((decode cX6_trade 57 = .ok (.aload_n 0, 1)) ∧ (decode cX6_trade 58 = .ok (.invokevirtual 196, 3))) ∧ ((decode cX6_trade 61 = .ok (.iconst 0, 1)) ∧ (decode cX6_trade 62 = .ok (.istore 6, 2)))) ∧ (((decode cX6_trade 64 = .ok (.iload 6, 2)) ∧ (decode cX6_trade 66 = .ok (.aload_n 0, 1))) ∧ ((decode cX6_trade 67 = .ok (.getfield 92, 3)) ∧ (decode cX6_trade 70 = .ok (.if_icmp .ge 101, 3)))))) := by decide +kernel
theorem dX6_trade_42 : decode cX6_trade 42 = .ok (.iload_n 3, 1) := dbm_190.1.1.1.1
theorem dX6_trade_43 : decode cX6_trade 43 = .ok (.invokevirtual 143, 3) := dbm_190.1.1.1.2
theorem dX6_trade_46 : decode cX6_trade 46 = .ok (.ireturn, 1) := dbm_190.1.1.2.1
theorem dX6_trade_47 : decode cX6_trade 47 = .ok (.bipush (-9), 2) := dbm_190.1.1.2.2
theorem dX6_trade_49 : decode cX6_trade 49 = .ok (.istore 4, 2) := dbm_190.1.2.1.1
theorem dX6_trade_51 : decode cX6_trade 51 = .ok (.aload_n 0, 1) := dbm_190.1.2.1.2
theorem dX6_trade_52 : decode cX6_trade 52 = .ok (.invokevirtual 272, 3) := dbm_190.1.2.2.1
theorem dX6_trade_55 : decode cX6_trade 55 = .ok (.istore 5, 2) := dbm_190.1.2.2.2
theorem dX6_trade_57 : decode cX6_trade 57 = .ok (.aload_n 0, 1) := dbm_190.2.1.1.1
theorem dX6_trade_58 : decode cX6_trade 58 = .ok (.invokevirtual 196, 3) := dbm_190.2.1.1.2
theorem dX6_trade_61 : decode cX6_trade 61 = .ok (.iconst 0, 1) := dbm_190.2.1.2.1
theorem dX6_trade_62 : decode cX6_trade 62 = .ok (.istore 6, 2) := dbm_190.2.1.2.2
theorem dX6_trade_64 : decode cX6_trade 64 = .ok (.iload 6, 2) := dbm_190.2.2.1.1
theorem dX6_trade_66 : decode cX6_trade 66 = .ok (.aload_n 0, 1) := dbm_190.2.2.1.2
theorem dX6_trade_67 : decode cX6_trade 67 = .ok (.getfield 92, 3) := dbm_190.2.2.2.1
theorem dX6_trade_70 : decode cX6_trade 70 = .ok (.if_icmp .ge 101, 3) := dbm_190.2.2.2.2
theorem dbm_191 : (((((decode cX6_trade 73 = .ok (.aload_n 0, 1)) ∧ (decode cX6_trade 74 = .ok (.getfield 31, 3))) ∧ ((decode cX6_trade 77 = .ok (.bipush 7, 2)) ∧ (decode cX6_trade 79 = .ok (.iload 6, 2)))) ∧ (((decode cX6_trade 81 = .ok (.imul, 1)) ∧ (decode cX6_trade 82 = .ok (.iload_n 2, 1))) ∧ ((decode cX6_trade 83 = .ok (.iadd, 1)) ∧ (decode cX6_trade 84 = .ok (.iaload, 1))))) ∧ ((((decode cX6_trade 85 = .ok (.ifCond .ne 80, 3)) ∧ (decode cX6_trade 88 = .ok (.aload_n 0, 1))) ∧ ((decode cX6_trade 89 = .ok (.getfield 31, 3)) ∧ (decode cX6_trade 92 = .ok (.bipush 7, 2)))) ∧ (((decode cX6_trade 94 = .ok (.iload 6, 2)) ∧ (decode cX6_trade 96 = .ok (.imul, 1))) ∧ ((decode cX6_trade 97 = .ok (.iload_n 2, 1)) ∧ (decode cX6_trade 98 = .ok (.iadd, 1)))))) := by decide +kernel
theorem dX6_trade_73 : decode cX6_trade 73 = .ok (.aload_n 0, 1) := dbm_191.1.1.1.1
theorem dX6_trade_74 : decode cX6_trade 74 = .ok (.getfield 31, 3) := dbm_191.1.1.1.2
theorem dX6_trade_77 : decode cX6_trade 77 = .ok (.bipush 7, 2) := dbm_191.1.1.2.1
theorem dX6_trade_79 : decode cX6_trade 79 = .ok (.iload 6, 2) := dbm_191.1.1.2.2
theorem dX6_trade_81 : decode cX6_trade 81 = .ok (.imul, 1) := dbm_191.1.2.1.1
theorem dX6_trade_82 : decode cX6_trade 82 = .ok (.iload_n 2, 1) := dbm_191.1.2.1.2
theorem dX6_trade_83 : decode cX6_trade 83 = .ok (.iadd, 1) := dbm_191.1.2.2.1
theorem dX6_trade_84 : decode cX6_trade 84 = .ok (.iaload, 1) := dbm_191.1.2.2.2
theorem dX6_trade_85 : decode cX6_trade 85 = .ok (.ifCond .ne 80, 3) := dbm_191.2.1.1.1
theorem dX6_trade_88 : decode cX6_trade 88 = .ok (.aload_n 0, 1) := dbm_191.2.1.1.2
theorem dX6_trade_89 : decode cX6_trade 89 = .ok (.getfield 31, 3) := dbm_191.2.1.2.1
theorem dX6_trade_92 : decode cX6_trade 92 = .ok (.bipush 7, 2) := dbm_191.2.1.2.2
theorem dX6_trade_94 : decode cX6_trade 94 = .ok (.iload 6, 2) := dbm_191.2.2.1.1
theorem dX6_trade_96 : decode cX6_trade 96 = .ok (.imul, 1) := dbm_191.2.2.1.2
theorem dX6_trade_97 : decode cX6_trade 97 = .ok (.iload_n 2, 1) := dbm_191.2.2.2.1
theorem dX6_trade_98 : decode cX6_trade 98 = .ok (.iadd, 1) := dbm_191.2.2.2.2
theorem dbm_192 : (((((decode cX6_trade 99 = .ok (.aload_n 0, 1)) ∧ (decode cX6_trade 100 = .ok (.getfield 31, 3))) ∧ ((decode cX6_trade 103 = .ok (.bipush 7, 2)) ∧ (decode cX6_trade 105 = .ok (.iload_n 1, 1)))) ∧ (((decode cX6_trade 106 = .ok (.imul, 1)) ∧ (decode cX6_trade 107 = .ok (.iload_n 2, 1))) ∧ ((decode cX6_trade 108 = .ok (.iadd, 1)) ∧ (decode cX6_trade 109 = .ok (.iaload, 1))))) ∧ ((((decode cX6_trade 110 = .ok (.iastore, 1)) ∧ (decode cX6_trade 111 = .ok (.aload_n 0, 1))) ∧ ((decode cX6_trade 112 = .ok (.getfield 31, 3)) ∧ (decode cX6_trade 115 = .ok (.bipush 7, 2)))) ∧ (((decode cX6_trade 117 = .ok (.iload_n 1, 1)) ∧ (decode cX6_trade 118 = .ok (.imul, 1))) ∧ ((decode cX6_trade 119 = .ok (.iload_n 2, 1)) ∧ (decode cX6_trade 120 = .ok (.iadd, 1)))))) := by decide +kernel
theorem dX6_trade_99 : decode cX6_trade 99 = .ok (.aload_n 0, 1) := dbm_192.1.1.1.1
theorem dX6_trade_100 : decode cX6_trade 100 = .ok (.getfield 31, 3) := dbm_192.1.1.1.2
theorem dX6_trade_103 : decode cX6_trade 103 = .ok (.bipush 7, 2) := dbm_192.1.1.2.1
theorem dX6_trade_105 : decode cX6_trade 105 = .ok (.iload_n 1, 1) := dbm_192.1.1.2.2
theorem dX6_trade_106 : decode cX6_trade 106 = .ok (.imul, 1) := dbm_192.1.2.1.1
theorem dX6_trade_107 : decode cX6_trade 107 = .ok (.iload_n 2, 1) := dbm_192.1.2.1.2
theorem dX6_trade_108 : decode cX6_trade 108 = .ok (.iadd, 1) := dbm_192.1.2.2.1
theorem dX6_trade_109 : decode cX6_trade 109 = .ok (.iaload, 1) := dbm_192.1.2.2.2
theorem dX6_trade_110 : decode cX6_trade 110 = .ok (.iastore, 1) := dbm_192.2.1.1.1
theorem dX6_trade_111 : decode cX6_trade 111 = .ok (.aload_n 0, 1) := dbm_192.2.1.1.2
theorem dX6_trade_112 : decode cX6_trade 112 = .ok (.getfield 31, 3) := dbm_192.2.1.2.1
theorem dX6_trade_115 : decode cX6_trade 115 = .ok (.bipush 7, 2) := dbm_192.2.1.2.2
theorem dX6_trade_117 : decode cX6_trade 117 = .ok (.iload_n 1, 1) := dbm_192.2.2.1.1
theorem dX6_trade_118 : decode cX6_trade 118 = .ok (.imul, 1) := dbm_192.2.2.1.2
theorem dX6_trade_119 : decode cX6_trade 119 = .ok (.iload_n 2, 1) := dbm_192.2.2.2.1
theorem dX6_trade_120 : decode cX6_trade 120 = .ok (.iadd, 1) := dbm_192.2.2.2.2
theorem dbm_193 : (((((decode cX6_trade 121 = .ok (.iconst 0, 1)) ∧ (decode cX6_trade 122 = .ok (.iastore, 1))) ∧ ((decode cX6_trade 123 = .ok (.aload_n 0, 1)) ∧ (decode cX6_trade 124 = .ok (.invokevirtual 272, 3)))) ∧ (((decode cX6_trade 127 = .ok (.istore 7, 2)) ∧ (decode cX6_trade 129 = .ok (.aload_n 0, 1))) ∧ ((decode cX6_trade 130 = .ok (.invokevirtual 202, 3)) ∧ (decode cX6_trade 133 = .ok (.iload 7, 2))))) ∧ ((((decode cX6_trade 135 = .ok (.iload 5, 2)) ∧ (decode cX6_trade 137 = .ok (.if_icmp .ge 8, 3))) ∧ ((decode cX6_trade 140 = .ok (.iload 6, 2)) ∧ (decode cX6_trade 142 = .ok (.goto 5, 3)))) ∧ (((decode cX6_trade 145 = .ok (.iload 4, 2)) ∧ (decode cX6_trade 147 = .ok (.istore 4, 2))) ∧ ((decode cX6_trade 149 = .ok (.iload 7, 2)) ∧ (decode cX6_trade 151 = .ok (.iload 5, 2)))))) := by decide +kernel
theorem dX6_trade_121 : decode cX6_trade 121 = .ok (.iconst 0, 1) := dbm_193.1.1.1.1
theorem dX6_trade_122 : decode cX6_trade 122 = .ok (.iastore, 1) := dbm_193.1.1.1.2
theorem dX6_trade_123 : decode cX6_trade 123 = .ok (.aload_n 0, 1) := dbm_193.1.1.2.1
theorem dX6_trade_124 : decode cX6_trade 124 = .ok (.invokevirtual 272, 3) := dbm_193.1.1.2.2
theorem dX6_trade_127 : decode cX6_trade 127 = .ok (.istore 7, 2) := dbm_193.1.2.1.1
theorem dX6_trade_129 : decode cX6_trade 129 = .ok (.aload_n 0, 1) := dbm_193.1.2.1.2
theorem dX6_trade_130 : decode cX6_trade 130 = .ok (.invokevirtual 202, 3) := dbm_193.1.2.2.1
theorem dX6_trade_133 : decode cX6_trade 133 = .ok (.iload 7, 2) := dbm_193.1.2.2.2
theorem dX6_trade_135 : decode cX6_trade 135 = .ok (.iload 5, 2) := dbm_193.2.1.1.1
theorem dX6_trade_137 : decode cX6_trade 137 = .ok (.if_icmp .ge 8, 3) := dbm_193.2.1.1.2
theorem dX6_trade_140 : decode cX6_trade 140 = .ok (.iload 6, 2) := dbm_193.2.1.2.1
theorem dX6_trade_142 : decode cX6_trade 142 = .ok (.goto 5, 3) := dbm_193.2.1.2.2
theorem dX6_trade_145 : decode cX6_trade 145 = .ok (.iload 4, 2) := dbm_193.2.2.1.1
theorem dX6_trade_147 : decode cX6_trade 147 = .ok (.istore 4, 2) := dbm_193.2.2.1.2
theorem dX6_trade_149 : decode cX6_trade 149 = .ok (.iload 7, 2) := dbm_193.2.2.2.1
theorem dX6_trade_151 : decode cX6_trade 151 = .ok (.iload 5, 2) := dbm_193.2.2.2.2
theorem dbm_194 : (((((decode cX6_trade 153 = .ok (.if_icmp .ge 8, 3)) ∧ (decode cX6_trade 156 = .ok (.iload 7, 2))) ∧ ((decode cX6_trade 158 = .ok (.goto 5, 3)) ∧ (decode cX6_trade 161 = .ok (.iload 5, 2)))) ∧ (((decode cX6_trade 163 = .ok (.istore 5, 2)) ∧ (decode cX6_trade 165 = .ok (.iinc 6 1, 3))) ∧ ((decode cX6_trade 168 = .ok (.goto (-104), 3)) ∧ (decode cX6_trade 171 = .ok (.iload 4, 2))))) ∧ ((((decode cX6_trade 173 = .ok (.ireturn, 1)) ∧ (decode cX6_whoWent 0 = .ok (.aload_n 0, 1))) ∧ ((decode cX6_whoWent 1 = .ok (.iconst 0, 1)) ∧ (decode cX6_whoWent 2 = .ok (.putfield 79, 3)))) ∧ (((decode cX6_whoWent 5 = .ok (.aload_n 0, 1)) ∧ (decode cX6_whoWent 6 = .ok (.iload_n 1, 1))) ∧ ((decode cX6_whoWent 7 = .ok (.invokevirtual 181, 3)) ∧ (decode cX6_whoWent 10 = .ok (.ifCond .ne 9, 3)))))) := by decide +kernel
theorem dX6_trade_153 : decode cX6_trade 153 = .ok (.if_icmp .ge 8, 3) := dbm_194.1.1.1.1
theorem dX6_trade_156 : decode cX6_trade 156 = .ok (.iload 7, 2) := dbm_194.1.1.1.2
theorem dX6_trade_158 : decode cX6_trade 158 = .ok (.goto 5, 3) := dbm_194.1.1.2.1
theorem dX6_trade_161 : decode cX6_trade 161 = .ok (.iload 5, 2) := dbm_194.1.1.2.2
theorem dX6_trade_163 : decode cX6_trade 163 = .ok (.istore 5, 2) := dbm_194.1.2.1.1
theorem dX6_trade_165 : decode cX6_trade 165 = .ok (.iinc 6 1, 3) := dbm_194.1.2.1.2
theorem dX6_trade_168 : decode cX6_trade 168 = .ok (.goto (-104), 3) := dbm_194.1.2.2.1
theorem dX6_trade_171 : decode cX6_trade 171 = .ok (.iload 4, 2) := dbm_194.1.2.2.2
theorem dX6_trade_173 : decode cX6_trade 173 = .ok (.ireturn, 1) := dbm_194.2.1.1.1
theorem dX6_whoWent_0 : decode cX6_whoWent 0 = .ok (.aload_n 0, 1) := dbm_194.2.1.1.2
theorem dX6_whoWent_1 : decode cX6_whoWent 1 = .ok (.iconst 0, 1) := dbm_194.2.1.2.1
theorem dX6_whoWent_2 : decode cX6_whoWent 2 = .ok (.putfield 79, 3) := dbm_194.2.1.2.2
theorem dX6_whoWent_5 : decode cX6_whoWent 5 = .ok (.aload_n 0, 1) := dbm_194.2.2.1.1
theorem dX6_whoWent_6 : decode cX6_whoWent 6 = .ok (.iload_n 1, 1) := dbm_194.2.2.1.2
theorem dX6_whoWent_7 : decode cX6_whoWent 7 = .ok (.invokevirtual 181, 3) := dbm_194.2.2.2.1
theorem dX6_whoWent_10 : decode cX6_whoWent 10 = .ok (.ifCond .ne 9, 3) := dbm_194.2.2.2.2
theorem dbm_195 : (((((decode cX6_whoWent 13 = .ok (.aload_n 0, 1)) ∧ (decode cX6_whoWent 14 = .ok (.iconst (-1), 1))) ∧ ((decode cX6_whoWent 15 = .ok (.invokevirtual 143, 3)) ∧ (decode cX6_whoWent 18 = .ok (.ireturn, 1)))) ∧ (((decode cX6_whoWent 19 = .ok (.iconst 0, 1)) ∧ (decode cX6_whoWent 20 = .ok (.istore_n 2, 1))) ∧ ((decode cX6_whoWent 21 = .ok (.iconst 0, 1)) ∧ (decode cX6_whoWent 22 = .ok (.istore_n 3, 1))))) ∧ ((((decode cX6_whoWent 23 = .ok (.iload_n 3, 1)) ∧ (decode cX6_whoWent 24 = .ok (.aload_n 0, 1))) ∧ ((decode cX6_whoWent 25 = .ok (.getfield 92, 3)) ∧ (decode cX6_whoWent 28 = .ok (.if_icmp .ge 48, 3)))) ∧ (((decode cX6_whoWent 31 = .ok (.iload_n 2, 1)) ∧ (decode cX6_whoWent 32 = .ok (.aload_n 0, 1))) ∧ ((decode cX6_whoWent 33 = .ok (.getfield 31, 3)) ∧ (decode cX6_whoWent 36 = .ok (.bipush 7, 2)))))) := by decide +kernel
theorem dX6_whoWent_13 : decode cX6_whoWent 13 = .ok (.aload_n 0, 1) := dbm_195.1.1.1.1
theorem dX6_whoWent_14 : decode cX6_whoWent 14 = .ok (.iconst (-1), 1) := dbm_195.1.1.1.2
theorem dX6_whoWent_15 : decode cX6_whoWent 15 = .ok (.invokevirtual 143, 3) := dbm_195.1.1.2.1
theorem dX6_whoWent_18 : decode cX6_whoWent 18 = .ok (.ireturn, 1) := dbm_195.1.1.2.2
theorem dX6_whoWent_19 : decode cX6_whoWent 19 = .ok (.iconst 0, 1) := dbm_195.1.2.1.1
theorem dX6_whoWent_20 : decode cX6_whoWent 20 = .ok (.istore_n 2, 1) := dbm_195.1.2.1.2
theorem dX6_whoWent_21 : decode cX6_whoWent 21 = .ok (.iconst 0, 1) := dbm_195.1.2.2.1
theorem dX6_whoWent_22 : decode cX6_whoWent 22 = .ok (.istore_n 3, 1) := dbm_195.1.2.2.2
theorem dX6_whoWent_23 : decode cX6_whoWent 23 = .ok (.iload_n 3, 1) := dbm_195.2.1.1.1
theorem dX6_whoWent_24 : decode cX6_whoWent 24 = .ok (.aload_n 0, 1) := dbm_195.2.1.1.2
theorem dX6_whoWent_25 : decode cX6_whoWent 25 = .ok (.getfield 92, 3) := dbm_195.2.1.2.1
theorem dX6_whoWent_28 : decode cX6_whoWent 28 = .ok (.if_icmp .ge 48, 3) := dbm_195.2.1.2.2
theorem dX6_whoWent_31 : decode cX6_whoWent 31 = .ok (.iload_n 2, 1) := dbm_195.2.2.1.1
theorem dX6_whoWent_32 : decode cX6_whoWent 32 = .ok (.aload_n 0, 1) := dbm_195.2.2.1.2
theorem dX6_whoWent_33 : decode cX6_whoWent 33 = .ok (.getfield 31, 3) := dbm_195.2.2.2.1
theorem dX6_whoWent_36 : decode cX6_whoWent 36 = .ok (.bipush 7, 2) := dbm_195.2.2.2.2
theorem dbm_196 : (((((decode cX6_whoWent 38 = .ok (.iload_n 3, 1)) ∧ (decode cX6_whoWent 39 = .ok (.imul, 1))) ∧ ((decode cX6_whoWent 40 = .ok (.iload_n 1, 1)) ∧ (decode cX6_whoWent 41 = .ok (.iadd, 1)))) ∧ (((decode cX6_whoWent 42 = .ok (.iaload, 1)) ∧ (decode cX6_whoWent 43 = .ok (.ifCond .le 24, 3))) ∧ ((decode cX6_whoWent 46 = .ok (.aload_n 0, 1)) ∧ (decode cX6_whoWent 47 = .ok (.getfield 22, 3))))) ∧ ((((decode cX6_whoWent 50 = .ok (.iload_n 3, 1)) ∧ (decode cX6_whoWent 51 = .ok (.iaload, 1))) ∧ ((decode cX6_whoWent 52 = .ok (.aload_n 0, 1)) ∧ (decode cX6_whoWent 53 = .ok (.getfield 16, 3)))) ∧ (((decode cX6_whoWent 56 = .ok (.iload_n 1, 1)) ∧ (decode cX6_whoWent 57 = .ok (.iaload, 1))) ∧ ((decode cX6_whoWent 58 = .ok (.if_icmp .ne 9, 3)) ∧ (decode cX6_whoWent 61 = .ok (.iconst 1, 1)))))) := by decide +kernel
theorem dX6_whoWent_38 : decode cX6_whoWent 38 = .ok (.iload_n 3, 1) := dbm_196.1.1.1.1
theorem dX6_whoWent_39 : decode cX6_whoWent 39 = .ok (.imul, 1) := dbm_196.1.1.1.2
theorem dX6_whoWent_40 : decode cX6_whoWent 40 = .ok (.iload_n 1, 1) := dbm_196.1.1.2.1
theorem dX6_whoWent_41 : decode cX6_whoWent 41 = .ok (.iadd, 1) := dbm_196.1.1.2.2
theorem dX6_whoWent_42 : decode cX6_whoWent 42 = .ok (.iaload, 1) := dbm_196.1.2.1.1
theorem dX6_whoWent_43 : decode cX6_whoWent 43 = .ok (.ifCond .le 24, 3) := dbm_196.1.2.1.2
theorem dX6_whoWent_46 : decode cX6_whoWent 46 = .ok (.aload_n 0, 1) := dbm_196.1.2.2.1
theorem dX6_whoWent_47 : decode cX6_whoWent 47 = .ok (.getfield 22, 3) := dbm_196.1.2.2.2
theorem dX6_whoWent_50 : decode cX6_whoWent 50 = .ok (.iload_n 3, 1) := dbm_196.2.1.1.1
theorem dX6_whoWent_51 : decode cX6_whoWent 51 = .ok (.iaload, 1) := dbm_196.2.1.1.2
theorem dX6_whoWent_52 : decode cX6_whoWent 52 = .ok (.aload_n 0, 1) := dbm_196.2.1.2.1
theorem dX6_whoWent_53 : decode cX6_whoWent 53 = .ok (.getfield 16, 3) := dbm_196.2.1.2.2
theorem dX6_whoWent_56 : decode cX6_whoWent 56 = .ok (.iload_n 1, 1) := dbm_196.2.2.1.1
theorem dX6_whoWent_57 : decode cX6_whoWent 57 = .ok (.iaload, 1) := dbm_196.2.2.1.2
theorem dX6_whoWent_58 : decode cX6_whoWent 58 = .ok (.if_icmp .ne 9, 3) := dbm_196.2.2.2.1
theorem dX6_whoWent_61 : decode cX6_whoWent 61 = .ok (.iconst 1, 1) := dbm_196.2.2.2.2
theorem dbm_197 : (((((decode cX6_whoWent 62 = .ok (.iload_n 3, 1)) ∧ (decode cX6_whoWent 63 = .ok (.ishl, 1))) ∧ ((decode cX6_whoWent 64 = .ok (.goto 4, 3)) ∧ (decode cX6_whoWent 67 = .ok (.iconst 0, 1)))) ∧ (((decode cX6_whoWent 68 = .ok (.ior, 1)) ∧ (decode cX6_whoWent 69 = .ok (.istore_n 2, 1))) ∧ ((decode cX6_whoWent 70 = .ok (.iinc 3 1, 3)) ∧ (decode cX6_whoWent 73 = .ok (.goto (-50), 3))))) ∧ ((((decode cX6_whoWent 76 = .ok (.iload_n 2, 1)) ∧ (decode cX6_whoWent 77 = .ok (.ireturn, 1))) ∧ ((decode cX6_spread 0 = .ok (.aload_n 0, 1)) ∧ (decode cX6_spread 1 = .ok (.iconst 0, 1)))) ∧ (((decode cX6_spread 2 = .ok (.putfield 79, 3)) ∧ (decode cX6_spread 5 = .ok (.iload_n 1, 1))) ∧ ((decode cX6_spread 6 = .ok (.i2l, 1)) ∧ (decode cX6_spread 7 = .ok (.lconst 0, 1)))))) := by decide +kernel
theorem dX6_whoWent_62 : decode cX6_whoWent 62 = .ok (.iload_n 3, 1) := dbm_197.1.1.1.1
theorem dX6_whoWent_63 : decode cX6_whoWent 63 = .ok (.ishl, 1) := dbm_197.1.1.1.2
theorem dX6_whoWent_64 : decode cX6_whoWent 64 = .ok (.goto 4, 3) := dbm_197.1.1.2.1
theorem dX6_whoWent_67 : decode cX6_whoWent 67 = .ok (.iconst 0, 1) := dbm_197.1.1.2.2
theorem dX6_whoWent_68 : decode cX6_whoWent 68 = .ok (.ior, 1) := dbm_197.1.2.1.1
theorem dX6_whoWent_69 : decode cX6_whoWent 69 = .ok (.istore_n 2, 1) := dbm_197.1.2.1.2
theorem dX6_whoWent_70 : decode cX6_whoWent 70 = .ok (.iinc 3 1, 3) := dbm_197.1.2.2.1
theorem dX6_whoWent_73 : decode cX6_whoWent 73 = .ok (.goto (-50), 3) := dbm_197.1.2.2.2
theorem dX6_whoWent_76 : decode cX6_whoWent 76 = .ok (.iload_n 2, 1) := dbm_197.2.1.1.1
theorem dX6_whoWent_77 : decode cX6_whoWent 77 = .ok (.ireturn, 1) := dbm_197.2.1.1.2
theorem dX6_spread_0 : decode cX6_spread 0 = .ok (.aload_n 0, 1) := dbm_197.2.1.2.1
theorem dX6_spread_1 : decode cX6_spread 1 = .ok (.iconst 0, 1) := dbm_197.2.1.2.2
theorem dX6_spread_2 : decode cX6_spread 2 = .ok (.putfield 79, 3) := dbm_197.2.2.1.1
theorem dX6_spread_5 : decode cX6_spread 5 = .ok (.iload_n 1, 1) := dbm_197.2.2.1.2
theorem dX6_spread_6 : decode cX6_spread 6 = .ok (.i2l, 1) := dbm_197.2.2.2.1
theorem dX6_spread_7 : decode cX6_spread 7 = .ok (.lconst 0, 1) := dbm_197.2.2.2.2
theorem dbm_198 : (((((decode cX6_spread 8 = .ok (.lconst 1, 1)) ∧ (decode cX6_spread 9 = .ok (.invokestatic 85, 3))) ∧ ((decode cX6_spread 12 = .ok (.ifCond .ne 10, 3)) ∧ (decode cX6_spread 15 = .ok (.aload_n 0, 1)))) ∧ (((decode cX6_spread 16 = .ok (.bipush (-2), 2)) ∧ (decode cX6_spread 18 = .ok (.invokevirtual 143, 3))) ∧ ((decode cX6_spread 21 = .ok (.ireturn, 1)) ∧ (decode cX6_spread 22 = .ok (.iconst 0, 1))))) ∧ ((((decode cX6_spread 23 = .ok (.istore_n 2, 1)) ∧ (decode cX6_spread 24 = .ok (.iconst 0, 1))) ∧ ((decode cX6_spread 25 = .ok (.istore_n 3, 1)) ∧ (decode cX6_spread 26 = .ok (.iload_n 3, 1)))) ∧ (((decode cX6_spread 27 = .ok (.aload_n 0, 1)) ∧ (decode cX6_spread 28 = .ok (.getfield 92, 3))) ∧ ((decode cX6_spread 31 = .ok (.if_icmp .ge 31, 3)) ∧ (decode cX6_spread 34 = .ok (.iload_n 1, 1)))))) := by decide +kernel
theorem dX6_spread_8 : decode cX6_spread 8 = .ok (.lconst 1, 1) := dbm_198.1.1.1.1
theorem dX6_spread_9 : decode cX6_spread 9 = .ok (.invokestatic 85, 3) := dbm_198.1.1.1.2
theorem dX6_spread_12 : decode cX6_spread 12 = .ok (.ifCond .ne 10, 3) := dbm_198.1.1.2.1
theorem dX6_spread_15 : decode cX6_spread 15 = .ok (.aload_n 0, 1) := dbm_198.1.1.2.2
theorem dX6_spread_16 : decode cX6_spread 16 = .ok (.bipush (-2), 2) := dbm_198.1.2.1.1
theorem dX6_spread_18 : decode cX6_spread 18 = .ok (.invokevirtual 143, 3) := dbm_198.1.2.1.2
theorem dX6_spread_21 : decode cX6_spread 21 = .ok (.ireturn, 1) := dbm_198.1.2.2.1
theorem dX6_spread_22 : decode cX6_spread 22 = .ok (.iconst 0, 1) := dbm_198.1.2.2.2
theorem dX6_spread_23 : decode cX6_spread 23 = .ok (.istore_n 2, 1) := dbm_198.2.1.1.1
theorem dX6_spread_24 : decode cX6_spread 24 = .ok (.iconst 0, 1) := dbm_198.2.1.1.2
theorem dX6_spread_25 : decode cX6_spread 25 = .ok (.istore_n 3, 1) := dbm_198.2.1.2.1
theorem dX6_spread_26 : decode cX6_spread 26 = .ok (.iload_n 3, 1) := dbm_198.2.1.2.2
theorem dX6_spread_27 : decode cX6_spread 27 = .ok (.aload_n 0, 1) := dbm_198.2.2.1.1
theorem dX6_spread_28 : decode cX6_spread 28 = .ok (.getfield 92, 3) := dbm_198.2.2.1.2
theorem dX6_spread_31 : decode cX6_spread 31 = .ok (.if_icmp .ge 31, 3) := dbm_198.2.2.2.1
theorem dX6_spread_34 : decode cX6_spread 34 = .ok (.iload_n 1, 1) := dbm_198.2.2.2.2
theorem dbm_199 : (((((decode cX6_spread 35 = .ok (.ifCond .ne 27, 3)) ∧ (decode cX6_spread 38 = .ok (.iload_n 2, 1))) ∧ ((decode cX6_spread 39 = .ok (.aload_n 0, 1)) ∧ (decode cX6_spread 40 = .ok (.iload_n 3, 1)))) ∧ (((decode cX6_spread 41 = .ok (.invokevirtual 116, 3)) ∧ (decode cX6_spread 44 = .ok (.ifCond .ne 9, 3))) ∧ ((decode cX6_spread 47 = .ok (.iconst 1, 1)) ∧ (decode cX6_spread 48 = .ok (.iload_n 3, 1))))) ∧ ((((decode cX6_spread 49 = .ok (.ishl, 1)) ∧ (decode cX6_spread 50 = .ok (.goto 4, 3))) ∧ ((decode cX6_spread 53 = .ok (.iconst 0, 1)) ∧ (decode cX6_spread 54 = .ok (.ior, 1)))) ∧ (((decode cX6_spread 55 = .ok (.istore_n 2, 1)) ∧ (decode cX6_spread 56 = .ok (.iinc 3 1, 3))) ∧ ((decode cX6_spread 59 = .ok (.goto (-33), 3)) ∧ (decode cX6_spread 62 = .ok (.iconst 0, 1)))))) := by decide +kernel
theorem dX6_spread_35 : decode cX6_spread 35 = .ok (.ifCond .ne 27, 3) := dbm_199.1.1.1.1
theorem dX6_spread_38 : decode cX6_spread 38 = .ok (.iload_n 2, 1) := dbm_199.1.1.1.2
theorem dX6_spread_39 : decode cX6_spread 39 = .ok (.aload_n 0, 1) := dbm_199.1.1.2.1
theorem dX6_spread_40 : decode cX6_spread 40 = .ok (.iload_n 3, 1) := dbm_199.1.1.2.2
theorem dX6_spread_41 : decode cX6_spread 41 = .ok (.invokevirtual 116, 3) := dbm_199.1.2.1.1
theorem dX6_spread_44 : decode cX6_spread 44 = .ok (.ifCond .ne 9, 3) := dbm_199.1.2.1.2
theorem dX6_spread_47 : decode cX6_spread 47 = .ok (.iconst 1, 1) := dbm_199.1.2.2.1
theorem dX6_spread_48 : decode cX6_spread 48 = .ok (.iload_n 3, 1) := dbm_199.1.2.2.2
theorem dX6_spread_49 : decode cX6_spread 49 = .ok (.ishl, 1) := dbm_199.2.1.1.1
theorem dX6_spread_50 : decode cX6_spread 50 = .ok (.goto 4, 3) := dbm_199.2.1.1.2
theorem dX6_spread_53 : decode cX6_spread 53 = .ok (.iconst 0, 1) := dbm_199.2.1.2.1
theorem dX6_spread_54 : decode cX6_spread 54 = .ok (.ior, 1) := dbm_199.2.1.2.2
theorem dX6_spread_55 : decode cX6_spread 55 = .ok (.istore_n 2, 1) := dbm_199.2.2.1.1
theorem dX6_spread_56 : decode cX6_spread 56 = .ok (.iinc 3 1, 3) := dbm_199.2.2.1.2
theorem dX6_spread_59 : decode cX6_spread 59 = .ok (.goto (-33), 3) := dbm_199.2.2.2.1
theorem dX6_spread_62 : decode cX6_spread 62 = .ok (.iconst 0, 1) := dbm_199.2.2.2.2
theorem dbm_200 : (((((decode cX6_spread 63 = .ok (.istore_n 3, 1)) ∧ (decode cX6_spread 64 = .ok (.iload_n 3, 1))) ∧ ((decode cX6_spread 65 = .ok (.aload_n 0, 1)) ∧ (decode cX6_spread 66 = .ok (.getfield 89, 3)))) ∧ (((decode cX6_spread 69 = .ok (.if_icmp .ge 36, 3)) ∧ (decode cX6_spread 72 = .ok (.iload_n 1, 1))) ∧ ((decode cX6_spread 73 = .ok (.iconst 1, 1)) ∧ (decode cX6_spread 74 = .ok (.if_icmp .ne 31, 3))))) ∧ ((((decode cX6_spread 77 = .ok (.iload_n 2, 1)) ∧ (decode cX6_spread 78 = .ok (.aload_n 0, 1))) ∧ ((decode cX6_spread 79 = .ok (.iload_n 3, 1)) ∧ (decode cX6_spread 80 = .ok (.invokevirtual 229, 3)))) ∧ (((decode cX6_spread 83 = .ok (.invokestatic 119, 3)) ∧ (decode cX6_spread 86 = .ok (.iconst 1, 1))) ∧ ((decode cX6_spread 87 = .ok (.if_icmp .ne 9, 3)) ∧ (decode cX6_spread 90 = .ok (.iconst 1, 1)))))) := by decide +kernel
theorem dX6_spread_63 : decode cX6_spread 63 = .ok (.istore_n 3, 1) := dbm_200.1.1.1.1
theorem dX6_spread_64 : decode cX6_spread 64 = .ok (.iload_n 3, 1) := dbm_200.1.1.1.2
theorem dX6_spread_65 : decode cX6_spread 65 = .ok (.aload_n 0, 1) := dbm_200.1.1.2.1
theorem dX6_spread_66 : decode cX6_spread 66 = .ok (.getfield 89, 3) := dbm_200.1.1.2.2
theorem dX6_spread_69 : decode cX6_spread 69 = .ok (.if_icmp .ge 36, 3) := dbm_200.1.2.1.1
theorem dX6_spread_72 : decode cX6_spread 72 = .ok (.iload_n 1, 1) := dbm_200.1.2.1.2
theorem dX6_spread_73 : decode cX6_spread 73 = .ok (.iconst 1, 1) := dbm_200.1.2.2.1
theorem dX6_spread_74 : decode cX6_spread 74 = .ok (.if_icmp .ne 31, 3) := dbm_200.1.2.2.2
theorem dX6_spread_77 : decode cX6_spread 77 = .ok (.iload_n 2, 1) := dbm_200.2.1.1.1
theorem dX6_spread_78 : decode cX6_spread 78 = .ok (.aload_n 0, 1) := dbm_200.2.1.1.2
theorem dX6_spread_79 : decode cX6_spread 79 = .ok (.iload_n 3, 1) := dbm_200.2.1.2.1
theorem dX6_spread_80 : decode cX6_spread 80 = .ok (.invokevirtual 229, 3) := dbm_200.2.1.2.2
theorem dX6_spread_83 : decode cX6_spread 83 = .ok (.invokestatic 119, 3) := dbm_200.2.2.1.1
theorem dX6_spread_86 : decode cX6_spread 86 = .ok (.iconst 1, 1) := dbm_200.2.2.1.2
theorem dX6_spread_87 : decode cX6_spread 87 = .ok (.if_icmp .ne 9, 3) := dbm_200.2.2.2.1
theorem dX6_spread_90 : decode cX6_spread 90 = .ok (.iconst 1, 1) := dbm_200.2.2.2.2
theorem dbm_201 : (((((decode cX6_spread 91 = .ok (.iload_n 3, 1)) ∧ (decode cX6_spread 92 = .ok (.ishl, 1))) ∧ ((decode cX6_spread 93 = .ok (.goto 4, 3)) ∧ (decode cX6_spread 96 = .ok (.iconst 0, 1)))) ∧ (((decode cX6_spread 97 = .ok (.ior, 1)) ∧ (decode cX6_spread 98 = .ok (.istore_n 2, 1))) ∧ ((decode cX6_spread 99 = .ok (.iinc 3 1, 3)) ∧ (decode cX6_spread 102 = .ok (.goto (-38), 3))))) ∧ ((((decode cX6_spread 105 = .ok (.iload_n 2, 1)) ∧ (decode cX6_spread 106 = .ok (.ireturn, 1))) ∧ ((decode cX6_isRow 0 = .ok (.iconst 1, 1)) ∧ (decode cX6_isRow 1 = .ok (.istore_n 3, 1)))) ∧ (((decode cX6_isRow 2 = .ok (.iconst 0, 1)) ∧ (decode cX6_isRow 3 = .ok (.istore 4, 2))) ∧ ((decode cX6_isRow 5 = .ok (.iload 4, 2)) ∧ (decode cX6_isRow 7 = .ok (.aload_n 0, 1)))))) := by decide +kernel
theorem dX6_spread_91 : decode cX6_spread 91 = .ok (.iload_n 3, 1) := dbm_201.1.1.1.1
theorem dX6_spread_92 : decode cX6_spread 92 = .ok (.ishl, 1) := dbm_201.1.1.1.2
theorem dX6_spread_93 : decode cX6_spread 93 = .ok (.goto 4, 3) := dbm_201.1.1.2.1
theorem dX6_spread_96 : decode cX6_spread 96 = .ok (.iconst 0, 1) := dbm_201.1.1.2.2
theorem dX6_spread_97 : decode cX6_spread 97 = .ok (.ior, 1) := dbm_201.1.2.1.1
theorem dX6_spread_98 : decode cX6_spread 98 = .ok (.istore_n 2, 1) := dbm_201.1.2.1.2
theorem dX6_spread_99 : decode cX6_spread 99 = .ok (.iinc 3 1, 3) := dbm_201.1.2.2.1
theorem dX6_spread_102 : decode cX6_spread 102 = .ok (.goto (-38), 3) := dbm_201.1.2.2.2
theorem dX6_spread_105 : decode cX6_spread 105 = .ok (.iload_n 2, 1) := dbm_201.2.1.1.1
theorem dX6_spread_106 : decode cX6_spread 106 = .ok (.ireturn, 1) := dbm_201.2.1.1.2
theorem dX6_isRow_0 : decode cX6_isRow 0 = .ok (.iconst 1, 1) := dbm_201.2.1.2.1
theorem dX6_isRow_1 : decode cX6_isRow 1 = .ok (.istore_n 3, 1) := dbm_201.2.1.2.2
theorem dX6_isRow_2 : decode cX6_isRow 2 = .ok (.iconst 0, 1) := dbm_201.2.2.1.1
theorem dX6_isRow_3 : decode cX6_isRow 3 = .ok (.istore 4, 2) := dbm_201.2.2.1.2
theorem dX6_isRow_5 : decode cX6_isRow 5 = .ok (.iload 4, 2) := dbm_201.2.2.2.1
theorem dX6_isRow_7 : decode cX6_isRow 7 = .ok (.aload_n 0, 1) := dbm_201.2.2.2.2
theorem dbm_202 : (((((decode cX6_isRow 8 = .ok (.getfield 275, 3)) ∧ (decode cX6_isRow 11 = .ok (.if_icmp .ge 61, 3))) ∧ ((decode cX6_isRow 14 = .ok (.iload_n 3, 1)) ∧ (decode cX6_isRow 15 = .ok (.ifCond .eq 57, 3)))) ∧ (((decode cX6_isRow 18 = .ok (.aload_n 0, 1)) ∧ (decode cX6_isRow 19 = .ok (.getfield 31, 3))) ∧ ((decode cX6_isRow 22 = .ok (.bipush 7, 2)) ∧ (decode cX6_isRow 24 = .ok (.iload_n 1, 1))))) ∧ ((((decode cX6_isRow 25 = .ok (.imul, 1)) ∧ (decode cX6_isRow 26 = .ok (.iload_n 2, 1))) ∧ ((decode cX6_isRow 27 = .ok (.iadd, 1)) ∧ (decode cX6_isRow 28 = .ok (.iaload, 1)))) ∧ (((decode cX6_isRow 29 = .ok (.istore 5, 2)) ∧ (decode cX6_isRow 31 = .ok (.aload_n 0, 1))) ∧ ((decode cX6_isRow 32 = .ok (.getfield 73, 3)) ∧ (decode cX6_isRow 35 = .ok (.iload 4, 2)))))) := by decide +kernel
theorem dX6_isRow_8 : decode cX6_isRow 8 = .ok (.getfield 275, 3) := dbm_202.1.1.1.1
theorem dX6_isRow_11 : decode cX6_isRow 11 = .ok (.if_icmp .ge 61, 3) := dbm_202.1.1.1.2
theorem dX6_isRow_14 : decode cX6_isRow 14 = .ok (.iload_n 3, 1) := dbm_202.1.1.2.1
theorem dX6_isRow_15 : decode cX6_isRow 15 = .ok (.ifCond .eq 57, 3) := dbm_202.1.1.2.2
theorem dX6_isRow_18 : decode cX6_isRow 18 = .ok (.aload_n 0, 1) := dbm_202.1.2.1.1
theorem dX6_isRow_19 : decode cX6_isRow 19 = .ok (.getfield 31, 3) := dbm_202.1.2.1.2
theorem dX6_isRow_22 : decode cX6_isRow 22 = .ok (.bipush 7, 2) := dbm_202.1.2.2.1
theorem dX6_isRow_24 : decode cX6_isRow 24 = .ok (.iload_n 1, 1) := dbm_202.1.2.2.2
theorem dX6_isRow_25 : decode cX6_isRow 25 = .ok (.imul, 1) := dbm_202.2.1.1.1
theorem dX6_isRow_26 : decode cX6_isRow 26 = .ok (.iload_n 2, 1) := dbm_202.2.1.1.2
theorem dX6_isRow_27 : decode cX6_isRow 27 = .ok (.iadd, 1) := dbm_202.2.1.2.1
theorem dX6_isRow_28 : decode cX6_isRow 28 = .ok (.iaload, 1) := dbm_202.2.1.2.2
theorem dX6_isRow_29 : decode cX6_isRow 29 = .ok (.istore 5, 2) := dbm_202.2.2.1.1
theorem dX6_isRow_31 : decode cX6_isRow 31 = .ok (.aload_n 0, 1) := dbm_202.2.2.1.2
theorem dX6_isRow_32 : decode cX6_isRow 32 = .ok (.getfield 73, 3) := dbm_202.2.2.2.1
theorem dX6_isRow_35 : decode cX6_isRow 35 = .ok (.iload 4, 2) := dbm_202.2.2.2.2
theorem dbm_203 : (((((decode cX6_isRow 37 = .ok (.iaload, 1)) ∧ (decode cX6_isRow 38 = .ok (.iload 5, 2))) ∧ ((decode cX6_isRow 40 = .ok (.ifCond .ne 8, 3)) ∧ (decode cX6_isRow 43 = .ok (.bipush 99, 2)))) ∧ (((decode cX6_isRow 45 = .ok (.goto 7, 3)) ∧ (decode cX6_isRow 48 = .ok (.iload 5, 2))) ∧ ((decode cX6_isRow 50 = .ok (.iconst 1, 1)) ∧ (decode cX6_isRow 51 = .ok (.isub, 1))))) ∧ ((((decode cX6_isRow 52 = .ok (.if_icmp .ne 7, 3)) ∧ (decode cX6_isRow 55 = .ok (.iconst 1, 1))) ∧ ((decode cX6_isRow 56 = .ok (.goto 4, 3)) ∧ (decode cX6_isRow 59 = .ok (.iconst 0, 1)))) ∧ (((decode cX6_isRow 60 = .ok (.istore_n 3, 1)) ∧ (decode cX6_isRow 61 = .ok (.aload_n 0, 1))) ∧ ((decode cX6_isRow 62 = .ok (.iconst 0, 1)) ∧ (decode cX6_isRow 63 = .ok (.invokevirtual 135, 3)))))) := by decide +kernel
theorem dX6_isRow_37 : decode cX6_isRow 37 = .ok (.iaload, 1) := dbm_203.1.1.1.1
theorem dX6_isRow_38 : decode cX6_isRow 38 = .ok (.iload 5, 2) := dbm_203.1.1.1.2
theorem dX6_isRow_40 : decode cX6_isRow 40 = .ok (.ifCond .ne 8, 3) := dbm_203.1.1.2.1
theorem dX6_isRow_43 : decode cX6_isRow 43 = .ok (.bipush 99, 2) := dbm_203.1.1.2.2
theorem dX6_isRow_45 : decode cX6_isRow 45 = .ok (.goto 7, 3) := dbm_203.1.2.1.1
theorem dX6_isRow_48 : decode cX6_isRow 48 = .ok (.iload 5, 2) := dbm_203.1.2.1.2
theorem dX6_isRow_50 : decode cX6_isRow 50 = .ok (.iconst 1, 1) := dbm_203.1.2.2.1
theorem dX6_isRow_51 : decode cX6_isRow 51 = .ok (.isub, 1) := dbm_203.1.2.2.2
theorem dX6_isRow_52 : decode cX6_isRow 52 = .ok (.if_icmp .ne 7, 3) := dbm_203.2.1.1.1
theorem dX6_isRow_55 : decode cX6_isRow 55 = .ok (.iconst 1, 1) := dbm_203.2.1.1.2
theorem dX6_isRow_56 : decode cX6_isRow 56 = .ok (.goto 4, 3) := dbm_203.2.1.2.1
theorem dX6_isRow_59 : decode cX6_isRow 59 = .ok (.iconst 0, 1) := dbm_203.2.1.2.2
theorem dX6_isRow_60 : decode cX6_isRow 60 = .ok (.istore_n 3, 1) := dbm_203.2.2.1.1
theorem dX6_isRow_61 : decode cX6_isRow 61 = .ok (.aload_n 0, 1) := dbm_203.2.2.1.2
theorem dX6_isRow_62 : decode cX6_isRow 62 = .ok (.iconst 0, 1) := dbm_203.2.2.2.1
theorem dX6_isRow_63 : decode cX6_isRow 63 = .ok (.invokevirtual 135, 3) := dbm_203.2.2.2.2
theorem dbm_204 : (((((decode cX6_isRow 66 = .ok (.iinc 4 1, 3)) ∧ (decode cX6_isRow 69 = .ok (.goto (-64), 3))) ∧ ((decode cX6_isRow 72 = .ok (.aload_n 0, 1)) ∧ (decode cX6_isRow 73 = .ok (.invokevirtual 202, 3)))) ∧ (((decode cX6_isRow 76 = .ok (.iload_n 3, 1)) ∧ (decode cX6_isRow 77 = .ok (.ireturn, 1))) ∧ ((decode cX6_whatKind 0 = .ok (.aload_n 0, 1)) ∧ (decode cX6_whatKind 1 = .ok (.iconst 0, 1))))) ∧ ((((decode cX6_whatKind 2 = .ok (.putfield 79, 3)) ∧ (decode cX6_whatKind 5 = .ok (.aload_n 0, 1))) ∧ ((decode cX6_whatKind 6 = .ok (.iload_n 1, 1)) ∧ (decode cX6_whatKind 7 = .ok (.iload_n 2, 1)))) ∧ (((decode cX6_whatKind 8 = .ok (.invokevirtual 237, 3)) ∧ (decode cX6_whatKind 11 = .ok (.iload_n 3, 1))) ∧ ((decode cX6_whatKind 12 = .ok (.iconst 1, 1)) ∧ (decode cX6_whatKind 13 = .ok (.invokestatic 250, 3)))))) := by decide +kernel
theorem dX6_isRow_66 : decode cX6_isRow 66 = .ok (.iinc 4 1, 3) := dbm_204.1.1.1.1
theorem dX6_isRow_69 : decode cX6_isRow 69 = .ok (.goto (-64), 3) := dbm_204.1.1.1.2
theorem dX6_isRow_72 : decode cX6_isRow 72 = .ok (.aload_n 0, 1) := dbm_204.1.1.2.1
theorem dX6_isRow_73 : decode cX6_isRow 73 = .ok (.invokevirtual 202, 3) := dbm_204.1.1.2.2
theorem dX6_isRow_76 : decode cX6_isRow 76 = .ok (.iload_n 3, 1) := dbm_204.1.2.1.1
theorem dX6_isRow_77 : decode cX6_isRow 77 = .ok (.ireturn, 1) := dbm_204.1.2.1.2
theorem dX6_whatKind_0 : decode cX6_whatKind 0 = .ok (.aload_n 0, 1) := dbm_204.1.2.2.1
theorem dX6_whatKind_1 : decode cX6_whatKind 1 = .ok (.iconst 0, 1) := dbm_204.1.2.2.2
theorem dX6_whatKind_2 : decode cX6_whatKind 2 = .ok (.putfield 79, 3) := dbm_204.2.1.1.1
theorem dX6_whatKind_5 : decode cX6_whatKind 5 = .ok (.aload_n 0, 1) := dbm_204.2.1.1.2
theorem dX6_whatKind_6 : decode cX6_whatKind 6 = .ok (.iload_n 1, 1) := dbm_204.2.1.2.1
theorem dX6_whatKind_7 : decode cX6_whatKind 7 = .ok (.iload_n 2, 1) := dbm_204.2.1.2.2
theorem dX6_whatKind_8 : decode cX6_whatKind 8 = .ok (.invokevirtual 237, 3) := dbm_204.2.2.1.1
theorem dX6_whatKind_11 : decode cX6_whatKind 11 = .ok (.iload_n 3, 1) := dbm_204.2.2.1.2
theorem dX6_whatKind_12 : decode cX6_whatKind 12 = .ok (.iconst 1, 1) := dbm_204.2.2.2.1
theorem dX6_whatKind_13 : decode cX6_whatKind 13 = .ok (.invokestatic 250, 3) := dbm_204.2.2.2.2
theorem dbm_205 : (((((decode cX6_whatKind 16 = .ok (.istore 4, 2)) ∧ (decode cX6_whatKind 18 = .ok (.iload 4, 2))) ∧ ((decode cX6_whatKind 20 = .ok (.ifCond .ge 10, 3)) ∧ (decode cX6_whatKind 23 = .ok (.aload_n 0, 1)))) ∧ (((decode cX6_whatKind 24 = .ok (.iload 4, 2)) ∧ (decode cX6_whatKind 26 = .ok (.invokevirtual 143, 3))) ∧ ((decode cX6_whatKind 29 = .ok (.ireturn, 1)) ∧ (decode cX6_whatKind 30 = .ok (.iconst 0, 1))))) ∧ ((((decode cX6_whatKind 31 = .ok (.istore 5, 2)) ∧ (decode cX6_whatKind 33 = .ok (.aload_n 0, 1))) ∧ ((decode cX6_whatKind 34 = .ok (.invokevirtual 196, 3)) ∧ (decode cX6_whatKind 37 = .ok (.iconst 0, 1)))) ∧ (((decode cX6_whatKind 38 = .ok (.istore 6, 2)) ∧ (decode cX6_whatKind 40 = .ok (.iload 6, 2))) ∧ ((decode cX6_whatKind 42 = .ok (.iload_n 3, 1)) ∧ (decode cX6_whatKind 43 = .ok (.ifCond .ne 8, 3)))))) := by decide +kernel
theorem dX6_whatKind_16 : decode cX6_whatKind 16 = .ok (.istore 4, 2) := dbm_205.1.1.1.1
theorem dX6_whatKind_18 : decode cX6_whatKind 18 = .ok (.iload 4, 2) := dbm_205.1.1.1.2
theorem dX6_whatKind_20 : decode cX6_whatKind 20 = .ok (.ifCond .ge 10, 3) := dbm_205.1.1.2.1
theorem dX6_whatKind_23 : decode cX6_whatKind 23 = .ok (.aload_n 0, 1) := dbm_205.1.1.2.2
theorem dX6_whatKind_24 : decode cX6_whatKind 24 = .ok (.iload 4, 2) := dbm_205.1.2.1.1
theorem dX6_whatKind_26 : decode cX6_whatKind 26 = .ok (.invokevirtual 143, 3) := dbm_205.1.2.1.2
theorem dX6_whatKind_29 : decode cX6_whatKind 29 = .ok (.ireturn, 1) := dbm_205.1.2.2.1
theorem dX6_whatKind_30 : decode cX6_whatKind 30 = .ok (.iconst 0, 1) := dbm_205.1.2.2.2
theorem dX6_whatKind_31 : decode cX6_whatKind 31 = .ok (.istore 5, 2) := dbm_205.2.1.1.1
theorem dX6_whatKind_33 : decode cX6_whatKind 33 = .ok (.aload_n 0, 1) := dbm_205.2.1.1.2
theorem dX6_whatKind_34 : decode cX6_whatKind 34 = .ok (.invokevirtual 196, 3) := dbm_205.2.1.2.1
theorem dX6_whatKind_37 : decode cX6_whatKind 37 = .ok (.iconst 0, 1) := dbm_205.2.1.2.2
theorem dX6_whatKind_38 : decode cX6_whatKind 38 = .ok (.istore 6, 2) := dbm_205.2.2.1.1
theorem dX6_whatKind_40 : decode cX6_whatKind 40 = .ok (.iload 6, 2) := dbm_205.2.2.1.2
theorem dX6_whatKind_42 : decode cX6_whatKind 42 = .ok (.iload_n 3, 1) := dbm_205.2.2.2.1
theorem dX6_whatKind_43 : decode cX6_whatKind 43 = .ok (.ifCond .ne 8, 3) := dbm_205.2.2.2.2
theorem dbm_206 : (((((decode cX6_whatKind 46 = .ok (.bipush 6, 2)) ∧ (decode cX6_whatKind 48 = .ok (.goto 5, 3))) ∧ ((decode cX6_whatKind 51 = .ok (.bipush 10, 2)) ∧ (decode cX6_whatKind 53 = .ok (.if_icmp .ge 74, 3)))) ∧ (((decode cX6_whatKind 56 = .ok (.aload_n 0, 1)) ∧ (decode cX6_whatKind 57 = .ok (.getfield 7, 3))) ∧ ((decode cX6_whatKind 60 = .ok (.iload_n 2, 1)) ∧ (decode cX6_whatKind 61 = .ok (.iload_n 3, 1))))) ∧ ((((decode cX6_whatKind 62 = .ok (.ifCond .ne 8, 3)) ∧ (decode cX6_whatKind 65 = .ok (.iload 6, 2))) ∧ ((decode cX6_whatKind 67 = .ok (.goto 9, 3)) ∧ (decode cX6_whatKind 70 = .ok (.aload_n 0, 1)))) ∧ (((decode cX6_whatKind 71 = .ok (.getfield 7, 3)) ∧ (decode cX6_whatKind 74 = .ok (.iload_n 2, 1))) ∧ ((decode cX6_whatKind 75 = .ok (.iaload, 1)) ∧ (decode cX6_whatKind 76 = .ok (.iastore, 1)))))) := by decide +kernel
theorem dX6_whatKind_46 : decode cX6_whatKind 46 = .ok (.bipush 6, 2) := dbm_206.1.1.1.1
theorem dX6_whatKind_48 : decode cX6_whatKind 48 = .ok (.goto 5, 3) := dbm_206.1.1.1.2
theorem dX6_whatKind_51 : decode cX6_whatKind 51 = .ok (.bipush 10, 2) := dbm_206.1.1.2.1
theorem dX6_whatKind_53 : decode cX6_whatKind 53 = .ok (.if_icmp .ge 74, 3) := dbm_206.1.1.2.2
theorem dX6_whatKind_56 : decode cX6_whatKind 56 = .ok (.aload_n 0, 1) := dbm_206.1.2.1.1
theorem dX6_whatKind_57 : decode cX6_whatKind 57 = .ok (.getfield 7, 3) := dbm_206.1.2.1.2
theorem dX6_whatKind_60 : decode cX6_whatKind 60 = .ok (.iload_n 2, 1) := dbm_206.1.2.2.1
theorem dX6_whatKind_61 : decode cX6_whatKind 61 = .ok (.iload_n 3, 1) := dbm_206.1.2.2.2
theorem dX6_whatKind_62 : decode cX6_whatKind 62 = .ok (.ifCond .ne 8, 3) := dbm_206.2.1.1.1
theorem dX6_whatKind_65 : decode cX6_whatKind 65 = .ok (.iload 6, 2) := dbm_206.2.1.1.2
theorem dX6_whatKind_67 : decode cX6_whatKind 67 = .ok (.goto 9, 3) := dbm_206.2.1.2.1
theorem dX6_whatKind_70 : decode cX6_whatKind 70 = .ok (.aload_n 0, 1) := dbm_206.2.1.2.2
theorem dX6_whatKind_71 : decode cX6_whatKind 71 = .ok (.getfield 7, 3) := dbm_206.2.2.1.1
theorem dX6_whatKind_74 : decode cX6_whatKind 74 = .ok (.iload_n 2, 1) := dbm_206.2.2.1.2
theorem dX6_whatKind_75 : decode cX6_whatKind 75 = .ok (.iaload, 1) := dbm_206.2.2.2.1
theorem dX6_whatKind_76 : decode cX6_whatKind 76 = .ok (.iastore, 1) := dbm_206.2.2.2.2
theorem dbm_207 : (((((decode cX6_whatKind 77 = .ok (.aload_n 0, 1)) ∧ (decode cX6_whatKind 78 = .ok (.getfield 13, 3))) ∧ ((decode cX6_whatKind 81 = .ok (.iload_n 2, 1)) ∧ (decode cX6_whatKind 82 = .ok (.iload_n 3, 1)))) ∧ (((decode cX6_whatKind 83 = .ok (.iconst 1, 1)) ∧ (decode cX6_whatKind 84 = .ok (.if_icmp .ne 8, 3))) ∧ ((decode cX6_whatKind 87 = .ok (.iload 6, 2)) ∧ (decode cX6_whatKind 89 = .ok (.goto 9, 3))))) ∧ ((((decode cX6_whatKind 92 = .ok (.aload_n 0, 1)) ∧ (decode cX6_whatKind 93 = .ok (.getfield 13, 3))) ∧ ((decode cX6_whatKind 96 = .ok (.iload_n 2, 1)) ∧ (decode cX6_whatKind 97 = .ok (.iaload, 1)))) ∧ (((decode cX6_whatKind 98 = .ok (.iastore, 1)) ∧ (decode cX6_whatKind 99 = .ok (.iload 5, 2))) ∧ ((decode cX6_whatKind 101 = .ok (.aload_n 0, 1)) ∧ (decode cX6_whatKind 102 = .ok (.iload_n 1, 1)))))) := by decide +kernel
theorem dX6_whatKind_77 : decode cX6_whatKind 77 = .ok (.aload_n 0, 1) := dbm_207.1.1.1.1
theorem dX6_whatKind_78 : decode cX6_whatKind 78 = .ok (.getfield 13, 3) := dbm_207.1.1.1.2
theorem dX6_whatKind_81 : decode cX6_whatKind 81 = .ok (.iload_n 2, 1) := dbm_207.1.1.2.1
theorem dX6_whatKind_82 : decode cX6_whatKind 82 = .ok (.iload_n 3, 1) := dbm_207.1.1.2.2
theorem dX6_whatKind_83 : decode cX6_whatKind 83 = .ok (.iconst 1, 1) := dbm_207.1.2.1.1
theorem dX6_whatKind_84 : decode cX6_whatKind 84 = .ok (.if_icmp .ne 8, 3) := dbm_207.1.2.1.2
theorem dX6_whatKind_87 : decode cX6_whatKind 87 = .ok (.iload 6, 2) := dbm_207.1.2.2.1
theorem dX6_whatKind_89 : decode cX6_whatKind 89 = .ok (.goto 9, 3) := dbm_207.1.2.2.2
theorem dX6_whatKind_92 : decode cX6_whatKind 92 = .ok (.aload_n 0, 1) := dbm_207.2.1.1.1
theorem dX6_whatKind_93 : decode cX6_whatKind 93 = .ok (.getfield 13, 3) := dbm_207.2.1.1.2
theorem dX6_whatKind_96 : decode cX6_whatKind 96 = .ok (.iload_n 2, 1) := dbm_207.2.1.2.1
theorem dX6_whatKind_97 : decode cX6_whatKind 97 = .ok (.iaload, 1) := dbm_207.2.1.2.2
theorem dX6_whatKind_98 : decode cX6_whatKind 98 = .ok (.iastore, 1) := dbm_207.2.2.1.1
theorem dX6_whatKind_99 : decode cX6_whatKind 99 = .ok (.iload 5, 2) := dbm_207.2.2.1.2
theorem dX6_whatKind_101 : decode cX6_whatKind 101 = .ok (.aload_n 0, 1) := dbm_207.2.2.2.1
theorem dX6_whatKind_102 : decode cX6_whatKind 102 = .ok (.iload_n 1, 1) := dbm_207.2.2.2.2
theorem dbm_208 : (((((decode cX6_whatKind 103 = .ok (.iload_n 2, 1)) ∧ (decode cX6_whatKind 104 = .ok (.invokevirtual 278, 3))) ∧ ((decode cX6_whatKind 107 = .ok (.ifCond .eq 10, 3)) ∧ (decode cX6_whatKind 110 = .ok (.iconst 1, 1)))) ∧ (((decode cX6_whatKind 111 = .ok (.iload 6, 2)) ∧ (decode cX6_whatKind 113 = .ok (.ishl, 1))) ∧ ((decode cX6_whatKind 114 = .ok (.goto 4, 3)) ∧ (decode cX6_whatKind 117 = .ok (.iconst 0, 1))))) ∧ ((((decode cX6_whatKind 118 = .ok (.ior, 1)) ∧ (decode cX6_whatKind 119 = .ok (.istore 5, 2))) ∧ ((decode cX6_whatKind 121 = .ok (.iinc 6 1, 3)) ∧ (decode cX6_whatKind 124 = .ok (.goto (-84), 3)))) ∧ (((decode cX6_whatKind 127 = .ok (.iload 5, 2)) ∧ (decode cX6_whatKind 129 = .ok (.ireturn, 1))) ∧ ((decode cX6_two 0 = .ok (.aload_n 0, 1)) ∧ (decode cX6_two 1 = .ok (.iconst 0, 1)))))) := by decide +kernel
theorem dX6_whatKind_103 : decode cX6_whatKind 103 = .ok (.iload_n 2, 1) := dbm_208.1.1.1.1
theorem dX6_whatKind_104 : decode cX6_whatKind 104 = .ok (.invokevirtual 278, 3) := dbm_208.1.1.1.2
theorem dX6_whatKind_107 : decode cX6_whatKind 107 = .ok (.ifCond .eq 10, 3) := dbm_208.1.1.2.1
theorem dX6_whatKind_110 : decode cX6_whatKind 110 = .ok (.iconst 1, 1) := dbm_208.1.1.2.2
theorem dX6_whatKind_111 : decode cX6_whatKind 111 = .ok (.iload 6, 2) := dbm_208.1.2.1.1
theorem dX6_whatKind_113 : decode cX6_whatKind 113 = .ok (.ishl, 1) := dbm_208.1.2.1.2
theorem dX6_whatKind_114 : decode cX6_whatKind 114 = .ok (.goto 4, 3) := dbm_208.1.2.2.1
theorem dX6_whatKind_117 : decode cX6_whatKind 117 = .ok (.iconst 0, 1) := dbm_208.1.2.2.2
theorem dX6_whatKind_118 : decode cX6_whatKind 118 = .ok (.ior, 1) := dbm_208.2.1.1.1
theorem dX6_whatKind_119 : decode cX6_whatKind 119 = .ok (.istore 5, 2) := dbm_208.2.1.1.2
theorem dX6_whatKind_121 : decode cX6_whatKind 121 = .ok (.iinc 6 1, 3) := dbm_208.2.1.2.1
theorem dX6_whatKind_124 : decode cX6_whatKind 124 = .ok (.goto (-84), 3) := dbm_208.2.1.2.2
theorem dX6_whatKind_127 : decode cX6_whatKind 127 = .ok (.iload 5, 2) := dbm_208.2.2.1.1
theorem dX6_whatKind_129 : decode cX6_whatKind 129 = .ok (.ireturn, 1) := dbm_208.2.2.1.2
theorem dX6_two_0 : decode cX6_two 0 = .ok (.aload_n 0, 1) := dbm_208.2.2.2.1
theorem dX6_two_1 : decode cX6_two 1 = .ok (.iconst 0, 1) := dbm_208.2.2.2.2
theorem dbm_209 : (((((decode cX6_two 2 = .ok (.putfield 79, 3)) ∧ (decode cX6_two 5 = .ok (.aload_n 0, 1))) ∧ ((decode cX6_two 6 = .ok (.iload_n 1, 1)) ∧ (decode cX6_two 7 = .ok (.invokevirtual 181, 3)))) ∧ (((decode cX6_two 10 = .ok (.ifCond .eq 26, 3)) ∧ (decode cX6_two 13 = .ok (.aload_n 0, 1))) ∧ ((decode cX6_two 14 = .ok (.iload_n 2, 1)) ∧ (decode cX6_two 15 = .ok (.invokevirtual 181, 3))))) ∧ ((((decode cX6_two 18 = .ok (.ifCond .eq 18, 3)) ∧ (decode cX6_two 21 = .ok (.iload_n 1, 1))) ∧ ((decode cX6_two 22 = .ok (.iload_n 2, 1)) ∧ (decode cX6_two 23 = .ok (.if_icmp .eq 13, 3)))) ∧ (((decode cX6_two 26 = .ok (.iload_n 3, 1)) ∧ (decode cX6_two 27 = .ok (.iconst 0, 1))) ∧ ((decode cX6_two 28 = .ok (.bipush 60, 2)) ∧ (decode cX6_two 30 = .ok (.invokestatic 240, 3)))))) := by decide +kernel
theorem dX6_two_2 : decode cX6_two 2 = .ok (.putfield 79, 3) := dbm_209.1.1.1.1
theorem dX6_two_5 : decode cX6_two 5 = .ok (.aload_n 0, 1) := dbm_209.1.1.1.2
theorem dX6_two_6 : decode cX6_two 6 = .ok (.iload_n 1, 1) := dbm_209.1.1.2.1
theorem dX6_two_7 : decode cX6_two 7 = .ok (.invokevirtual 181, 3) := dbm_209.1.1.2.2
theorem dX6_two_10 : decode cX6_two 10 = .ok (.ifCond .eq 26, 3) := dbm_209.1.2.1.1
theorem dX6_two_13 : decode cX6_two 13 = .ok (.aload_n 0, 1) := dbm_209.1.2.1.2
theorem dX6_two_14 : decode cX6_two 14 = .ok (.iload_n 2, 1) := dbm_209.1.2.2.1
theorem dX6_two_15 : decode cX6_two 15 = .ok (.invokevirtual 181, 3) := dbm_209.1.2.2.2
theorem dX6_two_18 : decode cX6_two 18 = .ok (.ifCond .eq 18, 3) := dbm_209.2.1.1.1
theorem dX6_two_21 : decode cX6_two 21 = .ok (.iload_n 1, 1) := dbm_209.2.1.1.2
theorem dX6_two_22 : decode cX6_two 22 = .ok (.iload_n 2, 1) := dbm_209.2.1.2.1
theorem dX6_two_23 : decode cX6_two 23 = .ok (.if_icmp .eq 13, 3) := dbm_209.2.1.2.2
theorem dX6_two_26 : decode cX6_two 26 = .ok (.iload_n 3, 1) := dbm_209.2.2.1.1
theorem dX6_two_27 : decode cX6_two 27 = .ok (.iconst 0, 1) := dbm_209.2.2.1.2
theorem dX6_two_28 : decode cX6_two 28 = .ok (.bipush 60, 2) := dbm_209.2.2.2.1
theorem dX6_two_30 : decode cX6_two 30 = .ok (.invokestatic 240, 3) := dbm_209.2.2.2.2
theorem dbm_210 : (((((decode cX6_two 33 = .ok (.goto 4, 3)) ∧ (decode cX6_two 36 = .ok (.iconst (-1), 1))) ∧ ((decode cX6_two 37 = .ok (.istore 4, 2)) ∧ (decode cX6_two 39 = .ok (.iload 4, 2)))) ∧ (((decode cX6_two 41 = .ok (.ifCond .ge 10, 3)) ∧ (decode cX6_two 44 = .ok (.aload_n 0, 1))) ∧ ((decode cX6_two 45 = .ok (.iload 4, 2)) ∧ (decode cX6_two 47 = .ok (.invokevirtual 143, 3))))) ∧ ((((decode cX6_two 50 = .ok (.ireturn, 1)) ∧ (decode cX6_two 51 = .ok (.aload_n 0, 1))) ∧ ((decode cX6_two 52 = .ok (.invokevirtual 196, 3)) ∧ (decode cX6_two 55 = .ok (.iconst 0, 1)))) ∧ (((decode cX6_two 56 = .ok (.istore 5, 2)) ∧ (decode cX6_two 58 = .ok (.iload 5, 2))) ∧ ((decode cX6_two 60 = .ok (.iconst 4, 1)) ∧ (decode cX6_two 61 = .ok (.if_icmp .ge 92, 3)))))) := by decide +kernel
theorem dX6_two_33 : decode cX6_two 33 = .ok (.goto 4, 3) := dbm_210.1.1.1.1
theorem dX6_two_36 : decode cX6_two 36 = .ok (.iconst (-1), 1) := dbm_210.1.1.1.2
theorem dX6_two_37 : decode cX6_two 37 = .ok (.istore 4, 2) := dbm_210.1.1.2.1
theorem dX6_two_39 : decode cX6_two 39 = .ok (.iload 4, 2) := dbm_210.1.1.2.2
theorem dX6_two_41 : decode cX6_two 41 = .ok (.ifCond .ge 10, 3) := dbm_210.1.2.1.1
theorem dX6_two_44 : decode cX6_two 44 = .ok (.aload_n 0, 1) := dbm_210.1.2.1.2
theorem dX6_two_45 : decode cX6_two 45 = .ok (.iload 4, 2) := dbm_210.1.2.2.1
theorem dX6_two_47 : decode cX6_two 47 = .ok (.invokevirtual 143, 3) := dbm_210.1.2.2.2
theorem dX6_two_50 : decode cX6_two 50 = .ok (.ireturn, 1) := dbm_210.2.1.1.1
theorem dX6_two_51 : decode cX6_two 51 = .ok (.aload_n 0, 1) := dbm_210.2.1.1.2
theorem dX6_two_52 : decode cX6_two 52 = .ok (.invokevirtual 196, 3) := dbm_210.2.1.2.1
theorem dX6_two_55 : decode cX6_two 55 = .ok (.iconst 0, 1) := dbm_210.2.1.2.2
theorem dX6_two_56 : decode cX6_two 56 = .ok (.istore 5, 2) := dbm_210.2.2.1.1
theorem dX6_two_58 : decode cX6_two 58 = .ok (.iload 5, 2) := dbm_210.2.2.1.2
theorem dX6_two_60 : decode cX6_two 60 = .ok (.iconst 4, 1) := dbm_210.2.2.2.1
theorem dX6_two_61 : decode cX6_two 61 = .ok (.if_icmp .ge 92, 3) := dbm_210.2.2.2.2
theorem dbm_211 : (((((decode cX6_two 64 = .ok (.aload_n 0, 1)) ∧ (decode cX6_two 65 = .ok (.getfield 19, 3))) ∧ ((decode cX6_two 68 = .ok (.iload_n 1, 1)) ∧ (decode cX6_two 69 = .ok (.iconst 1, 1)))) ∧ (((decode cX6_two 70 = .ok (.iload 5, 2)) ∧ (decode cX6_two 72 = .ok (.iconst 2, 1))) ∧ ((decode cX6_two 73 = .ok (.idiv, 1)) ∧ (decode cX6_two 74 = .ok (.isub, 1))))) ∧ ((((decode cX6_two 75 = .ok (.iastore, 1)) ∧ (decode cX6_two 76 = .ok (.aload_n 0, 1))) ∧ ((decode cX6_two 77 = .ok (.getfield 19, 3)) ∧ (decode cX6_two 80 = .ok (.iload_n 2, 1)))) ∧ (((decode cX6_two 81 = .ok (.iconst 1, 1)) ∧ (decode cX6_two 82 = .ok (.iload 5, 2))) ∧ ((decode cX6_two 84 = .ok (.iconst 2, 1)) ∧ (decode cX6_two 85 = .ok (.irem, 1)))))) := by decide +kernel
theorem dX6_two_64 : decode cX6_two 64 = .ok (.aload_n 0, 1) := dbm_211.1.1.1.1
theorem dX6_two_65 : decode cX6_two 65 = .ok (.getfield 19, 3) := dbm_211.1.1.1.2
theorem dX6_two_68 : decode cX6_two 68 = .ok (.iload_n 1, 1) := dbm_211.1.1.2.1
theorem dX6_two_69 : decode cX6_two 69 = .ok (.iconst 1, 1) := dbm_211.1.1.2.2
theorem dX6_two_70 : decode cX6_two 70 = .ok (.iload 5, 2) := dbm_211.1.2.1.1
theorem dX6_two_72 : decode cX6_two 72 = .ok (.iconst 2, 1) := dbm_211.1.2.1.2
theorem dX6_two_73 : decode cX6_two 73 = .ok (.idiv, 1) := dbm_211.1.2.2.1
theorem dX6_two_74 : decode cX6_two 74 = .ok (.isub, 1) := dbm_211.1.2.2.2
theorem dX6_two_75 : decode cX6_two 75 = .ok (.iastore, 1) := dbm_211.2.1.1.1
theorem dX6_two_76 : decode cX6_two 76 = .ok (.aload_n 0, 1) := dbm_211.2.1.1.2
theorem dX6_two_77 : decode cX6_two 77 = .ok (.getfield 19, 3) := dbm_211.2.1.2.1
theorem dX6_two_80 : decode cX6_two 80 = .ok (.iload_n 2, 1) := dbm_211.2.1.2.2
theorem dX6_two_81 : decode cX6_two 81 = .ok (.iconst 1, 1) := dbm_211.2.2.1.1
theorem dX6_two_82 : decode cX6_two 82 = .ok (.iload 5, 2) := dbm_211.2.2.1.2
theorem dX6_two_84 : decode cX6_two 84 = .ok (.iconst 2, 1) := dbm_211.2.2.2.1
theorem dX6_two_85 : decode cX6_two 85 = .ok (.irem, 1) := dbm_211.2.2.2.2
theorem dbm_212 : (((((decode cX6_two 86 = .ok (.isub, 1)) ∧ (decode cX6_two 87 = .ok (.iastore, 1))) ∧ ((decode cX6_two 88 = .ok (.aload_n 0, 1)) ∧ (decode cX6_two 89 = .ok (.iload_n 3, 1)))) ∧ (((decode cX6_two 90 = .ok (.invokevirtual 189, 3)) ∧ (decode cX6_two 93 = .ok (.aload_n 0, 1))) ∧ ((decode cX6_two 94 = .ok (.getfield 76, 3)) ∧ (decode cX6_two 97 = .ok (.iconst 2, 1))))) ∧ ((((decode cX6_two 98 = .ok (.iload 5, 2)) ∧ (decode cX6_two 100 = .ok (.imul, 1))) ∧ ((decode cX6_two 101 = .ok (.aload_n 0, 1)) ∧ (decode cX6_two 102 = .ok (.iload_n 1, 1)))) ∧ (((decode cX6_two 103 = .ok (.invokevirtual 229, 3)) ∧ (decode cX6_two 106 = .ok (.invokestatic 119, 3))) ∧ ((decode cX6_two 109 = .ok (.iconst 1, 1)) ∧ (decode cX6_two 110 = .ok (.iload 5, 2)))))) := by decide +kernel
theorem dX6_two_86 : decode cX6_two 86 = .ok (.isub, 1) := dbm_212.1.1.1.1
theorem dX6_two_87 : decode cX6_two 87 = .ok (.iastore, 1) := dbm_212.1.1.1.2
theorem dX6_two_88 : decode cX6_two 88 = .ok (.aload_n 0, 1) := dbm_212.1.1.2.1
theorem dX6_two_89 : decode cX6_two 89 = .ok (.iload_n 3, 1) := dbm_212.1.1.2.2
theorem dX6_two_90 : decode cX6_two 90 = .ok (.invokevirtual 189, 3) := dbm_212.1.2.1.1
theorem dX6_two_93 : decode cX6_two 93 = .ok (.aload_n 0, 1) := dbm_212.1.2.1.2
theorem dX6_two_94 : decode cX6_two 94 = .ok (.getfield 76, 3) := dbm_212.1.2.2.1
theorem dX6_two_97 : decode cX6_two 97 = .ok (.iconst 2, 1) := dbm_212.1.2.2.2
theorem dX6_two_98 : decode cX6_two 98 = .ok (.iload 5, 2) := dbm_212.2.1.1.1
theorem dX6_two_100 : decode cX6_two 100 = .ok (.imul, 1) := dbm_212.2.1.1.2
theorem dX6_two_101 : decode cX6_two 101 = .ok (.aload_n 0, 1) := dbm_212.2.1.2.1
theorem dX6_two_102 : decode cX6_two 102 = .ok (.iload_n 1, 1) := dbm_212.2.1.2.2
theorem dX6_two_103 : decode cX6_two 103 = .ok (.invokevirtual 229, 3) := dbm_212.2.2.1.1
theorem dX6_two_106 : decode cX6_two 106 = .ok (.invokestatic 119, 3) := dbm_212.2.2.1.2
theorem dX6_two_109 : decode cX6_two 109 = .ok (.iconst 1, 1) := dbm_212.2.2.2.1
theorem dX6_two_110 : decode cX6_two 110 = .ok (.iload 5, 2) := dbm_212.2.2.2.2
theorem dbm_213 : (((((decode cX6_two 112 = .ok (.iconst 2, 1)) ∧ (decode cX6_two 113 = .ok (.idiv, 1))) ∧ ((decode cX6_two 114 = .ok (.isub, 1)) ∧ (decode cX6_two 115 = .ok (.isub, 1)))) ∧ (((decode cX6_two 116 = .ok (.iastore, 1)) ∧ (decode cX6_two 117 = .ok (.aload_n 0, 1))) ∧ ((decode cX6_two 118 = .ok (.getfield 76, 3)) ∧ (decode cX6_two 121 = .ok (.iconst 2, 1))))) ∧ ((((decode cX6_two 122 = .ok (.iload 5, 2)) ∧ (decode cX6_two 124 = .ok (.imul, 1))) ∧ ((decode cX6_two 125 = .ok (.iconst 1, 1)) ∧ (decode cX6_two 126 = .ok (.iadd, 1)))) ∧ (((decode cX6_two 127 = .ok (.aload_n 0, 1)) ∧ (decode cX6_two 128 = .ok (.iload_n 2, 1))) ∧ ((decode cX6_two 129 = .ok (.invokevirtual 229, 3)) ∧ (decode cX6_two 132 = .ok (.invokestatic 119, 3)))))) := by decide +kernel
theorem dX6_two_112 : decode cX6_two 112 = .ok (.iconst 2, 1) := dbm_213.1.1.1.1
theorem dX6_two_113 : decode cX6_two 113 = .ok (.idiv, 1) := dbm_213.1.1.1.2
theorem dX6_two_114 : decode cX6_two 114 = .ok (.isub, 1) := dbm_213.1.1.2.1
theorem dX6_two_115 : decode cX6_two 115 = .ok (.isub, 1) := dbm_213.1.1.2.2
theorem dX6_two_116 : decode cX6_two 116 = .ok (.iastore, 1) := dbm_213.1.2.1.1
theorem dX6_two_117 : decode cX6_two 117 = .ok (.aload_n 0, 1) := dbm_213.1.2.1.2
theorem dX6_two_118 : decode cX6_two 118 = .ok (.getfield 76, 3) := dbm_213.1.2.2.1
theorem dX6_two_121 : decode cX6_two 121 = .ok (.iconst 2, 1) := dbm_213.1.2.2.2
theorem dX6_two_122 : decode cX6_two 122 = .ok (.iload 5, 2) := dbm_213.2.1.1.1
theorem dX6_two_124 : decode cX6_two 124 = .ok (.imul, 1) := dbm_213.2.1.1.2
theorem dX6_two_125 : decode cX6_two 125 = .ok (.iconst 1, 1) := dbm_213.2.1.2.1
theorem dX6_two_126 : decode cX6_two 126 = .ok (.iadd, 1) := dbm_213.2.1.2.2
theorem dX6_two_127 : decode cX6_two 127 = .ok (.aload_n 0, 1) := dbm_213.2.2.1.1
theorem dX6_two_128 : decode cX6_two 128 = .ok (.iload_n 2, 1) := dbm_213.2.2.1.2
theorem dX6_two_129 : decode cX6_two 129 = .ok (.invokevirtual 229, 3) := dbm_213.2.2.2.1
theorem dX6_two_132 : decode cX6_two 132 = .ok (.invokestatic 119, 3) := dbm_213.2.2.2.2
theorem dbm_214 : (((((decode cX6_two 135 = .ok (.iconst 1, 1)) ∧ (decode cX6_two 136 = .ok (.iload 5, 2))) ∧ ((decode cX6_two 138 = .ok (.iconst 2, 1)) ∧ (decode cX6_two 139 = .ok (.irem, 1)))) ∧ (((decode cX6_two 140 = .ok (.isub, 1)) ∧ (decode cX6_two 141 = .ok (.isub, 1))) ∧ ((decode cX6_two 142 = .ok (.iastore, 1)) ∧ (decode cX6_two 143 = .ok (.aload_n 0, 1))))) ∧ ((((decode cX6_two 144 = .ok (.invokevirtual 202, 3)) ∧ (decode cX6_two 147 = .ok (.iinc 5 1, 3))) ∧ ((decode cX6_two 150 = .ok (.goto (-92), 3)) ∧ (decode cX6_two 153 = .ok (.iconst 0, 1)))) ∧ (((decode cX6_two 154 = .ok (.istore 5, 2)) ∧ (decode cX6_two 156 = .ok (.iload 5, 2))) ∧ ((decode cX6_two 158 = .ok (.iconst 4, 1)) ∧ (decode cX6_two 159 = .ok (.if_icmp .ge 98, 3)))))) := by decide +kernel
theorem dX6_two_135 : decode cX6_two 135 = .ok (.iconst 1, 1) := dbm_214.1.1.1.1
theorem dX6_two_136 : decode cX6_two 136 = .ok (.iload 5, 2) := dbm_214.1.1.1.2
theorem dX6_two_138 : decode cX6_two 138 = .ok (.iconst 2, 1) := dbm_214.1.1.2.1
theorem dX6_two_139 : decode cX6_two 139 = .ok (.irem, 1) := dbm_214.1.1.2.2
theorem dX6_two_140 : decode cX6_two 140 = .ok (.isub, 1) := dbm_214.1.2.1.1
theorem dX6_two_141 : decode cX6_two 141 = .ok (.isub, 1) := dbm_214.1.2.1.2
theorem dX6_two_142 : decode cX6_two 142 = .ok (.iastore, 1) := dbm_214.1.2.2.1
theorem dX6_two_143 : decode cX6_two 143 = .ok (.aload_n 0, 1) := dbm_214.1.2.2.2
theorem dX6_two_144 : decode cX6_two 144 = .ok (.invokevirtual 202, 3) := dbm_214.2.1.1.1
theorem dX6_two_147 : decode cX6_two 147 = .ok (.iinc 5 1, 3) := dbm_214.2.1.1.2
theorem dX6_two_150 : decode cX6_two 150 = .ok (.goto (-92), 3) := dbm_214.2.1.2.1
theorem dX6_two_153 : decode cX6_two 153 = .ok (.iconst 0, 1) := dbm_214.2.1.2.2
theorem dX6_two_154 : decode cX6_two 154 = .ok (.istore 5, 2) := dbm_214.2.2.1.1
theorem dX6_two_156 : decode cX6_two 156 = .ok (.iload 5, 2) := dbm_214.2.2.1.2
theorem dX6_two_158 : decode cX6_two 158 = .ok (.iconst 4, 1) := dbm_214.2.2.2.1
theorem dX6_two_159 : decode cX6_two 159 = .ok (.if_icmp .ge 98, 3) := dbm_214.2.2.2.2
theorem dbm_215 : (((((decode cX6_two 162 = .ok (.iconst 2, 1)) ∧ (decode cX6_two 163 = .ok (.iconst 1, 1))) ∧ ((decode cX6_two 164 = .ok (.iload 5, 2)) ∧ (decode cX6_two 166 = .ok (.iconst 2, 1)))) ∧ (((decode cX6_two 167 = .ok (.idiv, 1)) ∧ (decode cX6_two 168 = .ok (.isub, 1))) ∧ ((decode cX6_two 169 = .ok (.imul, 1)) ∧ (decode cX6_two 170 = .ok (.iload 5, 2))))) ∧ ((((decode cX6_two 172 = .ok (.iconst 2, 1)) ∧ (decode cX6_two 173 = .ok (.irem, 1))) ∧ ((decode cX6_two 174 = .ok (.iadd, 1)) ∧ (decode cX6_two 175 = .ok (.istore 6, 2)))) ∧ (((decode cX6_two 177 = .ok (.iconst 2, 1)) ∧ (decode cX6_two 178 = .ok (.iload 5, 2))) ∧ ((decode cX6_two 180 = .ok (.iconst 2, 1)) ∧ (decode cX6_two 181 = .ok (.idiv, 1)))))) := by decide +kernel
theorem dX6_two_162 : decode cX6_two 162 = .ok (.iconst 2, 1) := dbm_215.1.1.1.1
theorem dX6_two_163 : decode cX6_two 163 = .ok (.iconst 1, 1) := dbm_215.1.1.1.2
theorem dX6_two_164 : decode cX6_two 164 = .ok (.iload 5, 2) := dbm_215.1.1.2.1
theorem dX6_two_166 : decode cX6_two 166 = .ok (.iconst 2, 1) := dbm_215.1.1.2.2
theorem dX6_two_167 : decode cX6_two 167 = .ok (.idiv, 1) := dbm_215.1.2.1.1
theorem dX6_two_168 : decode cX6_two 168 = .ok (.isub, 1) := dbm_215.1.2.1.2
theorem dX6_two_169 : decode cX6_two 169 = .ok (.imul, 1) := dbm_215.1.2.2.1
theorem dX6_two_170 : decode cX6_two 170 = .ok (.iload 5, 2) := dbm_215.1.2.2.2
theorem dX6_two_172 : decode cX6_two 172 = .ok (.iconst 2, 1) := dbm_215.2.1.1.1
theorem dX6_two_173 : decode cX6_two 173 = .ok (.irem, 1) := dbm_215.2.1.1.2
theorem dX6_two_174 : decode cX6_two 174 = .ok (.iadd, 1) := dbm_215.2.1.2.1
theorem dX6_two_175 : decode cX6_two 175 = .ok (.istore 6, 2) := dbm_215.2.1.2.2
theorem dX6_two_177 : decode cX6_two 177 = .ok (.iconst 2, 1) := dbm_215.2.2.1.1
theorem dX6_two_178 : decode cX6_two 178 = .ok (.iload 5, 2) := dbm_215.2.2.1.2
theorem dX6_two_180 : decode cX6_two 180 = .ok (.iconst 2, 1) := dbm_215.2.2.2.1
theorem dX6_two_181 : decode cX6_two 181 = .ok (.idiv, 1) := dbm_215.2.2.2.2
theorem dbm_216 : (((((decode cX6_two 182 = .ok (.imul, 1)) ∧ (decode cX6_two 183 = .ok (.iconst 1, 1))) ∧ ((decode cX6_two 184 = .ok (.iadd, 1)) ∧ (decode cX6_two 185 = .ok (.iload 5, 2)))) ∧ (((decode cX6_two 187 = .ok (.iconst 2, 1)) ∧ (decode cX6_two 188 = .ok (.irem, 1))) ∧ ((decode cX6_two 189 = .ok (.isub, 1)) ∧ (decode cX6_two 190 = .ok (.istore 7, 2))))) ∧ ((((decode cX6_two 192 = .ok (.aload_n 0, 1)) ∧ (decode cX6_two 193 = .ok (.getfield 76, 3))) ∧ ((decode cX6_two 196 = .ok (.iconst 2, 1)) ∧ (decode cX6_two 197 = .ok (.iload 5, 2)))) ∧ (((decode cX6_two 199 = .ok (.imul, 1)) ∧ (decode cX6_two 200 = .ok (.iaload, 1))) ∧ ((decode cX6_two 201 = .ok (.aload_n 0, 1)) ∧ (decode cX6_two 202 = .ok (.getfield 76, 3)))))) := by decide +kernel
theorem dX6_two_182 : decode cX6_two 182 = .ok (.imul, 1) := dbm_216.1.1.1.1
theorem dX6_two_183 : decode cX6_two 183 = .ok (.iconst 1, 1) := dbm_216.1.1.1.2
theorem dX6_two_184 : decode cX6_two 184 = .ok (.iadd, 1) := dbm_216.1.1.2.1
theorem dX6_two_185 : decode cX6_two 185 = .ok (.iload 5, 2) := dbm_216.1.1.2.2
theorem dX6_two_187 : decode cX6_two 187 = .ok (.iconst 2, 1) := dbm_216.1.2.1.1
theorem dX6_two_188 : decode cX6_two 188 = .ok (.irem, 1) := dbm_216.1.2.1.2
theorem dX6_two_189 : decode cX6_two 189 = .ok (.isub, 1) := dbm_216.1.2.2.1
theorem dX6_two_190 : decode cX6_two 190 = .ok (.istore 7, 2) := dbm_216.1.2.2.2
theorem dX6_two_192 : decode cX6_two 192 = .ok (.aload_n 0, 1) := dbm_216.2.1.1.1
theorem dX6_two_193 : decode cX6_two 193 = .ok (.getfield 76, 3) := dbm_216.2.1.1.2
theorem dX6_two_196 : decode cX6_two 196 = .ok (.iconst 2, 1) := dbm_216.2.1.2.1
theorem dX6_two_197 : decode cX6_two 197 = .ok (.iload 5, 2) := dbm_216.2.1.2.2
theorem dX6_two_199 : decode cX6_two 199 = .ok (.imul, 1) := dbm_216.2.2.1.1
theorem dX6_two_200 : decode cX6_two 200 = .ok (.iaload, 1) := dbm_216.2.2.1.2
theorem dX6_two_201 : decode cX6_two 201 = .ok (.aload_n 0, 1) := dbm_216.2.2.2.1
theorem dX6_two_202 : decode cX6_two 202 = .ok (.getfield 76, 3) := dbm_216.2.2.2.2
theorem dbm_217 : (((((decode cX6_two 205 = .ok (.iconst 2, 1)) ∧ (decode cX6_two 206 = .ok (.iload 6, 2))) ∧ ((decode cX6_two 208 = .ok (.imul, 1)) ∧ (decode cX6_two 209 = .ok (.iaload, 1)))) ∧ (((decode cX6_two 210 = .ok (.if_icmp .lt 41, 3)) ∧ (decode cX6_two 213 = .ok (.aload_n 0, 1))) ∧ ((decode cX6_two 214 = .ok (.getfield 76, 3)) ∧ (decode cX6_two 217 = .ok (.iconst 2, 1))))) ∧ ((((decode cX6_two 218 = .ok (.iload 5, 2)) ∧ (decode cX6_two 220 = .ok (.imul, 1))) ∧ ((decode cX6_two 221 = .ok (.iconst 1, 1)) ∧ (decode cX6_two 222 = .ok (.iadd, 1)))) ∧ (((decode cX6_two 223 = .ok (.iaload, 1)) ∧ (decode cX6_two 224 = .ok (.aload_n 0, 1))) ∧ ((decode cX6_two 225 = .ok (.getfield 76, 3)) ∧ (decode cX6_two 228 = .ok (.iconst 2, 1)))))) := by decide +kernel
theorem dX6_two_205 : decode cX6_two 205 = .ok (.iconst 2, 1) := dbm_217.1.1.1.1
theorem dX6_two_206 : decode cX6_two 206 = .ok (.iload 6, 2) := dbm_217.1.1.1.2
theorem dX6_two_208 : decode cX6_two 208 = .ok (.imul, 1) := dbm_217.1.1.2.1
theorem dX6_two_209 : decode cX6_two 209 = .ok (.iaload, 1) := dbm_217.1.1.2.2
theorem dX6_two_210 : decode cX6_two 210 = .ok (.if_icmp .lt 41, 3) := dbm_217.1.2.1.1
theorem dX6_two_213 : decode cX6_two 213 = .ok (.aload_n 0, 1) := dbm_217.1.2.1.2
theorem dX6_two_214 : decode cX6_two 214 = .ok (.getfield 76, 3) := dbm_217.1.2.2.1
theorem dX6_two_217 : decode cX6_two 217 = .ok (.iconst 2, 1) := dbm_217.1.2.2.2
theorem dX6_two_218 : decode cX6_two 218 = .ok (.iload 5, 2) := dbm_217.2.1.1.1
theorem dX6_two_220 : decode cX6_two 220 = .ok (.imul, 1) := dbm_217.2.1.1.2
theorem dX6_two_221 : decode cX6_two 221 = .ok (.iconst 1, 1) := dbm_217.2.1.2.1
theorem dX6_two_222 : decode cX6_two 222 = .ok (.iadd, 1) := dbm_217.2.1.2.2
theorem dX6_two_223 : decode cX6_two 223 = .ok (.iaload, 1) := dbm_217.2.2.1.1
theorem dX6_two_224 : decode cX6_two 224 = .ok (.aload_n 0, 1) := dbm_217.2.2.1.2
theorem dX6_two_225 : decode cX6_two 225 = .ok (.getfield 76, 3) := dbm_217.2.2.2.1
theorem dX6_two_228 : decode cX6_two 228 = .ok (.iconst 2, 1) := dbm_217.2.2.2.2
theorem dbm_218 : (((((decode cX6_two 229 = .ok (.iload 7, 2)) ∧ (decode cX6_two 231 = .ok (.imul, 1))) ∧ ((decode cX6_two 232 = .ok (.iconst 1, 1)) ∧ (decode cX6_two 233 = .ok (.iadd, 1)))) ∧ (((decode cX6_two 234 = .ok (.iaload, 1)) ∧ (decode cX6_two 235 = .ok (.if_icmp .lt 16, 3))) ∧ ((decode cX6_two 238 = .ok (.bipush 10, 2)) ∧ (decode cX6_two 240 = .ok (.iload 5, 2))))) ∧ ((((decode cX6_two 242 = .ok (.iconst 2, 1)) ∧ (decode cX6_two 243 = .ok (.idiv, 1))) ∧ ((decode cX6_two 244 = .ok (.imul, 1)) ∧ (decode cX6_two 245 = .ok (.iload 5, 2)))) ∧ (((decode cX6_two 247 = .ok (.iconst 2, 1)) ∧ (decode cX6_two 248 = .ok (.irem, 1))) ∧ ((decode cX6_two 249 = .ok (.iadd, 1)) ∧ (decode cX6_two 250 = .ok (.ireturn, 1)))))) := by decide +kernel
theorem dX6_two_229 : decode cX6_two 229 = .ok (.iload 7, 2) := dbm_218.1.1.1.1
theorem dX6_two_231 : decode cX6_two 231 = .ok (.imul, 1) := dbm_218.1.1.1.2
theorem dX6_two_232 : decode cX6_two 232 = .ok (.iconst 1, 1) := dbm_218.1.1.2.1
theorem dX6_two_233 : decode cX6_two 233 = .ok (.iadd, 1) := dbm_218.1.1.2.2
theorem dX6_two_234 : decode cX6_two 234 = .ok (.iaload, 1) := dbm_218.1.2.1.1
theorem dX6_two_235 : decode cX6_two 235 = .ok (.if_icmp .lt 16, 3) := dbm_218.1.2.1.2
theorem dX6_two_238 : decode cX6_two 238 = .ok (.bipush 10, 2) := dbm_218.1.2.2.1
theorem dX6_two_240 : decode cX6_two 240 = .ok (.iload 5, 2) := dbm_218.1.2.2.2
theorem dX6_two_242 : decode cX6_two 242 = .ok (.iconst 2, 1) := dbm_218.2.1.1.1
theorem dX6_two_243 : decode cX6_two 243 = .ok (.idiv, 1) := dbm_218.2.1.1.2
theorem dX6_two_244 : decode cX6_two 244 = .ok (.imul, 1) := dbm_218.2.1.2.1
theorem dX6_two_245 : decode cX6_two 245 = .ok (.iload 5, 2) := dbm_218.2.1.2.2
theorem dX6_two_247 : decode cX6_two 247 = .ok (.iconst 2, 1) := dbm_218.2.2.1.1
theorem dX6_two_248 : decode cX6_two 248 = .ok (.irem, 1) := dbm_218.2.2.1.2
theorem dX6_two_249 : decode cX6_two 249 = .ok (.iadd, 1) := dbm_218.2.2.2.1
theorem dX6_two_250 : decode cX6_two 250 = .ok (.ireturn, 1) := dbm_218.2.2.2.2
theorem dbm_219 : (((((decode cX6_two 251 = .ok (.iinc 5 1, 3)) ∧ (decode cX6_two 254 = .ok (.goto (-98), 3))) ∧ ((decode cX6_two 257 = .ok (.bipush (-9), 2)) ∧ (decode cX6_two 259 = .ok (.ireturn, 1)))) ∧ (((decode cX6_divisor 0 = .ok (.lload_n 0, 1)) ∧ (decode cX6_divisor 1 = .ok (.lstore 4, 2))) ∧ ((decode cX6_divisor 3 = .ok (.lload_n 2, 1)) ∧ (decode cX6_divisor 4 = .ok (.lstore 6, 2))))) ∧ ((((decode cX6_divisor 6 = .ok (.lload 6, 2)) ∧ (decode cX6_divisor 8 = .ok (.lconst 0, 1))) ∧ ((decode cX6_divisor 9 = .ok (.lcmp, 1)) ∧ (decode cX6_divisor 10 = .ok (.ifCond .eq 21, 3)))) ∧ (((decode cX6_divisor 13 = .ok (.lload 4, 2)) ∧ (decode cX6_divisor 15 = .ok (.lload 6, 2))) ∧ ((decode cX6_divisor 17 = .ok (.lrem, 1)) ∧ (decode cX6_divisor 18 = .ok (.lstore 8, 2)))))) := by decide +kernel
theorem dX6_two_251 : decode cX6_two 251 = .ok (.iinc 5 1, 3) := dbm_219.1.1.1.1
theorem dX6_two_254 : decode cX6_two 254 = .ok (.goto (-98), 3) := dbm_219.1.1.1.2
theorem dX6_two_257 : decode cX6_two 257 = .ok (.bipush (-9), 2) := dbm_219.1.1.2.1
theorem dX6_two_259 : decode cX6_two 259 = .ok (.ireturn, 1) := dbm_219.1.1.2.2
theorem dX6_divisor_0 : decode cX6_divisor 0 = .ok (.lload_n 0, 1) := dbm_219.1.2.1.1
theorem dX6_divisor_1 : decode cX6_divisor 1 = .ok (.lstore 4, 2) := dbm_219.1.2.1.2
theorem dX6_divisor_3 : decode cX6_divisor 3 = .ok (.lload_n 2, 1) := dbm_219.1.2.2.1
theorem dX6_divisor_4 : decode cX6_divisor 4 = .ok (.lstore 6, 2) := dbm_219.1.2.2.2
theorem dX6_divisor_6 : decode cX6_divisor 6 = .ok (.lload 6, 2) := dbm_219.2.1.1.1
theorem dX6_divisor_8 : decode cX6_divisor 8 = .ok (.lconst 0, 1) := dbm_219.2.1.1.2
theorem dX6_divisor_9 : decode cX6_divisor 9 = .ok (.lcmp, 1) := dbm_219.2.1.2.1
theorem dX6_divisor_10 : decode cX6_divisor 10 = .ok (.ifCond .eq 21, 3) := dbm_219.2.1.2.2
theorem dX6_divisor_13 : decode cX6_divisor 13 = .ok (.lload 4, 2) := dbm_219.2.2.1.1
theorem dX6_divisor_15 : decode cX6_divisor 15 = .ok (.lload 6, 2) := dbm_219.2.2.1.2
theorem dX6_divisor_17 : decode cX6_divisor 17 = .ok (.lrem, 1) := dbm_219.2.2.2.1
theorem dX6_divisor_18 : decode cX6_divisor 18 = .ok (.lstore 8, 2) := dbm_219.2.2.2.2
theorem dbm_220 : (((((decode cX6_divisor 20 = .ok (.lload 6, 2)) ∧ (decode cX6_divisor 22 = .ok (.lstore 4, 2))) ∧ ((decode cX6_divisor 24 = .ok (.lload 8, 2)) ∧ (decode cX6_divisor 26 = .ok (.lstore 6, 2)))) ∧ (((decode cX6_divisor 28 = .ok (.goto (-22), 3)) ∧ (decode cX6_divisor 31 = .ok (.lload 4, 2))) ∧ ((decode cX6_divisor 33 = .ok (.lreturn, 1)) ∧ (decode cX6_partOf 0 = .ok (.lload_n 0, 1))))) ∧ ((((decode cX6_partOf 1 = .ok (.lconst 0, 1)) ∧ (decode cX6_partOf 2 = .ok (.lcmp, 1))) ∧ ((decode cX6_partOf 3 = .ok (.ifCond .ne 7, 3)) ∧ (decode cX6_partOf 6 = .ok (.iload 4, 2)))) ∧ (((decode cX6_partOf 8 = .ok (.i2l, 1)) ∧ (decode cX6_partOf 9 = .ok (.lreturn, 1))) ∧ ((decode cX6_partOf 10 = .ok (.lload_n 0, 1)) ∧ (decode cX6_partOf 11 = .ok (.lload_n 2, 1)))))) := by decide +kernel
theorem dX6_divisor_20 : decode cX6_divisor 20 = .ok (.lload 6, 2) := dbm_220.1.1.1.1
theorem dX6_divisor_22 : decode cX6_divisor 22 = .ok (.lstore 4, 2) := dbm_220.1.1.1.2
theorem dX6_divisor_24 : decode cX6_divisor 24 = .ok (.lload 8, 2) := dbm_220.1.1.2.1
theorem dX6_divisor_26 : decode cX6_divisor 26 = .ok (.lstore 6, 2) := dbm_220.1.1.2.2
theorem dX6_divisor_28 : decode cX6_divisor 28 = .ok (.goto (-22), 3) := dbm_220.1.2.1.1
theorem dX6_divisor_31 : decode cX6_divisor 31 = .ok (.lload 4, 2) := dbm_220.1.2.1.2
theorem dX6_divisor_33 : decode cX6_divisor 33 = .ok (.lreturn, 1) := dbm_220.1.2.2.1
theorem dX6_partOf_0 : decode cX6_partOf 0 = .ok (.lload_n 0, 1) := dbm_220.1.2.2.2
theorem dX6_partOf_1 : decode cX6_partOf 1 = .ok (.lconst 0, 1) := dbm_220.2.1.1.1
theorem dX6_partOf_2 : decode cX6_partOf 2 = .ok (.lcmp, 1) := dbm_220.2.1.1.2
theorem dX6_partOf_3 : decode cX6_partOf 3 = .ok (.ifCond .ne 7, 3) := dbm_220.2.1.2.1
theorem dX6_partOf_6 : decode cX6_partOf 6 = .ok (.iload 4, 2) := dbm_220.2.1.2.2
theorem dX6_partOf_8 : decode cX6_partOf 8 = .ok (.i2l, 1) := dbm_220.2.2.1.1
theorem dX6_partOf_9 : decode cX6_partOf 9 = .ok (.lreturn, 1) := dbm_220.2.2.1.2
theorem dX6_partOf_10 : decode cX6_partOf 10 = .ok (.lload_n 0, 1) := dbm_220.2.2.2.1
theorem dX6_partOf_11 : decode cX6_partOf 11 = .ok (.lload_n 2, 1) := dbm_220.2.2.2.2
theorem dbm_221 : (((((decode cX6_partOf 12 = .ok (.invokestatic 281, 3)) ∧ (decode cX6_partOf 15 = .ok (.lstore 5, 2))) ∧ ((decode cX6_partOf 17 = .ok (.iload 4, 2)) ∧ (decode cX6_partOf 19 = .ok (.ifCond .ne 10, 3)))) ∧ (((decode cX6_partOf 22 = .ok (.lload_n 0, 1)) ∧ (decode cX6_partOf 23 = .ok (.lload 5, 2))) ∧ ((decode cX6_partOf 25 = .ok (.ldiv, 1)) ∧ (decode cX6_partOf 26 = .ok (.goto 7, 3))))) ∧ ((((decode cX6_partOf 29 = .ok (.lload_n 2, 1)) ∧ (decode cX6_partOf 30 = .ok (.lload 5, 2))) ∧ ((decode cX6_partOf 32 = .ok (.ldiv, 1)) ∧ (decode cX6_partOf 33 = .ok (.lreturn, 1)))) ∧ (((decode cX6_mist 0 = .ok (.aload_n 0, 1)) ∧ (decode cX6_mist 1 = .ok (.iconst 0, 1))) ∧ ((decode cX6_mist 2 = .ok (.putfield 79, 3)) ∧ (decode cX6_mist 5 = .ok (.iconst 0, 1)))))) := by decide +kernel
theorem dX6_partOf_12 : decode cX6_partOf 12 = .ok (.invokestatic 281, 3) := dbm_221.1.1.1.1
theorem dX6_partOf_15 : decode cX6_partOf 15 = .ok (.lstore 5, 2) := dbm_221.1.1.1.2
theorem dX6_partOf_17 : decode cX6_partOf 17 = .ok (.iload 4, 2) := dbm_221.1.1.2.1
theorem dX6_partOf_19 : decode cX6_partOf 19 = .ok (.ifCond .ne 10, 3) := dbm_221.1.1.2.2
theorem dX6_partOf_22 : decode cX6_partOf 22 = .ok (.lload_n 0, 1) := dbm_221.1.2.1.1
theorem dX6_partOf_23 : decode cX6_partOf 23 = .ok (.lload 5, 2) := dbm_221.1.2.1.2
theorem dX6_partOf_25 : decode cX6_partOf 25 = .ok (.ldiv, 1) := dbm_221.1.2.2.1
theorem dX6_partOf_26 : decode cX6_partOf 26 = .ok (.goto 7, 3) := dbm_221.1.2.2.2
theorem dX6_partOf_29 : decode cX6_partOf 29 = .ok (.lload_n 2, 1) := dbm_221.2.1.1.1
theorem dX6_partOf_30 : decode cX6_partOf 30 = .ok (.lload 5, 2) := dbm_221.2.1.1.2
theorem dX6_partOf_32 : decode cX6_partOf 32 = .ok (.ldiv, 1) := dbm_221.2.1.2.1
theorem dX6_partOf_33 : decode cX6_partOf 33 = .ok (.lreturn, 1) := dbm_221.2.1.2.2
theorem dX6_mist_0 : decode cX6_mist 0 = .ok (.aload_n 0, 1) := dbm_221.2.2.1.1
theorem dX6_mist_1 : decode cX6_mist 1 = .ok (.iconst 0, 1) := dbm_221.2.2.1.2
theorem dX6_mist_2 : decode cX6_mist 2 = .ok (.putfield 79, 3) := dbm_221.2.2.2.1
theorem dX6_mist_5 : decode cX6_mist 5 = .ok (.iconst 0, 1) := dbm_221.2.2.2.2
theorem dbm_222 : (((((decode cX6_mist 6 = .ok (.istore 6, 2)) ∧ (decode cX6_mist 8 = .ok (.aload_n 0, 1))) ∧ ((decode cX6_mist 9 = .ok (.iload_n 1, 1)) ∧ (decode cX6_mist 10 = .ok (.iload_n 2, 1)))) ∧ (((decode cX6_mist 11 = .ok (.invokevirtual 237, 3)) ∧ (decode cX6_mist 14 = .ok (.ifCond .ge 9, 3))) ∧ ((decode cX6_mist 17 = .ok (.iconst (-1), 1)) ∧ (decode cX6_mist 18 = .ok (.istore 6, 2))))) ∧ ((((decode cX6_mist 20 = .ok (.goto 37, 3)) ∧ (decode cX6_mist 23 = .ok (.iload_n 3, 1))) ∧ ((decode cX6_mist 24 = .ok (.ifCond .lt 9, 3)) ∧ (decode cX6_mist 27 = .ok (.iload 4, 2)))) ∧ (((decode cX6_mist 29 = .ok (.iconst 2, 1)) ∧ (decode cX6_mist 30 = .ok (.if_icmp .ge 10, 3))) ∧ ((decode cX6_mist 33 = .ok (.bipush (-4), 2)) ∧ (decode cX6_mist 35 = .ok (.istore 6, 2)))))) := by decide +kernel
theorem dX6_mist_6 : decode cX6_mist 6 = .ok (.istore 6, 2) := dbm_222.1.1.1.1
theorem dX6_mist_8 : decode cX6_mist 8 = .ok (.aload_n 0, 1) := dbm_222.1.1.1.2
theorem dX6_mist_9 : decode cX6_mist 9 = .ok (.iload_n 1, 1) := dbm_222.1.1.2.1
theorem dX6_mist_10 : decode cX6_mist 10 = .ok (.iload_n 2, 1) := dbm_222.1.1.2.2
theorem dX6_mist_11 : decode cX6_mist 11 = .ok (.invokevirtual 237, 3) := dbm_222.1.2.1.1
theorem dX6_mist_14 : decode cX6_mist 14 = .ok (.ifCond .ge 9, 3) := dbm_222.1.2.1.2
theorem dX6_mist_17 : decode cX6_mist 17 = .ok (.iconst (-1), 1) := dbm_222.1.2.2.1
theorem dX6_mist_18 : decode cX6_mist 18 = .ok (.istore 6, 2) := dbm_222.1.2.2.2
theorem dX6_mist_20 : decode cX6_mist 20 = .ok (.goto 37, 3) := dbm_222.2.1.1.1
theorem dX6_mist_23 : decode cX6_mist 23 = .ok (.iload_n 3, 1) := dbm_222.2.1.1.2
theorem dX6_mist_24 : decode cX6_mist 24 = .ok (.ifCond .lt 9, 3) := dbm_222.2.1.2.1
theorem dX6_mist_27 : decode cX6_mist 27 = .ok (.iload 4, 2) := dbm_222.2.1.2.2
theorem dX6_mist_29 : decode cX6_mist 29 = .ok (.iconst 2, 1) := dbm_222.2.2.1.1
theorem dX6_mist_30 : decode cX6_mist 30 = .ok (.if_icmp .ge 10, 3) := dbm_222.2.2.1.2
theorem dX6_mist_33 : decode cX6_mist 33 = .ok (.bipush (-4), 2) := dbm_222.2.2.2.1
theorem dX6_mist_35 : decode cX6_mist 35 = .ok (.istore 6, 2) := dbm_222.2.2.2.2
theorem dbm_223 : (((((decode cX6_mist 37 = .ok (.goto 20, 3)) ∧ (decode cX6_mist 40 = .ok (.iload_n 3, 1))) ∧ ((decode cX6_mist 41 = .ok (.bipush 7, 2)) ∧ (decode cX6_mist 43 = .ok (.if_icmp .gt 10, 3)))) ∧ (((decode cX6_mist 46 = .ok (.iload 4, 2)) ∧ (decode cX6_mist 48 = .ok (.bipush 20, 2))) ∧ ((decode cX6_mist 50 = .ok (.if_icmp .le 7, 3)) ∧ (decode cX6_mist 53 = .ok (.bipush (-6), 2))))) ∧ ((((decode cX6_mist 55 = .ok (.istore 6, 2)) ∧ (decode cX6_mist 57 = .ok (.iload 6, 2))) ∧ ((decode cX6_mist 59 = .ok (.iload 5, 2)) ∧ (decode cX6_mist 61 = .ok (.iconst 1, 1)))) ∧ (((decode cX6_mist 62 = .ok (.invokestatic 250, 3)) ∧ (decode cX6_mist 65 = .ok (.istore 6, 2))) ∧ ((decode cX6_mist 67 = .ok (.iload 6, 2)) ∧ (decode cX6_mist 69 = .ok (.ifCond .ge 15, 3)))))) := by decide +kernel
theorem dX6_mist_37 : decode cX6_mist 37 = .ok (.goto 20, 3) := dbm_223.1.1.1.1
theorem dX6_mist_40 : decode cX6_mist 40 = .ok (.iload_n 3, 1) := dbm_223.1.1.1.2
theorem dX6_mist_41 : decode cX6_mist 41 = .ok (.bipush 7, 2) := dbm_223.1.1.2.1
theorem dX6_mist_43 : decode cX6_mist 43 = .ok (.if_icmp .gt 10, 3) := dbm_223.1.1.2.2
theorem dX6_mist_46 : decode cX6_mist 46 = .ok (.iload 4, 2) := dbm_223.1.2.1.1
theorem dX6_mist_48 : decode cX6_mist 48 = .ok (.bipush 20, 2) := dbm_223.1.2.1.2
theorem dX6_mist_50 : decode cX6_mist 50 = .ok (.if_icmp .le 7, 3) := dbm_223.1.2.2.1
theorem dX6_mist_53 : decode cX6_mist 53 = .ok (.bipush (-6), 2) := dbm_223.1.2.2.2
theorem dX6_mist_55 : decode cX6_mist 55 = .ok (.istore 6, 2) := dbm_223.2.1.1.1
theorem dX6_mist_57 : decode cX6_mist 57 = .ok (.iload 6, 2) := dbm_223.2.1.1.2
theorem dX6_mist_59 : decode cX6_mist 59 = .ok (.iload 5, 2) := dbm_223.2.1.2.1
theorem dX6_mist_61 : decode cX6_mist 61 = .ok (.iconst 1, 1) := dbm_223.2.1.2.2
theorem dX6_mist_62 : decode cX6_mist 62 = .ok (.invokestatic 250, 3) := dbm_223.2.2.1.1
theorem dX6_mist_65 : decode cX6_mist 65 = .ok (.istore 6, 2) := dbm_223.2.2.1.2
theorem dX6_mist_67 : decode cX6_mist 67 = .ok (.iload 6, 2) := dbm_223.2.2.2.1
theorem dX6_mist_69 : decode cX6_mist 69 = .ok (.ifCond .ge 15, 3) := dbm_223.2.2.2.2
theorem dbm_224 : (((((decode cX6_mist 72 = .ok (.ldc2_w 285, 3)) ∧ (decode cX6_mist 75 = .ok (.aload_n 0, 1))) ∧ ((decode cX6_mist 76 = .ok (.iload 6, 2)) ∧ (decode cX6_mist 78 = .ok (.invokevirtual 143, 3)))) ∧ (((decode cX6_mist 81 = .ok (.i2l, 1)) ∧ (decode cX6_mist 82 = .ok (.lsub, 1))) ∧ ((decode cX6_mist 83 = .ok (.lreturn, 1)) ∧ (decode cX6_mist 84 = .ok (.lconst 0, 1))))) ∧ ((((decode cX6_mist 85 = .ok (.lstore 7, 2)) ∧ (decode cX6_mist 87 = .ok (.lconst 1, 1))) ∧ ((decode cX6_mist 88 = .ok (.lstore 9, 2)) ∧ (decode cX6_mist 90 = .ok (.iconst 0, 1)))) ∧ (((decode cX6_mist 91 = .ok (.istore 11, 2)) ∧ (decode cX6_mist 93 = .ok (.iload 11, 2))) ∧ ((decode cX6_mist 95 = .ok (.iload_n 3, 1)) ∧ (decode cX6_mist 96 = .ok (.if_icmp .ge 17, 3)))))) := by decide +kernel
theorem dX6_mist_72 : decode cX6_mist 72 = .ok (.ldc2_w 285, 3) := dbm_224.1.1.1.1
theorem dX6_mist_75 : decode cX6_mist 75 = .ok (.aload_n 0, 1) := dbm_224.1.1.1.2
theorem dX6_mist_76 : decode cX6_mist 76 = .ok (.iload 6, 2) := dbm_224.1.1.2.1
theorem dX6_mist_78 : decode cX6_mist 78 = .ok (.invokevirtual 143, 3) := dbm_224.1.1.2.2
theorem dX6_mist_81 : decode cX6_mist 81 = .ok (.i2l, 1) := dbm_224.1.2.1.1
theorem dX6_mist_82 : decode cX6_mist 82 = .ok (.lsub, 1) := dbm_224.1.2.1.2
theorem dX6_mist_83 : decode cX6_mist 83 = .ok (.lreturn, 1) := dbm_224.1.2.2.1
theorem dX6_mist_84 : decode cX6_mist 84 = .ok (.lconst 0, 1) := dbm_224.1.2.2.2
theorem dX6_mist_85 : decode cX6_mist 85 = .ok (.lstore 7, 2) := dbm_224.2.1.1.1
theorem dX6_mist_87 : decode cX6_mist 87 = .ok (.lconst 1, 1) := dbm_224.2.1.1.2
theorem dX6_mist_88 : decode cX6_mist 88 = .ok (.lstore 9, 2) := dbm_224.2.1.2.1
theorem dX6_mist_90 : decode cX6_mist 90 = .ok (.iconst 0, 1) := dbm_224.2.1.2.2
theorem dX6_mist_91 : decode cX6_mist 91 = .ok (.istore 11, 2) := dbm_224.2.2.1.1
theorem dX6_mist_93 : decode cX6_mist 93 = .ok (.iload 11, 2) := dbm_224.2.2.1.2
theorem dX6_mist_95 : decode cX6_mist 95 = .ok (.iload_n 3, 1) := dbm_224.2.2.2.1
theorem dX6_mist_96 : decode cX6_mist 96 = .ok (.if_icmp .ge 17, 3) := dbm_224.2.2.2.2
theorem dbm_225 : (((((decode cX6_mist 99 = .ok (.lload 9, 2)) ∧ (decode cX6_mist 101 = .ok (.iload 4, 2))) ∧ ((decode cX6_mist 103 = .ok (.i2l, 1)) ∧ (decode cX6_mist 104 = .ok (.lmul, 1)))) ∧ (((decode cX6_mist 105 = .ok (.lstore 9, 2)) ∧ (decode cX6_mist 107 = .ok (.iinc 11 1, 3))) ∧ ((decode cX6_mist 110 = .ok (.goto (-17), 3)) ∧ (decode cX6_mist 113 = .ok (.aload_n 0, 1))))) ∧ ((((decode cX6_mist 114 = .ok (.invokevirtual 196, 3)) ∧ (decode cX6_mist 117 = .ok (.iconst 0, 1))) ∧ ((decode cX6_mist 118 = .ok (.istore 11, 2)) ∧ (decode cX6_mist 120 = .ok (.iload 11, 2)))) ∧ (((decode cX6_mist 122 = .ok (.iconst 1, 1)) ∧ (decode cX6_mist 123 = .ok (.iload_n 3, 1))) ∧ ((decode cX6_mist 124 = .ok (.ishl, 1)) ∧ (decode cX6_mist 125 = .ok (.if_icmp .ge 91, 3)))))) := by decide +kernel
theorem dX6_mist_99 : decode cX6_mist 99 = .ok (.lload 9, 2) := dbm_225.1.1.1.1
theorem dX6_mist_101 : decode cX6_mist 101 = .ok (.iload 4, 2) := dbm_225.1.1.1.2
theorem dX6_mist_103 : decode cX6_mist 103 = .ok (.i2l, 1) := dbm_225.1.1.2.1
theorem dX6_mist_104 : decode cX6_mist 104 = .ok (.lmul, 1) := dbm_225.1.1.2.2
theorem dX6_mist_105 : decode cX6_mist 105 = .ok (.lstore 9, 2) := dbm_225.1.2.1.1
theorem dX6_mist_107 : decode cX6_mist 107 = .ok (.iinc 11 1, 3) := dbm_225.1.2.1.2
theorem dX6_mist_110 : decode cX6_mist 110 = .ok (.goto (-17), 3) := dbm_225.1.2.2.1
theorem dX6_mist_113 : decode cX6_mist 113 = .ok (.aload_n 0, 1) := dbm_225.1.2.2.2
theorem dX6_mist_114 : decode cX6_mist 114 = .ok (.invokevirtual 196, 3) := dbm_225.2.1.1.1
theorem dX6_mist_117 : decode cX6_mist 117 = .ok (.iconst 0, 1) := dbm_225.2.1.1.2
theorem dX6_mist_118 : decode cX6_mist 118 = .ok (.istore 11, 2) := dbm_225.2.1.2.1
theorem dX6_mist_120 : decode cX6_mist 120 = .ok (.iload 11, 2) := dbm_225.2.1.2.2
theorem dX6_mist_122 : decode cX6_mist 122 = .ok (.iconst 1, 1) := dbm_225.2.2.1.1
theorem dX6_mist_123 : decode cX6_mist 123 = .ok (.iload_n 3, 1) := dbm_225.2.2.1.2
theorem dX6_mist_124 : decode cX6_mist 124 = .ok (.ishl, 1) := dbm_225.2.2.2.1
theorem dX6_mist_125 : decode cX6_mist 125 = .ok (.if_icmp .ge 91, 3) := dbm_225.2.2.2.2
theorem dbm_226 : (((((decode cX6_mist 128 = .ok (.lconst 1, 1)) ∧ (decode cX6_mist 129 = .ok (.lstore 12, 2))) ∧ ((decode cX6_mist 131 = .ok (.iconst 0, 1)) ∧ (decode cX6_mist 132 = .ok (.istore 14, 2)))) ∧ (((decode cX6_mist 134 = .ok (.iload 14, 2)) ∧ (decode cX6_mist 136 = .ok (.iload_n 3, 1))) ∧ ((decode cX6_mist 137 = .ok (.if_icmp .ge 44, 3)) ∧ (decode cX6_mist 140 = .ok (.lload 12, 2))))) ∧ ((((decode cX6_mist 142 = .ok (.iload 11, 2)) ∧ (decode cX6_mist 144 = .ok (.iload 14, 2))) ∧ ((decode cX6_mist 146 = .ok (.invokestatic 131, 3)) ∧ (decode cX6_mist 149 = .ok (.ifCond .eq 7, 3)))) ∧ (((decode cX6_mist 152 = .ok (.lconst 1, 1)) ∧ (decode cX6_mist 153 = .ok (.goto 8, 3))) ∧ ((decode cX6_mist 156 = .ok (.iload 4, 2)) ∧ (decode cX6_mist 158 = .ok (.iconst 1, 1)))))) := by decide +kernel
theorem dX6_mist_128 : decode cX6_mist 128 = .ok (.lconst 1, 1) := dbm_226.1.1.1.1
theorem dX6_mist_129 : decode cX6_mist 129 = .ok (.lstore 12, 2) := dbm_226.1.1.1.2
theorem dX6_mist_131 : decode cX6_mist 131 = .ok (.iconst 0, 1) := dbm_226.1.1.2.1
theorem dX6_mist_132 : decode cX6_mist 132 = .ok (.istore 14, 2) := dbm_226.1.1.2.2
theorem dX6_mist_134 : decode cX6_mist 134 = .ok (.iload 14, 2) := dbm_226.1.2.1.1
theorem dX6_mist_136 : decode cX6_mist 136 = .ok (.iload_n 3, 1) := dbm_226.1.2.1.2
theorem dX6_mist_137 : decode cX6_mist 137 = .ok (.if_icmp .ge 44, 3) := dbm_226.1.2.2.1
theorem dX6_mist_140 : decode cX6_mist 140 = .ok (.lload 12, 2) := dbm_226.1.2.2.2
theorem dX6_mist_142 : decode cX6_mist 142 = .ok (.iload 11, 2) := dbm_226.2.1.1.1
theorem dX6_mist_144 : decode cX6_mist 144 = .ok (.iload 14, 2) := dbm_226.2.1.1.2
theorem dX6_mist_146 : decode cX6_mist 146 = .ok (.invokestatic 131, 3) := dbm_226.2.1.2.1
theorem dX6_mist_149 : decode cX6_mist 149 = .ok (.ifCond .eq 7, 3) := dbm_226.2.1.2.2
theorem dX6_mist_152 : decode cX6_mist 152 = .ok (.lconst 1, 1) := dbm_226.2.2.1.1
theorem dX6_mist_153 : decode cX6_mist 153 = .ok (.goto 8, 3) := dbm_226.2.2.1.2
theorem dX6_mist_156 : decode cX6_mist 156 = .ok (.iload 4, 2) := dbm_226.2.2.2.1
theorem dX6_mist_158 : decode cX6_mist 158 = .ok (.iconst 1, 1) := dbm_226.2.2.2.2
theorem dbm_227 : (((((decode cX6_mist 159 = .ok (.isub, 1)) ∧ (decode cX6_mist 160 = .ok (.i2l, 1))) ∧ ((decode cX6_mist 161 = .ok (.lmul, 1)) ∧ (decode cX6_mist 162 = .ok (.lstore 12, 2)))) ∧ (((decode cX6_mist 164 = .ok (.aload_n 0, 1)) ∧ (decode cX6_mist 165 = .ok (.iload 11, 2))) ∧ ((decode cX6_mist 167 = .ok (.iload 14, 2)) ∧ (decode cX6_mist 169 = .ok (.invokestatic 131, 3))))) ∧ ((((decode cX6_mist 172 = .ok (.invokevirtual 135, 3)) ∧ (decode cX6_mist 175 = .ok (.iinc 14 1, 3))) ∧ ((decode cX6_mist 178 = .ok (.goto (-44), 3)) ∧ (decode cX6_mist 181 = .ok (.lload 7, 2)))) ∧ (((decode cX6_mist 183 = .ok (.aload_n 0, 1)) ∧ (decode cX6_mist 184 = .ok (.getfield 31, 3))) ∧ ((decode cX6_mist 187 = .ok (.bipush 7, 2)) ∧ (decode cX6_mist 189 = .ok (.iload_n 1, 1)))))) := by decide +kernel
theorem dX6_mist_159 : decode cX6_mist 159 = .ok (.isub, 1) := dbm_227.1.1.1.1
theorem dX6_mist_160 : decode cX6_mist 160 = .ok (.i2l, 1) := dbm_227.1.1.1.2
theorem dX6_mist_161 : decode cX6_mist 161 = .ok (.lmul, 1) := dbm_227.1.1.2.1
theorem dX6_mist_162 : decode cX6_mist 162 = .ok (.lstore 12, 2) := dbm_227.1.1.2.2
theorem dX6_mist_164 : decode cX6_mist 164 = .ok (.aload_n 0, 1) := dbm_227.1.2.1.1
theorem dX6_mist_165 : decode cX6_mist 165 = .ok (.iload 11, 2) := dbm_227.1.2.1.2
theorem dX6_mist_167 : decode cX6_mist 167 = .ok (.iload 14, 2) := dbm_227.1.2.2.1
theorem dX6_mist_169 : decode cX6_mist 169 = .ok (.invokestatic 131, 3) := dbm_227.1.2.2.2
theorem dX6_mist_172 : decode cX6_mist 172 = .ok (.invokevirtual 135, 3) := dbm_227.2.1.1.1
theorem dX6_mist_175 : decode cX6_mist 175 = .ok (.iinc 14 1, 3) := dbm_227.2.1.1.2
theorem dX6_mist_178 : decode cX6_mist 178 = .ok (.goto (-44), 3) := dbm_227.2.1.2.1
theorem dX6_mist_181 : decode cX6_mist 181 = .ok (.lload 7, 2) := dbm_227.2.1.2.2
theorem dX6_mist_183 : decode cX6_mist 183 = .ok (.aload_n 0, 1) := dbm_227.2.2.1.1
theorem dX6_mist_184 : decode cX6_mist 184 = .ok (.getfield 31, 3) := dbm_227.2.2.1.2
theorem dX6_mist_187 : decode cX6_mist 187 = .ok (.bipush 7, 2) := dbm_227.2.2.2.1
theorem dX6_mist_189 : decode cX6_mist 189 = .ok (.iload_n 1, 1) := dbm_227.2.2.2.2
theorem dbm_228 : (((((decode cX6_mist 190 = .ok (.imul, 1)) ∧ (decode cX6_mist 191 = .ok (.iload_n 2, 1))) ∧ ((decode cX6_mist 192 = .ok (.iadd, 1)) ∧ (decode cX6_mist 193 = .ok (.iaload, 1)))) ∧ (((decode cX6_mist 194 = .ok (.ifCond .le 8, 3)) ∧ (decode cX6_mist 197 = .ok (.lload 12, 2))) ∧ ((decode cX6_mist 199 = .ok (.goto 4, 3)) ∧ (decode cX6_mist 202 = .ok (.lconst 0, 1))))) ∧ ((((decode cX6_mist 203 = .ok (.ladd, 1)) ∧ (decode cX6_mist 204 = .ok (.lstore 7, 2))) ∧ ((decode cX6_mist 206 = .ok (.aload_n 0, 1)) ∧ (decode cX6_mist 207 = .ok (.invokevirtual 202, 3)))) ∧ (((decode cX6_mist 210 = .ok (.iinc 11 1, 3)) ∧ (decode cX6_mist 213 = .ok (.goto (-93), 3))) ∧ ((decode cX6_mist 216 = .ok (.lload 7, 2)) ∧ (decode cX6_mist 218 = .ok (.lload 9, 2)))))) := by decide +kernel
theorem dX6_mist_190 : decode cX6_mist 190 = .ok (.imul, 1) := dbm_228.1.1.1.1
theorem dX6_mist_191 : decode cX6_mist 191 = .ok (.iload_n 2, 1) := dbm_228.1.1.1.2
theorem dX6_mist_192 : decode cX6_mist 192 = .ok (.iadd, 1) := dbm_228.1.1.2.1
theorem dX6_mist_193 : decode cX6_mist 193 = .ok (.iaload, 1) := dbm_228.1.1.2.2
theorem dX6_mist_194 : decode cX6_mist 194 = .ok (.ifCond .le 8, 3) := dbm_228.1.2.1.1
theorem dX6_mist_197 : decode cX6_mist 197 = .ok (.lload 12, 2) := dbm_228.1.2.1.2
theorem dX6_mist_199 : decode cX6_mist 199 = .ok (.goto 4, 3) := dbm_228.1.2.2.1
theorem dX6_mist_202 : decode cX6_mist 202 = .ok (.lconst 0, 1) := dbm_228.1.2.2.2
theorem dX6_mist_203 : decode cX6_mist 203 = .ok (.ladd, 1) := dbm_228.2.1.1.1
theorem dX6_mist_204 : decode cX6_mist 204 = .ok (.lstore 7, 2) := dbm_228.2.1.1.2
theorem dX6_mist_206 : decode cX6_mist 206 = .ok (.aload_n 0, 1) := dbm_228.2.1.2.1
theorem dX6_mist_207 : decode cX6_mist 207 = .ok (.invokevirtual 202, 3) := dbm_228.2.1.2.2
theorem dX6_mist_210 : decode cX6_mist 210 = .ok (.iinc 11 1, 3) := dbm_228.2.2.1.1
theorem dX6_mist_213 : decode cX6_mist 213 = .ok (.goto (-93), 3) := dbm_228.2.2.1.2
theorem dX6_mist_216 : decode cX6_mist 216 = .ok (.lload 7, 2) := dbm_228.2.2.2.1
theorem dX6_mist_218 : decode cX6_mist 218 = .ok (.lload 9, 2) := dbm_228.2.2.2.2
theorem dbm_229 : (((((decode cX6_mist 220 = .ok (.iload 5, 2)) ∧ (decode cX6_mist 222 = .ok (.invokestatic 287, 3))) ∧ ((decode cX6_mist 225 = .ok (.lreturn, 1)) ∧ (decode cX6_oldestAge 0 = .ok (.iconst 0, 1)))) ∧ (((decode cX6_oldestAge 1 = .ok (.istore_n 1, 1)) ∧ (decode cX6_oldestAge 2 = .ok (.iconst 0, 1))) ∧ ((decode cX6_oldestAge 3 = .ok (.istore_n 2, 1)) ∧ (decode cX6_oldestAge 4 = .ok (.iload_n 2, 1))))) ∧ ((((decode cX6_oldestAge 5 = .ok (.aload_n 0, 1)) ∧ (decode cX6_oldestAge 6 = .ok (.getfield 92, 3))) ∧ ((decode cX6_oldestAge 9 = .ok (.if_icmp .ge 56, 3)) ∧ (decode cX6_oldestAge 12 = .ok (.iconst 0, 1)))) ∧ (((decode cX6_oldestAge 13 = .ok (.istore_n 3, 1)) ∧ (decode cX6_oldestAge 14 = .ok (.iload_n 3, 1))) ∧ ((decode cX6_oldestAge 15 = .ok (.aload_n 0, 1)) ∧ (decode cX6_oldestAge 16 = .ok (.getfield 89, 3)))))) := by decide +kernel
theorem dX6_mist_220 : decode cX6_mist 220 = .ok (.iload 5, 2) := dbm_229.1.1.1.1
theorem dX6_mist_222 : decode cX6_mist 222 = .ok (.invokestatic 287, 3) := dbm_229.1.1.1.2
theorem dX6_mist_225 : decode cX6_mist 225 = .ok (.lreturn, 1) := dbm_229.1.1.2.1
theorem dX6_oldestAge_0 : decode cX6_oldestAge 0 = .ok (.iconst 0, 1) := dbm_229.1.1.2.2
theorem dX6_oldestAge_1 : decode cX6_oldestAge 1 = .ok (.istore_n 1, 1) := dbm_229.1.2.1.1
theorem dX6_oldestAge_2 : decode cX6_oldestAge 2 = .ok (.iconst 0, 1) := dbm_229.1.2.1.2
theorem dX6_oldestAge_3 : decode cX6_oldestAge 3 = .ok (.istore_n 2, 1) := dbm_229.1.2.2.1
theorem dX6_oldestAge_4 : decode cX6_oldestAge 4 = .ok (.iload_n 2, 1) := dbm_229.1.2.2.2
theorem dX6_oldestAge_5 : decode cX6_oldestAge 5 = .ok (.aload_n 0, 1) := dbm_229.2.1.1.1
theorem dX6_oldestAge_6 : decode cX6_oldestAge 6 = .ok (.getfield 92, 3) := dbm_229.2.1.1.2
theorem dX6_oldestAge_9 : decode cX6_oldestAge 9 = .ok (.if_icmp .ge 56, 3) := dbm_229.2.1.2.1
theorem dX6_oldestAge_12 : decode cX6_oldestAge 12 = .ok (.iconst 0, 1) := dbm_229.2.1.2.2
theorem dX6_oldestAge_13 : decode cX6_oldestAge 13 = .ok (.istore_n 3, 1) := dbm_229.2.2.1.1
theorem dX6_oldestAge_14 : decode cX6_oldestAge 14 = .ok (.iload_n 3, 1) := dbm_229.2.2.1.2
theorem dX6_oldestAge_15 : decode cX6_oldestAge 15 = .ok (.aload_n 0, 1) := dbm_229.2.2.2.1
theorem dX6_oldestAge_16 : decode cX6_oldestAge 16 = .ok (.getfield 89, 3) := dbm_229.2.2.2.2
theorem dbm_230 : (((((decode cX6_oldestAge 19 = .ok (.if_icmp .ge 40, 3)) ∧ (decode cX6_oldestAge 22 = .ok (.aload_n 0, 1))) ∧ ((decode cX6_oldestAge 23 = .ok (.getfield 31, 3)) ∧ (decode cX6_oldestAge 26 = .ok (.bipush 7, 2)))) ∧ (((decode cX6_oldestAge 28 = .ok (.iload_n 2, 1)) ∧ (decode cX6_oldestAge 29 = .ok (.imul, 1))) ∧ ((decode cX6_oldestAge 30 = .ok (.iload_n 3, 1)) ∧ (decode cX6_oldestAge 31 = .ok (.iadd, 1))))) ∧ ((((decode cX6_oldestAge 32 = .ok (.iaload, 1)) ∧ (decode cX6_oldestAge 33 = .ok (.iload_n 1, 1))) ∧ ((decode cX6_oldestAge 34 = .ok (.if_icmp .le 17, 3)) ∧ (decode cX6_oldestAge 37 = .ok (.aload_n 0, 1)))) ∧ (((decode cX6_oldestAge 38 = .ok (.getfield 31, 3)) ∧ (decode cX6_oldestAge 41 = .ok (.bipush 7, 2))) ∧ ((decode cX6_oldestAge 43 = .ok (.iload_n 2, 1)) ∧ (decode cX6_oldestAge 44 = .ok (.imul, 1)))))) := by decide +kernel
theorem dX6_oldestAge_19 : decode cX6_oldestAge 19 = .ok (.if_icmp .ge 40, 3) := dbm_230.1.1.1.1
theorem dX6_oldestAge_22 : decode cX6_oldestAge 22 = .ok (.aload_n 0, 1) := dbm_230.1.1.1.2
theorem dX6_oldestAge_23 : decode cX6_oldestAge 23 = .ok (.getfield 31, 3) := dbm_230.1.1.2.1
theorem dX6_oldestAge_26 : decode cX6_oldestAge 26 = .ok (.bipush 7, 2) := dbm_230.1.1.2.2
theorem dX6_oldestAge_28 : decode cX6_oldestAge 28 = .ok (.iload_n 2, 1) := dbm_230.1.2.1.1
theorem dX6_oldestAge_29 : decode cX6_oldestAge 29 = .ok (.imul, 1) := dbm_230.1.2.1.2
theorem dX6_oldestAge_30 : decode cX6_oldestAge 30 = .ok (.iload_n 3, 1) := dbm_230.1.2.2.1
theorem dX6_oldestAge_31 : decode cX6_oldestAge 31 = .ok (.iadd, 1) := dbm_230.1.2.2.2
theorem dX6_oldestAge_32 : decode cX6_oldestAge 32 = .ok (.iaload, 1) := dbm_230.2.1.1.1
theorem dX6_oldestAge_33 : decode cX6_oldestAge 33 = .ok (.iload_n 1, 1) := dbm_230.2.1.1.2
theorem dX6_oldestAge_34 : decode cX6_oldestAge 34 = .ok (.if_icmp .le 17, 3) := dbm_230.2.1.2.1
theorem dX6_oldestAge_37 : decode cX6_oldestAge 37 = .ok (.aload_n 0, 1) := dbm_230.2.1.2.2
theorem dX6_oldestAge_38 : decode cX6_oldestAge 38 = .ok (.getfield 31, 3) := dbm_230.2.2.1.1
theorem dX6_oldestAge_41 : decode cX6_oldestAge 41 = .ok (.bipush 7, 2) := dbm_230.2.2.1.2
theorem dX6_oldestAge_43 : decode cX6_oldestAge 43 = .ok (.iload_n 2, 1) := dbm_230.2.2.2.1
theorem dX6_oldestAge_44 : decode cX6_oldestAge 44 = .ok (.imul, 1) := dbm_230.2.2.2.2
theorem dbm_231 : (((((decode cX6_oldestAge 45 = .ok (.iload_n 3, 1)) ∧ (decode cX6_oldestAge 46 = .ok (.iadd, 1))) ∧ ((decode cX6_oldestAge 47 = .ok (.iaload, 1)) ∧ (decode cX6_oldestAge 48 = .ok (.goto 4, 3)))) ∧ (((decode cX6_oldestAge 51 = .ok (.iload_n 1, 1)) ∧ (decode cX6_oldestAge 52 = .ok (.istore_n 1, 1))) ∧ ((decode cX6_oldestAge 53 = .ok (.iinc 3 1, 3)) ∧ (decode cX6_oldestAge 56 = .ok (.goto (-42), 3))))) ∧ ((((decode cX6_oldestAge 59 = .ok (.iinc 2 1, 3)) ∧ (decode cX6_oldestAge 62 = .ok (.goto (-58), 3))) ∧ ((decode cX6_oldestAge 65 = .ok (.iload_n 1, 1)) ∧ (decode cX6_oldestAge 66 = .ok (.ireturn, 1)))) ∧ (((decode cX6_oldestBy 0 = .ok (.aload_n 0, 1)) ∧ (decode cX6_oldestBy 1 = .ok (.invokevirtual 291, 3))) ∧ ((decode cX6_oldestBy 4 = .ok (.istore_n 1, 1)) ∧ (decode cX6_oldestBy 5 = .ok (.iconst 0, 1)))))) := by decide +kernel
theorem dX6_oldestAge_45 : decode cX6_oldestAge 45 = .ok (.iload_n 3, 1) := dbm_231.1.1.1.1
theorem dX6_oldestAge_46 : decode cX6_oldestAge 46 = .ok (.iadd, 1) := dbm_231.1.1.1.2
theorem dX6_oldestAge_47 : decode cX6_oldestAge 47 = .ok (.iaload, 1) := dbm_231.1.1.2.1
theorem dX6_oldestAge_48 : decode cX6_oldestAge 48 = .ok (.goto 4, 3) := dbm_231.1.1.2.2
theorem dX6_oldestAge_51 : decode cX6_oldestAge 51 = .ok (.iload_n 1, 1) := dbm_231.1.2.1.1
theorem dX6_oldestAge_52 : decode cX6_oldestAge 52 = .ok (.istore_n 1, 1) := dbm_231.1.2.1.2
theorem dX6_oldestAge_53 : decode cX6_oldestAge 53 = .ok (.iinc 3 1, 3) := dbm_231.1.2.2.1
theorem dX6_oldestAge_56 : decode cX6_oldestAge 56 = .ok (.goto (-42), 3) := dbm_231.1.2.2.2
theorem dX6_oldestAge_59 : decode cX6_oldestAge 59 = .ok (.iinc 2 1, 3) := dbm_231.2.1.1.1
theorem dX6_oldestAge_62 : decode cX6_oldestAge 62 = .ok (.goto (-58), 3) := dbm_231.2.1.1.2
theorem dX6_oldestAge_65 : decode cX6_oldestAge 65 = .ok (.iload_n 1, 1) := dbm_231.2.1.2.1
theorem dX6_oldestAge_66 : decode cX6_oldestAge 66 = .ok (.ireturn, 1) := dbm_231.2.1.2.2
theorem dX6_oldestBy_0 : decode cX6_oldestBy 0 = .ok (.aload_n 0, 1) := dbm_231.2.2.1.1
theorem dX6_oldestBy_1 : decode cX6_oldestBy 1 = .ok (.invokevirtual 291, 3) := dbm_231.2.2.1.2
theorem dX6_oldestBy_4 : decode cX6_oldestBy 4 = .ok (.istore_n 1, 1) := dbm_231.2.2.2.1
theorem dX6_oldestBy_5 : decode cX6_oldestBy 5 = .ok (.iconst 0, 1) := dbm_231.2.2.2.2
theorem dbm_232 : (((((decode cX6_oldestBy 6 = .ok (.istore_n 2, 1)) ∧ (decode cX6_oldestBy 7 = .ok (.iload_n 2, 1))) ∧ ((decode cX6_oldestBy 8 = .ok (.aload_n 0, 1)) ∧ (decode cX6_oldestBy 9 = .ok (.getfield 92, 3)))) ∧ (((decode cX6_oldestBy 12 = .ok (.if_icmp .ge 46, 3)) ∧ (decode cX6_oldestBy 15 = .ok (.iload_n 1, 1))) ∧ ((decode cX6_oldestBy 16 = .ok (.ifCond .le 42, 3)) ∧ (decode cX6_oldestBy 19 = .ok (.iconst 0, 1))))) ∧ ((((decode cX6_oldestBy 20 = .ok (.istore_n 3, 1)) ∧ (decode cX6_oldestBy 21 = .ok (.iload_n 3, 1))) ∧ ((decode cX6_oldestBy 22 = .ok (.aload_n 0, 1)) ∧ (decode cX6_oldestBy 23 = .ok (.getfield 89, 3)))) ∧ (((decode cX6_oldestBy 26 = .ok (.if_icmp .ge 26, 3)) ∧ (decode cX6_oldestBy 29 = .ok (.aload_n 0, 1))) ∧ ((decode cX6_oldestBy 30 = .ok (.getfield 31, 3)) ∧ (decode cX6_oldestBy 33 = .ok (.bipush 7, 2)))))) := by decide +kernel
theorem dX6_oldestBy_6 : decode cX6_oldestBy 6 = .ok (.istore_n 2, 1) := dbm_232.1.1.1.1
theorem dX6_oldestBy_7 : decode cX6_oldestBy 7 = .ok (.iload_n 2, 1) := dbm_232.1.1.1.2
theorem dX6_oldestBy_8 : decode cX6_oldestBy 8 = .ok (.aload_n 0, 1) := dbm_232.1.1.2.1
theorem dX6_oldestBy_9 : decode cX6_oldestBy 9 = .ok (.getfield 92, 3) := dbm_232.1.1.2.2
theorem dX6_oldestBy_12 : decode cX6_oldestBy 12 = .ok (.if_icmp .ge 46, 3) := dbm_232.1.2.1.1
theorem dX6_oldestBy_15 : decode cX6_oldestBy 15 = .ok (.iload_n 1, 1) := dbm_232.1.2.1.2
theorem dX6_oldestBy_16 : decode cX6_oldestBy 16 = .ok (.ifCond .le 42, 3) := dbm_232.1.2.2.1
theorem dX6_oldestBy_19 : decode cX6_oldestBy 19 = .ok (.iconst 0, 1) := dbm_232.1.2.2.2
theorem dX6_oldestBy_20 : decode cX6_oldestBy 20 = .ok (.istore_n 3, 1) := dbm_232.2.1.1.1
theorem dX6_oldestBy_21 : decode cX6_oldestBy 21 = .ok (.iload_n 3, 1) := dbm_232.2.1.1.2
theorem dX6_oldestBy_22 : decode cX6_oldestBy 22 = .ok (.aload_n 0, 1) := dbm_232.2.1.2.1
theorem dX6_oldestBy_23 : decode cX6_oldestBy 23 = .ok (.getfield 89, 3) := dbm_232.2.1.2.2
theorem dX6_oldestBy_26 : decode cX6_oldestBy 26 = .ok (.if_icmp .ge 26, 3) := dbm_232.2.2.1.1
theorem dX6_oldestBy_29 : decode cX6_oldestBy 29 = .ok (.aload_n 0, 1) := dbm_232.2.2.1.2
theorem dX6_oldestBy_30 : decode cX6_oldestBy 30 = .ok (.getfield 31, 3) := dbm_232.2.2.2.1
theorem dX6_oldestBy_33 : decode cX6_oldestBy 33 = .ok (.bipush 7, 2) := dbm_232.2.2.2.2
theorem dbm_233 : (((((decode cX6_oldestBy 35 = .ok (.iload_n 2, 1)) ∧ (decode cX6_oldestBy 36 = .ok (.imul, 1))) ∧ ((decode cX6_oldestBy 37 = .ok (.iload_n 3, 1)) ∧ (decode cX6_oldestBy 38 = .ok (.iadd, 1)))) ∧ (((decode cX6_oldestBy 39 = .ok (.iaload, 1)) ∧ (decode cX6_oldestBy 40 = .ok (.iload_n 1, 1))) ∧ ((decode cX6_oldestBy 41 = .ok (.if_icmp .ne 5, 3)) ∧ (decode cX6_oldestBy 44 = .ok (.iload_n 2, 1))))) ∧ ((((decode cX6_oldestBy 45 = .ok (.ireturn, 1)) ∧ (decode cX6_oldestBy 46 = .ok (.iinc 3 1, 3))) ∧ ((decode cX6_oldestBy 49 = .ok (.goto (-28), 3)) ∧ (decode cX6_oldestBy 52 = .ok (.iinc 2 1, 3)))) ∧ (((decode cX6_oldestBy 55 = .ok (.goto (-48), 3)) ∧ (decode cX6_oldestBy 58 = .ok (.bipush (-9), 2))) ∧ ((decode cX6_oldestBy 60 = .ok (.ireturn, 1)) ∧ (decode cX6_laneTwos 0 = .ok (.iconst 0, 1)))))) := by decide +kernel
theorem dX6_oldestBy_35 : decode cX6_oldestBy 35 = .ok (.iload_n 2, 1) := dbm_233.1.1.1.1
theorem dX6_oldestBy_36 : decode cX6_oldestBy 36 = .ok (.imul, 1) := dbm_233.1.1.1.2
theorem dX6_oldestBy_37 : decode cX6_oldestBy 37 = .ok (.iload_n 3, 1) := dbm_233.1.1.2.1
theorem dX6_oldestBy_38 : decode cX6_oldestBy 38 = .ok (.iadd, 1) := dbm_233.1.1.2.2
theorem dX6_oldestBy_39 : decode cX6_oldestBy 39 = .ok (.iaload, 1) := dbm_233.1.2.1.1
theorem dX6_oldestBy_40 : decode cX6_oldestBy 40 = .ok (.iload_n 1, 1) := dbm_233.1.2.1.2
theorem dX6_oldestBy_41 : decode cX6_oldestBy 41 = .ok (.if_icmp .ne 5, 3) := dbm_233.1.2.2.1
theorem dX6_oldestBy_44 : decode cX6_oldestBy 44 = .ok (.iload_n 2, 1) := dbm_233.1.2.2.2
theorem dX6_oldestBy_45 : decode cX6_oldestBy 45 = .ok (.ireturn, 1) := dbm_233.2.1.1.1
theorem dX6_oldestBy_46 : decode cX6_oldestBy 46 = .ok (.iinc 3 1, 3) := dbm_233.2.1.1.2
theorem dX6_oldestBy_49 : decode cX6_oldestBy 49 = .ok (.goto (-28), 3) := dbm_233.2.1.2.1
theorem dX6_oldestBy_52 : decode cX6_oldestBy 52 = .ok (.iinc 2 1, 3) := dbm_233.2.1.2.2
theorem dX6_oldestBy_55 : decode cX6_oldestBy 55 = .ok (.goto (-48), 3) := dbm_233.2.2.1.1
theorem dX6_oldestBy_58 : decode cX6_oldestBy 58 = .ok (.bipush (-9), 2) := dbm_233.2.2.1.2
theorem dX6_oldestBy_60 : decode cX6_oldestBy 60 = .ok (.ireturn, 1) := dbm_233.2.2.2.1
theorem dX6_laneTwos_0 : decode cX6_laneTwos 0 = .ok (.iconst 0, 1) := dbm_233.2.2.2.2
theorem dbm_234 : (((((decode cX6_laneTwos 1 = .ok (.istore_n 1, 1)) ∧ (decode cX6_laneTwos 2 = .ok (.iconst 0, 1))) ∧ ((decode cX6_laneTwos 3 = .ok (.istore_n 2, 1)) ∧ (decode cX6_laneTwos 4 = .ok (.iload_n 2, 1)))) ∧ (((decode cX6_laneTwos 5 = .ok (.aload_n 0, 1)) ∧ (decode cX6_laneTwos 6 = .ok (.getfield 89, 3))) ∧ ((decode cX6_laneTwos 9 = .ok (.if_icmp .ge 71, 3)) ∧ (decode cX6_laneTwos 12 = .ok (.iload_n 2, 1))))) ∧ ((((decode cX6_laneTwos 13 = .ok (.iconst 1, 1)) ∧ (decode cX6_laneTwos 14 = .ok (.iadd, 1))) ∧ ((decode cX6_laneTwos 15 = .ok (.istore_n 3, 1)) ∧ (decode cX6_laneTwos 16 = .ok (.iload_n 3, 1)))) ∧ (((decode cX6_laneTwos 17 = .ok (.aload_n 0, 1)) ∧ (decode cX6_laneTwos 18 = .ok (.getfield 89, 3))) ∧ ((decode cX6_laneTwos 21 = .ok (.if_icmp .ge 53, 3)) ∧ (decode cX6_laneTwos 24 = .ok (.iload_n 1, 1)))))) := by decide +kernel
theorem dX6_laneTwos_1 : decode cX6_laneTwos 1 = .ok (.istore_n 1, 1) := dbm_234.1.1.1.1
theorem dX6_laneTwos_2 : decode cX6_laneTwos 2 = .ok (.iconst 0, 1) := dbm_234.1.1.1.2
theorem dX6_laneTwos_3 : decode cX6_laneTwos 3 = .ok (.istore_n 2, 1) := dbm_234.1.1.2.1
theorem dX6_laneTwos_4 : decode cX6_laneTwos 4 = .ok (.iload_n 2, 1) := dbm_234.1.1.2.2
theorem dX6_laneTwos_5 : decode cX6_laneTwos 5 = .ok (.aload_n 0, 1) := dbm_234.1.2.1.1
theorem dX6_laneTwos_6 : decode cX6_laneTwos 6 = .ok (.getfield 89, 3) := dbm_234.1.2.1.2
theorem dX6_laneTwos_9 : decode cX6_laneTwos 9 = .ok (.if_icmp .ge 71, 3) := dbm_234.1.2.2.1
theorem dX6_laneTwos_12 : decode cX6_laneTwos 12 = .ok (.iload_n 2, 1) := dbm_234.1.2.2.2
theorem dX6_laneTwos_13 : decode cX6_laneTwos 13 = .ok (.iconst 1, 1) := dbm_234.2.1.1.1
theorem dX6_laneTwos_14 : decode cX6_laneTwos 14 = .ok (.iadd, 1) := dbm_234.2.1.1.2
theorem dX6_laneTwos_15 : decode cX6_laneTwos 15 = .ok (.istore_n 3, 1) := dbm_234.2.1.2.1
theorem dX6_laneTwos_16 : decode cX6_laneTwos 16 = .ok (.iload_n 3, 1) := dbm_234.2.1.2.2
theorem dX6_laneTwos_17 : decode cX6_laneTwos 17 = .ok (.aload_n 0, 1) := dbm_234.2.2.1.1
theorem dX6_laneTwos_18 : decode cX6_laneTwos 18 = .ok (.getfield 89, 3) := dbm_234.2.2.1.2
theorem dX6_laneTwos_21 : decode cX6_laneTwos 21 = .ok (.if_icmp .ge 53, 3) := dbm_234.2.2.2.1
theorem dX6_laneTwos_24 : decode cX6_laneTwos 24 = .ok (.iload_n 1, 1) := dbm_234.2.2.2.2
theorem dbm_235 : (((((decode cX6_laneTwos 25 = .ok (.aload_n 0, 1)) ∧ (decode cX6_laneTwos 26 = .ok (.getfield 19, 3))) ∧ ((decode cX6_laneTwos 29 = .ok (.iload_n 2, 1)) ∧ (decode cX6_laneTwos 30 = .ok (.iaload, 1)))) ∧ (((decode cX6_laneTwos 31 = .ok (.aload_n 0, 1)) ∧ (decode cX6_laneTwos 32 = .ok (.getfield 19, 3))) ∧ ((decode cX6_laneTwos 35 = .ok (.iload_n 3, 1)) ∧ (decode cX6_laneTwos 36 = .ok (.iaload, 1))))) ∧ ((((decode cX6_laneTwos 37 = .ok (.iadd, 1)) ∧ (decode cX6_laneTwos 38 = .ok (.iconst 2, 1))) ∧ ((decode cX6_laneTwos 39 = .ok (.if_icmp .ne 26, 3)) ∧ (decode cX6_laneTwos 42 = .ok (.aload_n 0, 1)))) ∧ (((decode cX6_laneTwos 43 = .ok (.getfield 16, 3)) ∧ (decode cX6_laneTwos 46 = .ok (.iload_n 2, 1))) ∧ ((decode cX6_laneTwos 47 = .ok (.iaload, 1)) ∧ (decode cX6_laneTwos 48 = .ok (.aload_n 0, 1)))))) := by decide +kernel
theorem dX6_laneTwos_25 : decode cX6_laneTwos 25 = .ok (.aload_n 0, 1) := dbm_235.1.1.1.1
theorem dX6_laneTwos_26 : decode cX6_laneTwos 26 = .ok (.getfield 19, 3) := dbm_235.1.1.1.2
theorem dX6_laneTwos_29 : decode cX6_laneTwos 29 = .ok (.iload_n 2, 1) := dbm_235.1.1.2.1
theorem dX6_laneTwos_30 : decode cX6_laneTwos 30 = .ok (.iaload, 1) := dbm_235.1.1.2.2
theorem dX6_laneTwos_31 : decode cX6_laneTwos 31 = .ok (.aload_n 0, 1) := dbm_235.1.2.1.1
theorem dX6_laneTwos_32 : decode cX6_laneTwos 32 = .ok (.getfield 19, 3) := dbm_235.1.2.1.2
theorem dX6_laneTwos_35 : decode cX6_laneTwos 35 = .ok (.iload_n 3, 1) := dbm_235.1.2.2.1
theorem dX6_laneTwos_36 : decode cX6_laneTwos 36 = .ok (.iaload, 1) := dbm_235.1.2.2.2
theorem dX6_laneTwos_37 : decode cX6_laneTwos 37 = .ok (.iadd, 1) := dbm_235.2.1.1.1
theorem dX6_laneTwos_38 : decode cX6_laneTwos 38 = .ok (.iconst 2, 1) := dbm_235.2.1.1.2
theorem dX6_laneTwos_39 : decode cX6_laneTwos 39 = .ok (.if_icmp .ne 26, 3) := dbm_235.2.1.2.1
theorem dX6_laneTwos_42 : decode cX6_laneTwos 42 = .ok (.aload_n 0, 1) := dbm_235.2.1.2.2
theorem dX6_laneTwos_43 : decode cX6_laneTwos 43 = .ok (.getfield 16, 3) := dbm_235.2.2.1.1
theorem dX6_laneTwos_46 : decode cX6_laneTwos 46 = .ok (.iload_n 2, 1) := dbm_235.2.2.1.2
theorem dX6_laneTwos_47 : decode cX6_laneTwos 47 = .ok (.iaload, 1) := dbm_235.2.2.2.1
theorem dX6_laneTwos_48 : decode cX6_laneTwos 48 = .ok (.aload_n 0, 1) := dbm_235.2.2.2.2
theorem dbm_236 : (((((decode cX6_laneTwos 49 = .ok (.getfield 16, 3)) ∧ (decode cX6_laneTwos 52 = .ok (.iload_n 3, 1))) ∧ ((decode cX6_laneTwos 53 = .ok (.iaload, 1)) ∧ (decode cX6_laneTwos 54 = .ok (.invokestatic 103, 3)))) ∧ (((decode cX6_laneTwos 57 = .ok (.iconst 2, 1)) ∧ (decode cX6_laneTwos 58 = .ok (.if_icmp .gt 7, 3))) ∧ ((decode cX6_laneTwos 61 = .ok (.iconst 1, 1)) ∧ (decode cX6_laneTwos 62 = .ok (.goto 4, 3))))) ∧ ((((decode cX6_laneTwos 65 = .ok (.iconst 0, 1)) ∧ (decode cX6_laneTwos 66 = .ok (.iadd, 1))) ∧ ((decode cX6_laneTwos 67 = .ok (.istore_n 1, 1)) ∧ (decode cX6_laneTwos 68 = .ok (.iinc 3 1, 3)))) ∧ (((decode cX6_laneTwos 71 = .ok (.goto (-55), 3)) ∧ (decode cX6_laneTwos 74 = .ok (.iinc 2 1, 3))) ∧ ((decode cX6_laneTwos 77 = .ok (.goto (-73), 3)) ∧ (decode cX6_laneTwos 80 = .ok (.iload_n 1, 1)))))) := by decide +kernel
theorem dX6_laneTwos_49 : decode cX6_laneTwos 49 = .ok (.getfield 16, 3) := dbm_236.1.1.1.1
theorem dX6_laneTwos_52 : decode cX6_laneTwos 52 = .ok (.iload_n 3, 1) := dbm_236.1.1.1.2
theorem dX6_laneTwos_53 : decode cX6_laneTwos 53 = .ok (.iaload, 1) := dbm_236.1.1.2.1
theorem dX6_laneTwos_54 : decode cX6_laneTwos 54 = .ok (.invokestatic 103, 3) := dbm_236.1.1.2.2
theorem dX6_laneTwos_57 : decode cX6_laneTwos 57 = .ok (.iconst 2, 1) := dbm_236.1.2.1.1
theorem dX6_laneTwos_58 : decode cX6_laneTwos 58 = .ok (.if_icmp .gt 7, 3) := dbm_236.1.2.1.2
theorem dX6_laneTwos_61 : decode cX6_laneTwos 61 = .ok (.iconst 1, 1) := dbm_236.1.2.2.1
theorem dX6_laneTwos_62 : decode cX6_laneTwos 62 = .ok (.goto 4, 3) := dbm_236.1.2.2.2
theorem dX6_laneTwos_65 : decode cX6_laneTwos 65 = .ok (.iconst 0, 1) := dbm_236.2.1.1.1
theorem dX6_laneTwos_66 : decode cX6_laneTwos 66 = .ok (.iadd, 1) := dbm_236.2.1.1.2
theorem dX6_laneTwos_67 : decode cX6_laneTwos 67 = .ok (.istore_n 1, 1) := dbm_236.2.1.2.1
theorem dX6_laneTwos_68 : decode cX6_laneTwos 68 = .ok (.iinc 3 1, 3) := dbm_236.2.1.2.2
theorem dX6_laneTwos_71 : decode cX6_laneTwos 71 = .ok (.goto (-55), 3) := dbm_236.2.2.1.1
theorem dX6_laneTwos_74 : decode cX6_laneTwos 74 = .ok (.iinc 2 1, 3) := dbm_236.2.2.1.2
theorem dX6_laneTwos_77 : decode cX6_laneTwos 77 = .ok (.goto (-73), 3) := dbm_236.2.2.2.1
theorem dX6_laneTwos_80 : decode cX6_laneTwos 80 = .ok (.iload_n 1, 1) := dbm_236.2.2.2.2
theorem dbm_237 : (((((decode cX6_laneTwos 81 = .ok (.ireturn, 1)) ∧ (decode cX6_darkBits 0 = .ok (.iconst 0, 1))) ∧ ((decode cX6_darkBits 1 = .ok (.istore_n 1, 1)) ∧ (decode cX6_darkBits 2 = .ok (.iconst 0, 1)))) ∧ (((decode cX6_darkBits 3 = .ok (.istore_n 2, 1)) ∧ (decode cX6_darkBits 4 = .ok (.iload_n 2, 1))) ∧ ((decode cX6_darkBits 5 = .ok (.aload_n 0, 1)) ∧ (decode cX6_darkBits 6 = .ok (.getfield 89, 3))))) ∧ ((((decode cX6_darkBits 9 = .ok (.if_icmp .ge 28, 3)) ∧ (decode cX6_darkBits 12 = .ok (.iload_n 1, 1))) ∧ ((decode cX6_darkBits 13 = .ok (.aload_n 0, 1)) ∧ (decode cX6_darkBits 14 = .ok (.getfield 19, 3)))) ∧ (((decode cX6_darkBits 17 = .ok (.iload_n 2, 1)) ∧ (decode cX6_darkBits 18 = .ok (.iaload, 1))) ∧ ((decode cX6_darkBits 19 = .ok (.ifCond .ne 9, 3)) ∧ (decode cX6_darkBits 22 = .ok (.iconst 1, 1)))))) := by decide +kernel
theorem dX6_laneTwos_81 : decode cX6_laneTwos 81 = .ok (.ireturn, 1) := dbm_237.1.1.1.1
theorem dX6_darkBits_0 : decode cX6_darkBits 0 = .ok (.iconst 0, 1) := dbm_237.1.1.1.2
theorem dX6_darkBits_1 : decode cX6_darkBits 1 = .ok (.istore_n 1, 1) := dbm_237.1.1.2.1
theorem dX6_darkBits_2 : decode cX6_darkBits 2 = .ok (.iconst 0, 1) := dbm_237.1.1.2.2
theorem dX6_darkBits_3 : decode cX6_darkBits 3 = .ok (.istore_n 2, 1) := dbm_237.1.2.1.1
theorem dX6_darkBits_4 : decode cX6_darkBits 4 = .ok (.iload_n 2, 1) := dbm_237.1.2.1.2
theorem dX6_darkBits_5 : decode cX6_darkBits 5 = .ok (.aload_n 0, 1) := dbm_237.1.2.2.1
theorem dX6_darkBits_6 : decode cX6_darkBits 6 = .ok (.getfield 89, 3) := dbm_237.1.2.2.2
theorem dX6_darkBits_9 : decode cX6_darkBits 9 = .ok (.if_icmp .ge 28, 3) := dbm_237.2.1.1.1
theorem dX6_darkBits_12 : decode cX6_darkBits 12 = .ok (.iload_n 1, 1) := dbm_237.2.1.1.2
theorem dX6_darkBits_13 : decode cX6_darkBits 13 = .ok (.aload_n 0, 1) := dbm_237.2.1.2.1
theorem dX6_darkBits_14 : decode cX6_darkBits 14 = .ok (.getfield 19, 3) := dbm_237.2.1.2.2
theorem dX6_darkBits_17 : decode cX6_darkBits 17 = .ok (.iload_n 2, 1) := dbm_237.2.2.1.1
theorem dX6_darkBits_18 : decode cX6_darkBits 18 = .ok (.iaload, 1) := dbm_237.2.2.1.2
theorem dX6_darkBits_19 : decode cX6_darkBits 19 = .ok (.ifCond .ne 9, 3) := dbm_237.2.2.2.1
theorem dX6_darkBits_22 : decode cX6_darkBits 22 = .ok (.iconst 1, 1) := dbm_237.2.2.2.2
theorem dbm_238 : (((((decode cX6_darkBits 23 = .ok (.iload_n 2, 1)) ∧ (decode cX6_darkBits 24 = .ok (.ishl, 1))) ∧ ((decode cX6_darkBits 25 = .ok (.goto 4, 3)) ∧ (decode cX6_darkBits 28 = .ok (.iconst 0, 1)))) ∧ (((decode cX6_darkBits 29 = .ok (.ior, 1)) ∧ (decode cX6_darkBits 30 = .ok (.istore_n 1, 1))) ∧ ((decode cX6_darkBits 31 = .ok (.iinc 2 1, 3)) ∧ (decode cX6_darkBits 34 = .ok (.goto (-30), 3))))) ∧ ((((decode cX6_darkBits 37 = .ok (.iload_n 1, 1)) ∧ (decode cX6_darkBits 38 = .ok (.ireturn, 1))) ∧ ((decode cX6_oldest 0 = .ok (.aload_n 0, 1)) ∧ (decode cX6_oldest 1 = .ok (.iconst 0, 1)))) ∧ (((decode cX6_oldest 2 = .ok (.putfield 79, 3)) ∧ (decode cX6_oldest 5 = .ok (.iload_n 1, 1))) ∧ ((decode cX6_oldest 6 = .ok (.tableswitch 63 0 3 #[30, 48, 53, 58], 30)) ∧ (decode cX6_oldest 36 = .ok (.aload_n 0, 1)))))) := by decide +kernel
theorem dX6_darkBits_23 : decode cX6_darkBits 23 = .ok (.iload_n 2, 1) := dbm_238.1.1.1.1
theorem dX6_darkBits_24 : decode cX6_darkBits 24 = .ok (.ishl, 1) := dbm_238.1.1.1.2
theorem dX6_darkBits_25 : decode cX6_darkBits 25 = .ok (.goto 4, 3) := dbm_238.1.1.2.1
theorem dX6_darkBits_28 : decode cX6_darkBits 28 = .ok (.iconst 0, 1) := dbm_238.1.1.2.2
theorem dX6_darkBits_29 : decode cX6_darkBits 29 = .ok (.ior, 1) := dbm_238.1.2.1.1
theorem dX6_darkBits_30 : decode cX6_darkBits 30 = .ok (.istore_n 1, 1) := dbm_238.1.2.1.2
theorem dX6_darkBits_31 : decode cX6_darkBits 31 = .ok (.iinc 2 1, 3) := dbm_238.1.2.2.1
theorem dX6_darkBits_34 : decode cX6_darkBits 34 = .ok (.goto (-30), 3) := dbm_238.1.2.2.2
theorem dX6_darkBits_37 : decode cX6_darkBits 37 = .ok (.iload_n 1, 1) := dbm_238.2.1.1.1
theorem dX6_darkBits_38 : decode cX6_darkBits 38 = .ok (.ireturn, 1) := dbm_238.2.1.1.2
theorem dX6_oldest_0 : decode cX6_oldest 0 = .ok (.aload_n 0, 1) := dbm_238.2.1.2.1
theorem dX6_oldest_1 : decode cX6_oldest 1 = .ok (.iconst 0, 1) := dbm_238.2.1.2.2
theorem dX6_oldest_2 : decode cX6_oldest 2 = .ok (.putfield 79, 3) := dbm_238.2.2.1.1
theorem dX6_oldest_5 : decode cX6_oldest 5 = .ok (.iload_n 1, 1) := dbm_238.2.2.1.2
theorem dX6_oldest_6 : decode cX6_oldest 6 = .ok (.tableswitch 63 0 3 #[30, 48, 53, 58], 30) := dbm_238.2.2.2.1
theorem dX6_oldest_36 : decode cX6_oldest 36 = .ok (.aload_n 0, 1) := dbm_238.2.2.2.2
theorem dbm_239 : (((((decode cX6_oldest 37 = .ok (.invokevirtual 291, 3)) ∧ (decode cX6_oldest 40 = .ok (.ifCond .ne 7, 3))) ∧ ((decode cX6_oldest 43 = .ok (.iconst 0, 1)) ∧ (decode cX6_oldest 44 = .ok (.goto 9, 3)))) ∧ (((decode cX6_oldest 47 = .ok (.aload_n 0, 1)) ∧ (decode cX6_oldest 48 = .ok (.invokevirtual 291, 3))) ∧ ((decode cX6_oldest 51 = .ok (.iconst 1, 1)) ∧ (decode cX6_oldest 52 = .ok (.isub, 1))))) ∧ ((((decode cX6_oldest 53 = .ok (.ireturn, 1)) ∧ (decode cX6_oldest 54 = .ok (.aload_n 0, 1))) ∧ ((decode cX6_oldest 55 = .ok (.invokevirtual 294, 3)) ∧ (decode cX6_oldest 58 = .ok (.ireturn, 1)))) ∧ (((decode cX6_oldest 59 = .ok (.aload_n 0, 1)) ∧ (decode cX6_oldest 60 = .ok (.invokevirtual 297, 3))) ∧ ((decode cX6_oldest 63 = .ok (.ireturn, 1)) ∧ (decode cX6_oldest 64 = .ok (.aload_n 0, 1)))))) := by decide +kernel
theorem dX6_oldest_37 : decode cX6_oldest 37 = .ok (.invokevirtual 291, 3) := dbm_239.1.1.1.1
theorem dX6_oldest_40 : decode cX6_oldest 40 = .ok (.ifCond .ne 7, 3) := dbm_239.1.1.1.2
theorem dX6_oldest_43 : decode cX6_oldest 43 = .ok (.iconst 0, 1) := dbm_239.1.1.2.1
theorem dX6_oldest_44 : decode cX6_oldest 44 = .ok (.goto 9, 3) := dbm_239.1.1.2.2
theorem dX6_oldest_47 : decode cX6_oldest 47 = .ok (.aload_n 0, 1) := dbm_239.1.2.1.1
theorem dX6_oldest_48 : decode cX6_oldest 48 = .ok (.invokevirtual 291, 3) := dbm_239.1.2.1.2
theorem dX6_oldest_51 : decode cX6_oldest 51 = .ok (.iconst 1, 1) := dbm_239.1.2.2.1
theorem dX6_oldest_52 : decode cX6_oldest 52 = .ok (.isub, 1) := dbm_239.1.2.2.2
theorem dX6_oldest_53 : decode cX6_oldest 53 = .ok (.ireturn, 1) := dbm_239.2.1.1.1
theorem dX6_oldest_54 : decode cX6_oldest 54 = .ok (.aload_n 0, 1) := dbm_239.2.1.1.2
theorem dX6_oldest_55 : decode cX6_oldest 55 = .ok (.invokevirtual 294, 3) := dbm_239.2.1.2.1
theorem dX6_oldest_58 : decode cX6_oldest 58 = .ok (.ireturn, 1) := dbm_239.2.1.2.2
theorem dX6_oldest_59 : decode cX6_oldest 59 = .ok (.aload_n 0, 1) := dbm_239.2.2.1.1
theorem dX6_oldest_60 : decode cX6_oldest 60 = .ok (.invokevirtual 297, 3) := dbm_239.2.2.1.2
theorem dX6_oldest_63 : decode cX6_oldest 63 = .ok (.ireturn, 1) := dbm_239.2.2.2.1
theorem dX6_oldest_64 : decode cX6_oldest 64 = .ok (.aload_n 0, 1) := dbm_239.2.2.2.2
theorem dbm_240 : (((((decode cX6_oldest 65 = .ok (.invokevirtual 300, 3)) ∧ (decode cX6_oldest 68 = .ok (.ireturn, 1))) ∧ ((decode cX6_oldest 69 = .ok (.aload_n 0, 1)) ∧ (decode cX6_oldest 70 = .ok (.bipush (-2), 2)))) ∧ (((decode cX6_oldest 72 = .ok (.invokevirtual 143, 3)) ∧ (decode cX6_oldest 75 = .ok (.ireturn, 1))) ∧ ((decode cX6_mean 0 = .ok (.aload_n 0, 1)) ∧ (decode cX6_mean 1 = .ok (.iconst 0, 1))))) ∧ ((((decode cX6_mean 2 = .ok (.putfield 79, 3)) ∧ (decode cX6_mean 5 = .ok (.iload_n 1, 1))) ∧ ((decode cX6_mean 6 = .ok (.i2l, 1)) ∧ (decode cX6_mean 7 = .ok (.lconst 0, 1)))) ∧ (((decode cX6_mean 8 = .ok (.lconst 1, 1)) ∧ (decode cX6_mean 9 = .ok (.invokestatic 85, 3))) ∧ ((decode cX6_mean 12 = .ok (.ifCond .eq 20, 3)) ∧ (decode cX6_mean 15 = .ok (.aload_n 0, 1)))))) := by decide +kernel
theorem dX6_oldest_65 : decode cX6_oldest 65 = .ok (.invokevirtual 300, 3) := dbm_240.1.1.1.1
theorem dX6_oldest_68 : decode cX6_oldest 68 = .ok (.ireturn, 1) := dbm_240.1.1.1.2
theorem dX6_oldest_69 : decode cX6_oldest 69 = .ok (.aload_n 0, 1) := dbm_240.1.1.2.1
theorem dX6_oldest_70 : decode cX6_oldest 70 = .ok (.bipush (-2), 2) := dbm_240.1.1.2.2
theorem dX6_oldest_72 : decode cX6_oldest 72 = .ok (.invokevirtual 143, 3) := dbm_240.1.2.1.1
theorem dX6_oldest_75 : decode cX6_oldest 75 = .ok (.ireturn, 1) := dbm_240.1.2.1.2
theorem dX6_mean_0 : decode cX6_mean 0 = .ok (.aload_n 0, 1) := dbm_240.1.2.2.1
theorem dX6_mean_1 : decode cX6_mean 1 = .ok (.iconst 0, 1) := dbm_240.1.2.2.2
theorem dX6_mean_2 : decode cX6_mean 2 = .ok (.putfield 79, 3) := dbm_240.2.1.1.1
theorem dX6_mean_5 : decode cX6_mean 5 = .ok (.iload_n 1, 1) := dbm_240.2.1.1.2
theorem dX6_mean_6 : decode cX6_mean 6 = .ok (.i2l, 1) := dbm_240.2.1.2.1
theorem dX6_mean_7 : decode cX6_mean 7 = .ok (.lconst 0, 1) := dbm_240.2.1.2.2
theorem dX6_mean_8 : decode cX6_mean 8 = .ok (.lconst 1, 1) := dbm_240.2.2.1.1
theorem dX6_mean_9 : decode cX6_mean 9 = .ok (.invokestatic 85, 3) := dbm_240.2.2.1.2
theorem dX6_mean_12 : decode cX6_mean 12 = .ok (.ifCond .eq 20, 3) := dbm_240.2.2.2.1
theorem dX6_mean_15 : decode cX6_mean 15 = .ok (.aload_n 0, 1) := dbm_240.2.2.2.2
theorem dbm_241 : (((((decode cX6_mean 16 = .ok (.invokevirtual 253, 3)) ∧ (decode cX6_mean 19 = .ok (.i2l, 1))) ∧ ((decode cX6_mean 20 = .ok (.aload_n 0, 1)) ∧ (decode cX6_mean 21 = .ok (.getfield 92, 3)))) ∧ (((decode cX6_mean 24 = .ok (.i2l, 1)) ∧ (decode cX6_mean 25 = .ok (.iload_n 1, 1))) ∧ ((decode cX6_mean 26 = .ok (.invokestatic 287, 3)) ∧ (decode cX6_mean 29 = .ok (.goto 14, 3))))) ∧ ((((decode cX6_mean 32 = .ok (.ldc2_w 285, 3)) ∧ (decode cX6_mean 35 = .ok (.aload_n 0, 1))) ∧ ((decode cX6_mean 36 = .ok (.bipush (-2), 2)) ∧ (decode cX6_mean 38 = .ok (.invokevirtual 143, 3)))) ∧ (((decode cX6_mean 41 = .ok (.i2l, 1)) ∧ (decode cX6_mean 42 = .ok (.lsub, 1))) ∧ ((decode cX6_mean 43 = .ok (.lreturn, 1)) ∧ (decode cX6_forgiven 0 = .ok (.aload_n 0, 1)))))) := by decide +kernel
theorem dX6_mean_16 : decode cX6_mean 16 = .ok (.invokevirtual 253, 3) := dbm_241.1.1.1.1
theorem dX6_mean_19 : decode cX6_mean 19 = .ok (.i2l, 1) := dbm_241.1.1.1.2
theorem dX6_mean_20 : decode cX6_mean 20 = .ok (.aload_n 0, 1) := dbm_241.1.1.2.1
theorem dX6_mean_21 : decode cX6_mean 21 = .ok (.getfield 92, 3) := dbm_241.1.1.2.2
theorem dX6_mean_24 : decode cX6_mean 24 = .ok (.i2l, 1) := dbm_241.1.2.1.1
theorem dX6_mean_25 : decode cX6_mean 25 = .ok (.iload_n 1, 1) := dbm_241.1.2.1.2
theorem dX6_mean_26 : decode cX6_mean 26 = .ok (.invokestatic 287, 3) := dbm_241.1.2.2.1
theorem dX6_mean_29 : decode cX6_mean 29 = .ok (.goto 14, 3) := dbm_241.1.2.2.2
theorem dX6_mean_32 : decode cX6_mean 32 = .ok (.ldc2_w 285, 3) := dbm_241.2.1.1.1
theorem dX6_mean_35 : decode cX6_mean 35 = .ok (.aload_n 0, 1) := dbm_241.2.1.1.2
theorem dX6_mean_36 : decode cX6_mean 36 = .ok (.bipush (-2), 2) := dbm_241.2.1.2.1
theorem dX6_mean_38 : decode cX6_mean 38 = .ok (.invokevirtual 143, 3) := dbm_241.2.1.2.2
theorem dX6_mean_41 : decode cX6_mean 41 = .ok (.i2l, 1) := dbm_241.2.2.1.1
theorem dX6_mean_42 : decode cX6_mean 42 = .ok (.lsub, 1) := dbm_241.2.2.1.2
theorem dX6_mean_43 : decode cX6_mean 43 = .ok (.lreturn, 1) := dbm_241.2.2.2.1
theorem dX6_forgiven_0 : decode cX6_forgiven 0 = .ok (.aload_n 0, 1) := dbm_241.2.2.2.2
theorem dbm_242 : (((((decode cX6_forgiven 1 = .ok (.iconst 0, 1)) ∧ (decode cX6_forgiven 2 = .ok (.putfield 79, 3))) ∧ ((decode cX6_forgiven 5 = .ok (.iconst 0, 1)) ∧ (decode cX6_forgiven 6 = .ok (.istore_n 1, 1)))) ∧ (((decode cX6_forgiven 7 = .ok (.iconst 0, 1)) ∧ (decode cX6_forgiven 8 = .ok (.istore_n 2, 1))) ∧ ((decode cX6_forgiven 9 = .ok (.iload_n 2, 1)) ∧ (decode cX6_forgiven 10 = .ok (.aload_n 0, 1))))) ∧ ((((decode cX6_forgiven 11 = .ok (.getfield 92, 3)) ∧ (decode cX6_forgiven 14 = .ok (.if_icmp .ge 66, 3))) ∧ ((decode cX6_forgiven 17 = .ok (.iconst 0, 1)) ∧ (decode cX6_forgiven 18 = .ok (.istore_n 3, 1)))) ∧ (((decode cX6_forgiven 19 = .ok (.iload_n 3, 1)) ∧ (decode cX6_forgiven 20 = .ok (.aload_n 0, 1))) ∧ ((decode cX6_forgiven 21 = .ok (.getfield 89, 3)) ∧ (decode cX6_forgiven 24 = .ok (.if_icmp .ge 50, 3)))))) := by decide +kernel
theorem dX6_forgiven_1 : decode cX6_forgiven 1 = .ok (.iconst 0, 1) := dbm_242.1.1.1.1
theorem dX6_forgiven_2 : decode cX6_forgiven 2 = .ok (.putfield 79, 3) := dbm_242.1.1.1.2
theorem dX6_forgiven_5 : decode cX6_forgiven 5 = .ok (.iconst 0, 1) := dbm_242.1.1.2.1
theorem dX6_forgiven_6 : decode cX6_forgiven 6 = .ok (.istore_n 1, 1) := dbm_242.1.1.2.2
theorem dX6_forgiven_7 : decode cX6_forgiven 7 = .ok (.iconst 0, 1) := dbm_242.1.2.1.1
theorem dX6_forgiven_8 : decode cX6_forgiven 8 = .ok (.istore_n 2, 1) := dbm_242.1.2.1.2
theorem dX6_forgiven_9 : decode cX6_forgiven 9 = .ok (.iload_n 2, 1) := dbm_242.1.2.2.1
theorem dX6_forgiven_10 : decode cX6_forgiven 10 = .ok (.aload_n 0, 1) := dbm_242.1.2.2.2
theorem dX6_forgiven_11 : decode cX6_forgiven 11 = .ok (.getfield 92, 3) := dbm_242.2.1.1.1
theorem dX6_forgiven_14 : decode cX6_forgiven 14 = .ok (.if_icmp .ge 66, 3) := dbm_242.2.1.1.2
theorem dX6_forgiven_17 : decode cX6_forgiven 17 = .ok (.iconst 0, 1) := dbm_242.2.1.2.1
theorem dX6_forgiven_18 : decode cX6_forgiven 18 = .ok (.istore_n 3, 1) := dbm_242.2.1.2.2
theorem dX6_forgiven_19 : decode cX6_forgiven 19 = .ok (.iload_n 3, 1) := dbm_242.2.2.1.1
theorem dX6_forgiven_20 : decode cX6_forgiven 20 = .ok (.aload_n 0, 1) := dbm_242.2.2.1.2
theorem dX6_forgiven_21 : decode cX6_forgiven 21 = .ok (.getfield 89, 3) := dbm_242.2.2.2.1
theorem dX6_forgiven_24 : decode cX6_forgiven 24 = .ok (.if_icmp .ge 50, 3) := dbm_242.2.2.2.2
theorem dbm_243 : (((((decode cX6_forgiven 27 = .ok (.aload_n 0, 1)) ∧ (decode cX6_forgiven 28 = .ok (.getfield 31, 3))) ∧ ((decode cX6_forgiven 31 = .ok (.bipush 7, 2)) ∧ (decode cX6_forgiven 33 = .ok (.iload_n 2, 1)))) ∧ (((decode cX6_forgiven 34 = .ok (.imul, 1)) ∧ (decode cX6_forgiven 35 = .ok (.iload_n 3, 1))) ∧ ((decode cX6_forgiven 36 = .ok (.iadd, 1)) ∧ (decode cX6_forgiven 37 = .ok (.iaload, 1))))) ∧ ((((decode cX6_forgiven 38 = .ok (.istore 4, 2)) ∧ (decode cX6_forgiven 40 = .ok (.iload_n 1, 1))) ∧ ((decode cX6_forgiven 41 = .ok (.iload 4, 2)) ∧ (decode cX6_forgiven 43 = .ok (.ifCond .le 22, 3)))) ∧ (((decode cX6_forgiven 46 = .ok (.aload_n 0, 1)) ∧ (decode cX6_forgiven 47 = .ok (.iload_n 3, 1))) ∧ ((decode cX6_forgiven 48 = .ok (.iload 4, 2)) ∧ (decode cX6_forgiven 50 = .ok (.iconst 1, 1)))))) := by decide +kernel
theorem dX6_forgiven_27 : decode cX6_forgiven 27 = .ok (.aload_n 0, 1) := dbm_243.1.1.1.1
theorem dX6_forgiven_28 : decode cX6_forgiven 28 = .ok (.getfield 31, 3) := dbm_243.1.1.1.2
theorem dX6_forgiven_31 : decode cX6_forgiven 31 = .ok (.bipush 7, 2) := dbm_243.1.1.2.1
theorem dX6_forgiven_33 : decode cX6_forgiven 33 = .ok (.iload_n 2, 1) := dbm_243.1.1.2.2
theorem dX6_forgiven_34 : decode cX6_forgiven 34 = .ok (.imul, 1) := dbm_243.1.2.1.1
theorem dX6_forgiven_35 : decode cX6_forgiven 35 = .ok (.iload_n 3, 1) := dbm_243.1.2.1.2
theorem dX6_forgiven_36 : decode cX6_forgiven 36 = .ok (.iadd, 1) := dbm_243.1.2.2.1
theorem dX6_forgiven_37 : decode cX6_forgiven 37 = .ok (.iaload, 1) := dbm_243.1.2.2.2
theorem dX6_forgiven_38 : decode cX6_forgiven 38 = .ok (.istore 4, 2) := dbm_243.2.1.1.1
theorem dX6_forgiven_40 : decode cX6_forgiven 40 = .ok (.iload_n 1, 1) := dbm_243.2.1.1.2
theorem dX6_forgiven_41 : decode cX6_forgiven 41 = .ok (.iload 4, 2) := dbm_243.2.1.2.1
theorem dX6_forgiven_43 : decode cX6_forgiven 43 = .ok (.ifCond .le 22, 3) := dbm_243.2.1.2.2
theorem dX6_forgiven_46 : decode cX6_forgiven 46 = .ok (.aload_n 0, 1) := dbm_243.2.2.1.1
theorem dX6_forgiven_47 : decode cX6_forgiven 47 = .ok (.iload_n 3, 1) := dbm_243.2.2.1.2
theorem dX6_forgiven_48 : decode cX6_forgiven 48 = .ok (.iload 4, 2) := dbm_243.2.2.2.1
theorem dX6_forgiven_50 : decode cX6_forgiven 50 = .ok (.iconst 1, 1) := dbm_243.2.2.2.2
theorem dbm_244 : (((((decode cX6_forgiven 51 = .ok (.isub, 1)) ∧ (decode cX6_forgiven 52 = .ok (.invokevirtual 110, 3))) ∧ ((decode cX6_forgiven 55 = .ok (.aload_n 0, 1)) ∧ (decode cX6_forgiven 56 = .ok (.iload_n 3, 1)))) ∧ (((decode cX6_forgiven 57 = .ok (.iconst 0, 1)) ∧ (decode cX6_forgiven 58 = .ok (.invokevirtual 110, 3))) ∧ ((decode cX6_forgiven 61 = .ok (.isub, 1)) ∧ (decode cX6_forgiven 62 = .ok (.goto 4, 3))))) ∧ ((((decode cX6_forgiven 65 = .ok (.iconst 0, 1)) ∧ (decode cX6_forgiven 66 = .ok (.iadd, 1))) ∧ ((decode cX6_forgiven 67 = .ok (.istore_n 1, 1)) ∧ (decode cX6_forgiven 68 = .ok (.iinc 3 1, 3)))) ∧ (((decode cX6_forgiven 71 = .ok (.goto (-52), 3)) ∧ (decode cX6_forgiven 74 = .ok (.iinc 2 1, 3))) ∧ ((decode cX6_forgiven 77 = .ok (.goto (-68), 3)) ∧ (decode cX6_forgiven 80 = .ok (.iload_n 1, 1)))))) := by decide +kernel
theorem dX6_forgiven_51 : decode cX6_forgiven 51 = .ok (.isub, 1) := dbm_244.1.1.1.1
theorem dX6_forgiven_52 : decode cX6_forgiven 52 = .ok (.invokevirtual 110, 3) := dbm_244.1.1.1.2
theorem dX6_forgiven_55 : decode cX6_forgiven 55 = .ok (.aload_n 0, 1) := dbm_244.1.1.2.1
theorem dX6_forgiven_56 : decode cX6_forgiven 56 = .ok (.iload_n 3, 1) := dbm_244.1.1.2.2
theorem dX6_forgiven_57 : decode cX6_forgiven 57 = .ok (.iconst 0, 1) := dbm_244.1.2.1.1
theorem dX6_forgiven_58 : decode cX6_forgiven 58 = .ok (.invokevirtual 110, 3) := dbm_244.1.2.1.2
theorem dX6_forgiven_61 : decode cX6_forgiven 61 = .ok (.isub, 1) := dbm_244.1.2.2.1
theorem dX6_forgiven_62 : decode cX6_forgiven 62 = .ok (.goto 4, 3) := dbm_244.1.2.2.2
theorem dX6_forgiven_65 : decode cX6_forgiven 65 = .ok (.iconst 0, 1) := dbm_244.2.1.1.1
theorem dX6_forgiven_66 : decode cX6_forgiven 66 = .ok (.iadd, 1) := dbm_244.2.1.1.2
theorem dX6_forgiven_67 : decode cX6_forgiven 67 = .ok (.istore_n 1, 1) := dbm_244.2.1.2.1
theorem dX6_forgiven_68 : decode cX6_forgiven 68 = .ok (.iinc 3 1, 3) := dbm_244.2.1.2.2
theorem dX6_forgiven_71 : decode cX6_forgiven 71 = .ok (.goto (-52), 3) := dbm_244.2.2.1.1
theorem dX6_forgiven_74 : decode cX6_forgiven 74 = .ok (.iinc 2 1, 3) := dbm_244.2.2.1.2
theorem dX6_forgiven_77 : decode cX6_forgiven 77 = .ok (.goto (-68), 3) := dbm_244.2.2.2.1
theorem dX6_forgiven_80 : decode cX6_forgiven 80 = .ok (.iload_n 1, 1) := dbm_244.2.2.2.2
theorem dbm_245 : (((((decode cX6_forgiven 81 = .ok (.ireturn, 1)) ∧ (decode cX6_nearest 0 = .ok (.aload_n 0, 1))) ∧ ((decode cX6_nearest 1 = .ok (.iconst 0, 1)) ∧ (decode cX6_nearest 2 = .ok (.putfield 79, 3)))) ∧ (((decode cX6_nearest 5 = .ok (.aload_n 0, 1)) ∧ (decode cX6_nearest 6 = .ok (.iload_n 1, 1))) ∧ ((decode cX6_nearest 7 = .ok (.invokevirtual 184, 3)) ∧ (decode cX6_nearest 10 = .ok (.ifCond .ne 9, 3))))) ∧ ((((decode cX6_nearest 13 = .ok (.aload_n 0, 1)) ∧ (decode cX6_nearest 14 = .ok (.iconst (-1), 1))) ∧ ((decode cX6_nearest 15 = .ok (.invokevirtual 143, 3)) ∧ (decode cX6_nearest 18 = .ok (.ireturn, 1)))) ∧ (((decode cX6_nearest 19 = .ok (.bipush (-9), 2)) ∧ (decode cX6_nearest 21 = .ok (.istore_n 2, 1))) ∧ ((decode cX6_nearest 22 = .ok (.bipush 99, 2)) ∧ (decode cX6_nearest 24 = .ok (.istore_n 3, 1)))))) := by decide +kernel
theorem dX6_forgiven_81 : decode cX6_forgiven 81 = .ok (.ireturn, 1) := dbm_245.1.1.1.1
theorem dX6_nearest_0 : decode cX6_nearest 0 = .ok (.aload_n 0, 1) := dbm_245.1.1.1.2
theorem dX6_nearest_1 : decode cX6_nearest 1 = .ok (.iconst 0, 1) := dbm_245.1.1.2.1
theorem dX6_nearest_2 : decode cX6_nearest 2 = .ok (.putfield 79, 3) := dbm_245.1.1.2.2
theorem dX6_nearest_5 : decode cX6_nearest 5 = .ok (.aload_n 0, 1) := dbm_245.1.2.1.1
theorem dX6_nearest_6 : decode cX6_nearest 6 = .ok (.iload_n 1, 1) := dbm_245.1.2.1.2
theorem dX6_nearest_7 : decode cX6_nearest 7 = .ok (.invokevirtual 184, 3) := dbm_245.1.2.2.1
theorem dX6_nearest_10 : decode cX6_nearest 10 = .ok (.ifCond .ne 9, 3) := dbm_245.1.2.2.2
theorem dX6_nearest_13 : decode cX6_nearest 13 = .ok (.aload_n 0, 1) := dbm_245.2.1.1.1
theorem dX6_nearest_14 : decode cX6_nearest 14 = .ok (.iconst (-1), 1) := dbm_245.2.1.1.2
theorem dX6_nearest_15 : decode cX6_nearest 15 = .ok (.invokevirtual 143, 3) := dbm_245.2.1.2.1
theorem dX6_nearest_18 : decode cX6_nearest 18 = .ok (.ireturn, 1) := dbm_245.2.1.2.2
theorem dX6_nearest_19 : decode cX6_nearest 19 = .ok (.bipush (-9), 2) := dbm_245.2.2.1.1
theorem dX6_nearest_21 : decode cX6_nearest 21 = .ok (.istore_n 2, 1) := dbm_245.2.2.1.2
theorem dX6_nearest_22 : decode cX6_nearest 22 = .ok (.bipush 99, 2) := dbm_245.2.2.2.1
theorem dX6_nearest_24 : decode cX6_nearest 24 = .ok (.istore_n 3, 1) := dbm_245.2.2.2.2
theorem dbm_246 : (((((decode cX6_nearest 25 = .ok (.iconst 0, 1)) ∧ (decode cX6_nearest 26 = .ok (.istore 4, 2))) ∧ ((decode cX6_nearest 28 = .ok (.iload 4, 2)) ∧ (decode cX6_nearest 30 = .ok (.aload_n 0, 1)))) ∧ (((decode cX6_nearest 31 = .ok (.getfield 89, 3)) ∧ (decode cX6_nearest 34 = .ok (.if_icmp .ge 73, 3))) ∧ ((decode cX6_nearest 37 = .ok (.aload_n 0, 1)) ∧ (decode cX6_nearest 38 = .ok (.getfield 31, 3))))) ∧ ((((decode cX6_nearest 41 = .ok (.bipush 7, 2)) ∧ (decode cX6_nearest 43 = .ok (.iload_n 1, 1))) ∧ ((decode cX6_nearest 44 = .ok (.imul, 1)) ∧ (decode cX6_nearest 45 = .ok (.iload 4, 2)))) ∧ (((decode cX6_nearest 47 = .ok (.iadd, 1)) ∧ (decode cX6_nearest 48 = .ok (.iaload, 1))) ∧ ((decode cX6_nearest 49 = .ok (.ifCond .le 22, 3)) ∧ (decode cX6_nearest 52 = .ok (.aload_n 0, 1)))))) := by decide +kernel
theorem dX6_nearest_25 : decode cX6_nearest 25 = .ok (.iconst 0, 1) := dbm_246.1.1.1.1
theorem dX6_nearest_26 : decode cX6_nearest 26 = .ok (.istore 4, 2) := dbm_246.1.1.1.2
theorem dX6_nearest_28 : decode cX6_nearest 28 = .ok (.iload 4, 2) := dbm_246.1.1.2.1
theorem dX6_nearest_30 : decode cX6_nearest 30 = .ok (.aload_n 0, 1) := dbm_246.1.1.2.2
theorem dX6_nearest_31 : decode cX6_nearest 31 = .ok (.getfield 89, 3) := dbm_246.1.2.1.1
theorem dX6_nearest_34 : decode cX6_nearest 34 = .ok (.if_icmp .ge 73, 3) := dbm_246.1.2.1.2
theorem dX6_nearest_37 : decode cX6_nearest 37 = .ok (.aload_n 0, 1) := dbm_246.1.2.2.1
theorem dX6_nearest_38 : decode cX6_nearest 38 = .ok (.getfield 31, 3) := dbm_246.1.2.2.2
theorem dX6_nearest_41 : decode cX6_nearest 41 = .ok (.bipush 7, 2) := dbm_246.2.1.1.1
theorem dX6_nearest_43 : decode cX6_nearest 43 = .ok (.iload_n 1, 1) := dbm_246.2.1.1.2
theorem dX6_nearest_44 : decode cX6_nearest 44 = .ok (.imul, 1) := dbm_246.2.1.2.1
theorem dX6_nearest_45 : decode cX6_nearest 45 = .ok (.iload 4, 2) := dbm_246.2.1.2.2
theorem dX6_nearest_47 : decode cX6_nearest 47 = .ok (.iadd, 1) := dbm_246.2.2.1.1
theorem dX6_nearest_48 : decode cX6_nearest 48 = .ok (.iaload, 1) := dbm_246.2.2.1.2
theorem dX6_nearest_49 : decode cX6_nearest 49 = .ok (.ifCond .le 22, 3) := dbm_246.2.2.2.1
theorem dX6_nearest_52 : decode cX6_nearest 52 = .ok (.aload_n 0, 1) := dbm_246.2.2.2.2
theorem dbm_247 : (((((decode cX6_nearest 53 = .ok (.getfield 22, 3)) ∧ (decode cX6_nearest 56 = .ok (.iload_n 1, 1))) ∧ ((decode cX6_nearest 57 = .ok (.iaload, 1)) ∧ (decode cX6_nearest 58 = .ok (.aload_n 0, 1)))) ∧ (((decode cX6_nearest 59 = .ok (.getfield 16, 3)) ∧ (decode cX6_nearest 62 = .ok (.iload 4, 2))) ∧ ((decode cX6_nearest 64 = .ok (.iaload, 1)) ∧ (decode cX6_nearest 65 = .ok (.invokestatic 103, 3))))) ∧ ((((decode cX6_nearest 68 = .ok (.goto 5, 3)) ∧ (decode cX6_nearest 71 = .ok (.bipush 99, 2))) ∧ ((decode cX6_nearest 73 = .ok (.istore 5, 2)) ∧ (decode cX6_nearest 75 = .ok (.iload 5, 2)))) ∧ (((decode cX6_nearest 77 = .ok (.iload_n 3, 1)) ∧ (decode cX6_nearest 78 = .ok (.if_icmp .ge 8, 3))) ∧ ((decode cX6_nearest 81 = .ok (.iload 4, 2)) ∧ (decode cX6_nearest 83 = .ok (.goto 4, 3)))))) := by decide +kernel
theorem dX6_nearest_53 : decode cX6_nearest 53 = .ok (.getfield 22, 3) := dbm_247.1.1.1.1
theorem dX6_nearest_56 : decode cX6_nearest 56 = .ok (.iload_n 1, 1) := dbm_247.1.1.1.2
theorem dX6_nearest_57 : decode cX6_nearest 57 = .ok (.iaload, 1) := dbm_247.1.1.2.1
theorem dX6_nearest_58 : decode cX6_nearest 58 = .ok (.aload_n 0, 1) := dbm_247.1.1.2.2
theorem dX6_nearest_59 : decode cX6_nearest 59 = .ok (.getfield 16, 3) := dbm_247.1.2.1.1
theorem dX6_nearest_62 : decode cX6_nearest 62 = .ok (.iload 4, 2) := dbm_247.1.2.1.2
theorem dX6_nearest_64 : decode cX6_nearest 64 = .ok (.iaload, 1) := dbm_247.1.2.2.1
theorem dX6_nearest_65 : decode cX6_nearest 65 = .ok (.invokestatic 103, 3) := dbm_247.1.2.2.2
theorem dX6_nearest_68 : decode cX6_nearest 68 = .ok (.goto 5, 3) := dbm_247.2.1.1.1
theorem dX6_nearest_71 : decode cX6_nearest 71 = .ok (.bipush 99, 2) := dbm_247.2.1.1.2
theorem dX6_nearest_73 : decode cX6_nearest 73 = .ok (.istore 5, 2) := dbm_247.2.1.2.1
theorem dX6_nearest_75 : decode cX6_nearest 75 = .ok (.iload 5, 2) := dbm_247.2.1.2.2
theorem dX6_nearest_77 : decode cX6_nearest 77 = .ok (.iload_n 3, 1) := dbm_247.2.2.1.1
theorem dX6_nearest_78 : decode cX6_nearest 78 = .ok (.if_icmp .ge 8, 3) := dbm_247.2.2.1.2
theorem dX6_nearest_81 : decode cX6_nearest 81 = .ok (.iload 4, 2) := dbm_247.2.2.2.1
theorem dX6_nearest_83 : decode cX6_nearest 83 = .ok (.goto 4, 3) := dbm_247.2.2.2.2
theorem dbm_248 : (((((decode cX6_nearest 86 = .ok (.iload_n 2, 1)) ∧ (decode cX6_nearest 87 = .ok (.istore_n 2, 1))) ∧ ((decode cX6_nearest 88 = .ok (.iload 5, 2)) ∧ (decode cX6_nearest 90 = .ok (.iload_n 3, 1)))) ∧ (((decode cX6_nearest 91 = .ok (.if_icmp .ge 8, 3)) ∧ (decode cX6_nearest 94 = .ok (.iload 5, 2))) ∧ ((decode cX6_nearest 96 = .ok (.goto 4, 3)) ∧ (decode cX6_nearest 99 = .ok (.iload_n 3, 1))))) ∧ ((((decode cX6_nearest 100 = .ok (.istore_n 3, 1)) ∧ (decode cX6_nearest 101 = .ok (.iinc 4 1, 3))) ∧ ((decode cX6_nearest 104 = .ok (.goto (-76), 3)) ∧ (decode cX6_nearest 107 = .ok (.iload_n 2, 1)))) ∧ (((decode cX6_nearest 108 = .ok (.ireturn, 1)) ∧ (decode cX6_allSeen 0 = .ok (.aload_n 0, 1))) ∧ ((decode cX6_allSeen 1 = .ok (.iconst 0, 1)) ∧ (decode cX6_allSeen 2 = .ok (.putfield 79, 3)))))) := by decide +kernel
theorem dX6_nearest_86 : decode cX6_nearest 86 = .ok (.iload_n 2, 1) := dbm_248.1.1.1.1
theorem dX6_nearest_87 : decode cX6_nearest 87 = .ok (.istore_n 2, 1) := dbm_248.1.1.1.2
theorem dX6_nearest_88 : decode cX6_nearest 88 = .ok (.iload 5, 2) := dbm_248.1.1.2.1
theorem dX6_nearest_90 : decode cX6_nearest 90 = .ok (.iload_n 3, 1) := dbm_248.1.1.2.2
theorem dX6_nearest_91 : decode cX6_nearest 91 = .ok (.if_icmp .ge 8, 3) := dbm_248.1.2.1.1
theorem dX6_nearest_94 : decode cX6_nearest 94 = .ok (.iload 5, 2) := dbm_248.1.2.1.2
theorem dX6_nearest_96 : decode cX6_nearest 96 = .ok (.goto 4, 3) := dbm_248.1.2.2.1
theorem dX6_nearest_99 : decode cX6_nearest 99 = .ok (.iload_n 3, 1) := dbm_248.1.2.2.2
theorem dX6_nearest_100 : decode cX6_nearest 100 = .ok (.istore_n 3, 1) := dbm_248.2.1.1.1
theorem dX6_nearest_101 : decode cX6_nearest 101 = .ok (.iinc 4 1, 3) := dbm_248.2.1.1.2
theorem dX6_nearest_104 : decode cX6_nearest 104 = .ok (.goto (-76), 3) := dbm_248.2.1.2.1
theorem dX6_nearest_107 : decode cX6_nearest 107 = .ok (.iload_n 2, 1) := dbm_248.2.1.2.2
theorem dX6_nearest_108 : decode cX6_nearest 108 = .ok (.ireturn, 1) := dbm_248.2.2.1.1
theorem dX6_allSeen_0 : decode cX6_allSeen 0 = .ok (.aload_n 0, 1) := dbm_248.2.2.1.2
theorem dX6_allSeen_1 : decode cX6_allSeen 1 = .ok (.iconst 0, 1) := dbm_248.2.2.2.1
theorem dX6_allSeen_2 : decode cX6_allSeen 2 = .ok (.putfield 79, 3) := dbm_248.2.2.2.2
theorem dbm_249 : (((((decode cX6_allSeen 5 = .ok (.aload_n 0, 1)) ∧ (decode cX6_allSeen 6 = .ok (.iload_n 1, 1))) ∧ ((decode cX6_allSeen 7 = .ok (.invokevirtual 181, 3)) ∧ (decode cX6_allSeen 10 = .ok (.ifCond .ne 9, 3)))) ∧ (((decode cX6_allSeen 13 = .ok (.aload_n 0, 1)) ∧ (decode cX6_allSeen 14 = .ok (.iconst (-1), 1))) ∧ ((decode cX6_allSeen 15 = .ok (.invokevirtual 143, 3)) ∧ (decode cX6_allSeen 18 = .ok (.ireturn, 1))))) ∧ ((((decode cX6_allSeen 19 = .ok (.iconst 0, 1)) ∧ (decode cX6_allSeen 20 = .ok (.istore_n 2, 1))) ∧ ((decode cX6_allSeen 21 = .ok (.iconst 0, 1)) ∧ (decode cX6_allSeen 22 = .ok (.istore_n 3, 1)))) ∧ (((decode cX6_allSeen 23 = .ok (.iload_n 3, 1)) ∧ (decode cX6_allSeen 24 = .ok (.bipush 49, 2))) ∧ ((decode cX6_allSeen 26 = .ok (.if_icmp .ge 35, 3)) ∧ (decode cX6_allSeen 29 = .ok (.iload_n 2, 1)))))) := by decide +kernel
theorem dX6_allSeen_5 : decode cX6_allSeen 5 = .ok (.aload_n 0, 1) := dbm_249.1.1.1.1
theorem dX6_allSeen_6 : decode cX6_allSeen 6 = .ok (.iload_n 1, 1) := dbm_249.1.1.1.2
theorem dX6_allSeen_7 : decode cX6_allSeen 7 = .ok (.invokevirtual 181, 3) := dbm_249.1.1.2.1
theorem dX6_allSeen_10 : decode cX6_allSeen 10 = .ok (.ifCond .ne 9, 3) := dbm_249.1.1.2.2
theorem dX6_allSeen_13 : decode cX6_allSeen 13 = .ok (.aload_n 0, 1) := dbm_249.1.2.1.1
theorem dX6_allSeen_14 : decode cX6_allSeen 14 = .ok (.iconst (-1), 1) := dbm_249.1.2.1.2
theorem dX6_allSeen_15 : decode cX6_allSeen 15 = .ok (.invokevirtual 143, 3) := dbm_249.1.2.2.1
theorem dX6_allSeen_18 : decode cX6_allSeen 18 = .ok (.ireturn, 1) := dbm_249.1.2.2.2
theorem dX6_allSeen_19 : decode cX6_allSeen 19 = .ok (.iconst 0, 1) := dbm_249.2.1.1.1
theorem dX6_allSeen_20 : decode cX6_allSeen 20 = .ok (.istore_n 2, 1) := dbm_249.2.1.1.2
theorem dX6_allSeen_21 : decode cX6_allSeen 21 = .ok (.iconst 0, 1) := dbm_249.2.1.2.1
theorem dX6_allSeen_22 : decode cX6_allSeen 22 = .ok (.istore_n 3, 1) := dbm_249.2.1.2.2
theorem dX6_allSeen_23 : decode cX6_allSeen 23 = .ok (.iload_n 3, 1) := dbm_249.2.2.1.1
theorem dX6_allSeen_24 : decode cX6_allSeen 24 = .ok (.bipush 49, 2) := dbm_249.2.2.1.2
theorem dX6_allSeen_26 : decode cX6_allSeen 26 = .ok (.if_icmp .ge 35, 3) := dbm_249.2.2.2.1
theorem dX6_allSeen_29 : decode cX6_allSeen 29 = .ok (.iload_n 2, 1) := dbm_249.2.2.2.2
theorem dbm_250 : (((((decode cX6_allSeen 30 = .ok (.iload_n 3, 1)) ∧ (decode cX6_allSeen 31 = .ok (.aload_n 0, 1))) ∧ ((decode cX6_allSeen 32 = .ok (.getfield 16, 3)) ∧ (decode cX6_allSeen 35 = .ok (.iload_n 1, 1)))) ∧ (((decode cX6_allSeen 36 = .ok (.iaload, 1)) ∧ (decode cX6_allSeen 37 = .ok (.invokestatic 103, 3))) ∧ ((decode cX6_allSeen 40 = .ok (.aload_n 0, 1)) ∧ (decode cX6_allSeen 41 = .ok (.iload_n 1, 1))))) ∧ ((((decode cX6_allSeen 42 = .ok (.invokevirtual 99, 3)) ∧ (decode cX6_allSeen 45 = .ok (.if_icmp .gt 7, 3))) ∧ ((decode cX6_allSeen 48 = .ok (.iconst 1, 1)) ∧ (decode cX6_allSeen 49 = .ok (.goto 4, 3)))) ∧ (((decode cX6_allSeen 52 = .ok (.iconst 0, 1)) ∧ (decode cX6_allSeen 53 = .ok (.iadd, 1))) ∧ ((decode cX6_allSeen 54 = .ok (.istore_n 2, 1)) ∧ (decode cX6_allSeen 55 = .ok (.iinc 3 1, 3)))))) := by decide +kernel
theorem dX6_allSeen_30 : decode cX6_allSeen 30 = .ok (.iload_n 3, 1) := dbm_250.1.1.1.1
theorem dX6_allSeen_31 : decode cX6_allSeen 31 = .ok (.aload_n 0, 1) := dbm_250.1.1.1.2
theorem dX6_allSeen_32 : decode cX6_allSeen 32 = .ok (.getfield 16, 3) := dbm_250.1.1.2.1
theorem dX6_allSeen_35 : decode cX6_allSeen 35 = .ok (.iload_n 1, 1) := dbm_250.1.1.2.2
theorem dX6_allSeen_36 : decode cX6_allSeen 36 = .ok (.iaload, 1) := dbm_250.1.2.1.1
theorem dX6_allSeen_37 : decode cX6_allSeen 37 = .ok (.invokestatic 103, 3) := dbm_250.1.2.1.2
theorem dX6_allSeen_40 : decode cX6_allSeen 40 = .ok (.aload_n 0, 1) := dbm_250.1.2.2.1
theorem dX6_allSeen_41 : decode cX6_allSeen 41 = .ok (.iload_n 1, 1) := dbm_250.1.2.2.2
theorem dX6_allSeen_42 : decode cX6_allSeen 42 = .ok (.invokevirtual 99, 3) := dbm_250.2.1.1.1
theorem dX6_allSeen_45 : decode cX6_allSeen 45 = .ok (.if_icmp .gt 7, 3) := dbm_250.2.1.1.2
theorem dX6_allSeen_48 : decode cX6_allSeen 48 = .ok (.iconst 1, 1) := dbm_250.2.1.2.1
theorem dX6_allSeen_49 : decode cX6_allSeen 49 = .ok (.goto 4, 3) := dbm_250.2.1.2.2
theorem dX6_allSeen_52 : decode cX6_allSeen 52 = .ok (.iconst 0, 1) := dbm_250.2.2.1.1
theorem dX6_allSeen_53 : decode cX6_allSeen 53 = .ok (.iadd, 1) := dbm_250.2.2.1.2
theorem dX6_allSeen_54 : decode cX6_allSeen 54 = .ok (.istore_n 2, 1) := dbm_250.2.2.2.1
theorem dX6_allSeen_55 : decode cX6_allSeen 55 = .ok (.iinc 3 1, 3) := dbm_250.2.2.2.2
theorem dbm_251 : (((((decode cX6_allSeen 58 = .ok (.goto (-35), 3)) ∧ (decode cX6_allSeen 61 = .ok (.iload_n 2, 1))) ∧ ((decode cX6_allSeen 62 = .ok (.ireturn, 1)) ∧ (decode cX6_gaps 0 = .ok (.aload_n 0, 1)))) ∧ (((decode cX6_gaps 1 = .ok (.iconst 0, 1)) ∧ (decode cX6_gaps 2 = .ok (.putfield 79, 3))) ∧ ((decode cX6_gaps 5 = .ok (.bipush (-9), 2)) ∧ (decode cX6_gaps 7 = .ok (.istore_n 1, 1))))) ∧ ((((decode cX6_gaps 8 = .ok (.aload_n 0, 1)) ∧ (decode cX6_gaps 9 = .ok (.invokevirtual 196, 3))) ∧ ((decode cX6_gaps 12 = .ok (.iconst 0, 1)) ∧ (decode cX6_gaps 13 = .ok (.istore_n 2, 1)))) ∧ (((decode cX6_gaps 14 = .ok (.iload_n 2, 1)) ∧ (decode cX6_gaps 15 = .ok (.bipush 60, 2))) ∧ ((decode cX6_gaps 17 = .ok (.if_icmp .gt 38, 3)) ∧ (decode cX6_gaps 20 = .ok (.iload_n 1, 1)))))) := by decide +kernel
theorem dX6_allSeen_58 : decode cX6_allSeen 58 = .ok (.goto (-35), 3) := dbm_251.1.1.1.1
theorem dX6_allSeen_61 : decode cX6_allSeen 61 = .ok (.iload_n 2, 1) := dbm_251.1.1.1.2
theorem dX6_allSeen_62 : decode cX6_allSeen 62 = .ok (.ireturn, 1) := dbm_251.1.1.2.1
theorem dX6_gaps_0 : decode cX6_gaps 0 = .ok (.aload_n 0, 1) := dbm_251.1.1.2.2
theorem dX6_gaps_1 : decode cX6_gaps 1 = .ok (.iconst 0, 1) := dbm_251.1.2.1.1
theorem dX6_gaps_2 : decode cX6_gaps 2 = .ok (.putfield 79, 3) := dbm_251.1.2.1.2
theorem dX6_gaps_5 : decode cX6_gaps 5 = .ok (.bipush (-9), 2) := dbm_251.1.2.2.1
theorem dX6_gaps_7 : decode cX6_gaps 7 = .ok (.istore_n 1, 1) := dbm_251.1.2.2.2
theorem dX6_gaps_8 : decode cX6_gaps 8 = .ok (.aload_n 0, 1) := dbm_251.2.1.1.1
theorem dX6_gaps_9 : decode cX6_gaps 9 = .ok (.invokevirtual 196, 3) := dbm_251.2.1.1.2
theorem dX6_gaps_12 : decode cX6_gaps 12 = .ok (.iconst 0, 1) := dbm_251.2.1.2.1
theorem dX6_gaps_13 : decode cX6_gaps 13 = .ok (.istore_n 2, 1) := dbm_251.2.1.2.2
theorem dX6_gaps_14 : decode cX6_gaps 14 = .ok (.iload_n 2, 1) := dbm_251.2.2.1.1
theorem dX6_gaps_15 : decode cX6_gaps 15 = .ok (.bipush 60, 2) := dbm_251.2.2.1.2
theorem dX6_gaps_17 : decode cX6_gaps 17 = .ok (.if_icmp .gt 38, 3) := dbm_251.2.2.2.1
theorem dX6_gaps_20 : decode cX6_gaps 20 = .ok (.iload_n 1, 1) := dbm_251.2.2.2.2
theorem dbm_252 : (((((decode cX6_gaps 21 = .ok (.ifCond .ge 34, 3)) ∧ (decode cX6_gaps 24 = .ok (.aload_n 0, 1))) ∧ ((decode cX6_gaps 25 = .ok (.invokevirtual 247, 3)) ∧ (decode cX6_gaps 28 = .ok (.istore_n 3, 1)))) ∧ (((decode cX6_gaps 29 = .ok (.aload_n 0, 1)) ∧ (decode cX6_gaps 30 = .ok (.iconst 0, 1))) ∧ ((decode cX6_gaps 31 = .ok (.invokevirtual 135, 3)) ∧ (decode cX6_gaps 34 = .ok (.aload_n 0, 1))))) ∧ ((((decode cX6_gaps 35 = .ok (.invokevirtual 247, 3)) ∧ (decode cX6_gaps 38 = .ok (.iload_n 3, 1))) ∧ ((decode cX6_gaps 39 = .ok (.if_icmp .ne 7, 3)) ∧ (decode cX6_gaps 42 = .ok (.iload_n 2, 1)))) ∧ (((decode cX6_gaps 43 = .ok (.goto 5, 3)) ∧ (decode cX6_gaps 46 = .ok (.bipush (-9), 2))) ∧ ((decode cX6_gaps 48 = .ok (.istore_n 1, 1)) ∧ (decode cX6_gaps 49 = .ok (.iinc 2 1, 3)))))) := by decide +kernel
theorem dX6_gaps_21 : decode cX6_gaps 21 = .ok (.ifCond .ge 34, 3) := dbm_252.1.1.1.1
theorem dX6_gaps_24 : decode cX6_gaps 24 = .ok (.aload_n 0, 1) := dbm_252.1.1.1.2
theorem dX6_gaps_25 : decode cX6_gaps 25 = .ok (.invokevirtual 247, 3) := dbm_252.1.1.2.1
theorem dX6_gaps_28 : decode cX6_gaps 28 = .ok (.istore_n 3, 1) := dbm_252.1.1.2.2
theorem dX6_gaps_29 : decode cX6_gaps 29 = .ok (.aload_n 0, 1) := dbm_252.1.2.1.1
theorem dX6_gaps_30 : decode cX6_gaps 30 = .ok (.iconst 0, 1) := dbm_252.1.2.1.2
theorem dX6_gaps_31 : decode cX6_gaps 31 = .ok (.invokevirtual 135, 3) := dbm_252.1.2.2.1
theorem dX6_gaps_34 : decode cX6_gaps 34 = .ok (.aload_n 0, 1) := dbm_252.1.2.2.2
theorem dX6_gaps_35 : decode cX6_gaps 35 = .ok (.invokevirtual 247, 3) := dbm_252.2.1.1.1
theorem dX6_gaps_38 : decode cX6_gaps 38 = .ok (.iload_n 3, 1) := dbm_252.2.1.1.2
theorem dX6_gaps_39 : decode cX6_gaps 39 = .ok (.if_icmp .ne 7, 3) := dbm_252.2.1.2.1
theorem dX6_gaps_42 : decode cX6_gaps 42 = .ok (.iload_n 2, 1) := dbm_252.2.1.2.2
theorem dX6_gaps_43 : decode cX6_gaps 43 = .ok (.goto 5, 3) := dbm_252.2.2.1.1
theorem dX6_gaps_46 : decode cX6_gaps 46 = .ok (.bipush (-9), 2) := dbm_252.2.2.1.2
theorem dX6_gaps_48 : decode cX6_gaps 48 = .ok (.istore_n 1, 1) := dbm_252.2.2.2.1
theorem dX6_gaps_49 : decode cX6_gaps 49 = .ok (.iinc 2 1, 3) := dbm_252.2.2.2.2
theorem dbm_253 : (((((decode cX6_gaps 52 = .ok (.goto (-38), 3)) ∧ (decode cX6_gaps 55 = .ok (.aload_n 0, 1))) ∧ ((decode cX6_gaps 56 = .ok (.invokevirtual 202, 3)) ∧ (decode cX6_gaps 59 = .ok (.iload_n 1, 1)))) ∧ (((decode cX6_gaps 60 = .ok (.ireturn, 1)) ∧ (decode cX6_blind 0 = .ok (.aload_n 0, 1))) ∧ ((decode cX6_blind 1 = .ok (.iconst 0, 1)) ∧ (decode cX6_blind 2 = .ok (.putfield 79, 3))))) ∧ ((((decode cX6_blind 5 = .ok (.iconst 0, 1)) ∧ (decode cX6_blind 6 = .ok (.istore_n 1, 1))) ∧ ((decode cX6_blind 7 = .ok (.iconst 0, 1)) ∧ (decode cX6_blind 8 = .ok (.istore_n 2, 1)))) ∧ (((decode cX6_blind 9 = .ok (.iload_n 2, 1)) ∧ (decode cX6_blind 10 = .ok (.aload_n 0, 1))) ∧ ((decode cX6_blind 11 = .ok (.getfield 92, 3)) ∧ (decode cX6_blind 14 = .ok (.if_icmp .ge 33, 3)))))) := by decide +kernel
theorem dX6_gaps_52 : decode cX6_gaps 52 = .ok (.goto (-38), 3) := dbm_253.1.1.1.1
theorem dX6_gaps_55 : decode cX6_gaps 55 = .ok (.aload_n 0, 1) := dbm_253.1.1.1.2
theorem dX6_gaps_56 : decode cX6_gaps 56 = .ok (.invokevirtual 202, 3) := dbm_253.1.1.2.1
theorem dX6_gaps_59 : decode cX6_gaps 59 = .ok (.iload_n 1, 1) := dbm_253.1.1.2.2
theorem dX6_gaps_60 : decode cX6_gaps 60 = .ok (.ireturn, 1) := dbm_253.1.2.1.1
theorem dX6_blind_0 : decode cX6_blind 0 = .ok (.aload_n 0, 1) := dbm_253.1.2.1.2
theorem dX6_blind_1 : decode cX6_blind 1 = .ok (.iconst 0, 1) := dbm_253.1.2.2.1
theorem dX6_blind_2 : decode cX6_blind 2 = .ok (.putfield 79, 3) := dbm_253.1.2.2.2
theorem dX6_blind_5 : decode cX6_blind 5 = .ok (.iconst 0, 1) := dbm_253.2.1.1.1
theorem dX6_blind_6 : decode cX6_blind 6 = .ok (.istore_n 1, 1) := dbm_253.2.1.1.2
theorem dX6_blind_7 : decode cX6_blind 7 = .ok (.iconst 0, 1) := dbm_253.2.1.2.1
theorem dX6_blind_8 : decode cX6_blind 8 = .ok (.istore_n 2, 1) := dbm_253.2.1.2.2
theorem dX6_blind_9 : decode cX6_blind 9 = .ok (.iload_n 2, 1) := dbm_253.2.2.1.1
theorem dX6_blind_10 : decode cX6_blind 10 = .ok (.aload_n 0, 1) := dbm_253.2.2.1.2
theorem dX6_blind_11 : decode cX6_blind 11 = .ok (.getfield 92, 3) := dbm_253.2.2.2.1
theorem dX6_blind_14 : decode cX6_blind 14 = .ok (.if_icmp .ge 33, 3) := dbm_253.2.2.2.2
theorem dbm_254 : (((((decode cX6_blind 17 = .ok (.iload_n 1, 1)) ∧ (decode cX6_blind 18 = .ok (.aload_n 0, 1))) ∧ ((decode cX6_blind 19 = .ok (.iload_n 2, 1)) ∧ (decode cX6_blind 20 = .ok (.aload_n 0, 1)))) ∧ (((decode cX6_blind 21 = .ok (.getfield 22, 3)) ∧ (decode cX6_blind 24 = .ok (.iload_n 2, 1))) ∧ ((decode cX6_blind 25 = .ok (.iaload, 1)) ∧ (decode cX6_blind 26 = .ok (.invokevirtual 128, 3))))) ∧ ((((decode cX6_blind 29 = .ok (.ifCond .ne 9, 3)) ∧ (decode cX6_blind 32 = .ok (.iconst 1, 1))) ∧ ((decode cX6_blind 33 = .ok (.iload_n 2, 1)) ∧ (decode cX6_blind 34 = .ok (.ishl, 1)))) ∧ (((decode cX6_blind 35 = .ok (.goto 4, 3)) ∧ (decode cX6_blind 38 = .ok (.iconst 0, 1))) ∧ ((decode cX6_blind 39 = .ok (.ior, 1)) ∧ (decode cX6_blind 40 = .ok (.istore_n 1, 1)))))) := by decide +kernel
theorem dX6_blind_17 : decode cX6_blind 17 = .ok (.iload_n 1, 1) := dbm_254.1.1.1.1
theorem dX6_blind_18 : decode cX6_blind 18 = .ok (.aload_n 0, 1) := dbm_254.1.1.1.2
theorem dX6_blind_19 : decode cX6_blind 19 = .ok (.iload_n 2, 1) := dbm_254.1.1.2.1
theorem dX6_blind_20 : decode cX6_blind 20 = .ok (.aload_n 0, 1) := dbm_254.1.1.2.2
theorem dX6_blind_21 : decode cX6_blind 21 = .ok (.getfield 22, 3) := dbm_254.1.2.1.1
theorem dX6_blind_24 : decode cX6_blind 24 = .ok (.iload_n 2, 1) := dbm_254.1.2.1.2
theorem dX6_blind_25 : decode cX6_blind 25 = .ok (.iaload, 1) := dbm_254.1.2.2.1
theorem dX6_blind_26 : decode cX6_blind 26 = .ok (.invokevirtual 128, 3) := dbm_254.1.2.2.2
theorem dX6_blind_29 : decode cX6_blind 29 = .ok (.ifCond .ne 9, 3) := dbm_254.2.1.1.1
theorem dX6_blind_32 : decode cX6_blind 32 = .ok (.iconst 1, 1) := dbm_254.2.1.1.2
theorem dX6_blind_33 : decode cX6_blind 33 = .ok (.iload_n 2, 1) := dbm_254.2.1.2.1
theorem dX6_blind_34 : decode cX6_blind 34 = .ok (.ishl, 1) := dbm_254.2.1.2.2
theorem dX6_blind_35 : decode cX6_blind 35 = .ok (.goto 4, 3) := dbm_254.2.2.1.1
theorem dX6_blind_38 : decode cX6_blind 38 = .ok (.iconst 0, 1) := dbm_254.2.2.1.2
theorem dX6_blind_39 : decode cX6_blind 39 = .ok (.ior, 1) := dbm_254.2.2.2.1
theorem dX6_blind_40 : decode cX6_blind 40 = .ok (.istore_n 1, 1) := dbm_254.2.2.2.2
theorem dbm_255 : (((((decode cX6_blind 41 = .ok (.iinc 2 1, 3)) ∧ (decode cX6_blind 44 = .ok (.goto (-35), 3))) ∧ ((decode cX6_blind 47 = .ok (.iload_n 1, 1)) ∧ (decode cX6_blind 48 = .ok (.ireturn, 1)))) ∧ (((decode cX6_moved 0 = .ok (.aload_n 0, 1)) ∧ (decode cX6_moved 1 = .ok (.iconst 0, 1))) ∧ ((decode cX6_moved 2 = .ok (.putfield 79, 3)) ∧ (decode cX6_moved 5 = .ok (.aload_n 0, 1))))) ∧ ((((decode cX6_moved 6 = .ok (.iload_n 1, 1)) ∧ (decode cX6_moved 7 = .ok (.invokevirtual 184, 3))) ∧ ((decode cX6_moved 10 = .ok (.ifCond .eq 20, 3)) ∧ (decode cX6_moved 13 = .ok (.iload_n 2, 1)))) ∧ (((decode cX6_moved 14 = .ok (.invokestatic 139, 3)) ∧ (decode cX6_moved 17 = .ok (.ifCond .eq 13, 3))) ∧ ((decode cX6_moved 20 = .ok (.iload_n 3, 1)) ∧ (decode cX6_moved 21 = .ok (.iconst 0, 1)))))) := by decide +kernel
theorem dX6_blind_41 : decode cX6_blind 41 = .ok (.iinc 2 1, 3) := dbm_255.1.1.1.1
theorem dX6_blind_44 : decode cX6_blind 44 = .ok (.goto (-35), 3) := dbm_255.1.1.1.2
theorem dX6_blind_47 : decode cX6_blind 47 = .ok (.iload_n 1, 1) := dbm_255.1.1.2.1
theorem dX6_blind_48 : decode cX6_blind 48 = .ok (.ireturn, 1) := dbm_255.1.1.2.2
theorem dX6_moved_0 : decode cX6_moved 0 = .ok (.aload_n 0, 1) := dbm_255.1.2.1.1
theorem dX6_moved_1 : decode cX6_moved 1 = .ok (.iconst 0, 1) := dbm_255.1.2.1.2
theorem dX6_moved_2 : decode cX6_moved 2 = .ok (.putfield 79, 3) := dbm_255.1.2.2.1
theorem dX6_moved_5 : decode cX6_moved 5 = .ok (.aload_n 0, 1) := dbm_255.1.2.2.2
theorem dX6_moved_6 : decode cX6_moved 6 = .ok (.iload_n 1, 1) := dbm_255.2.1.1.1
theorem dX6_moved_7 : decode cX6_moved 7 = .ok (.invokevirtual 184, 3) := dbm_255.2.1.1.2
theorem dX6_moved_10 : decode cX6_moved 10 = .ok (.ifCond .eq 20, 3) := dbm_255.2.1.2.1
theorem dX6_moved_13 : decode cX6_moved 13 = .ok (.iload_n 2, 1) := dbm_255.2.1.2.2
theorem dX6_moved_14 : decode cX6_moved 14 = .ok (.invokestatic 139, 3) := dbm_255.2.2.1.1
theorem dX6_moved_17 : decode cX6_moved 17 = .ok (.ifCond .eq 13, 3) := dbm_255.2.2.1.2
theorem dX6_moved_20 : decode cX6_moved 20 = .ok (.iload_n 3, 1) := dbm_255.2.2.2.1
theorem dX6_moved_21 : decode cX6_moved 21 = .ok (.iconst 0, 1) := dbm_255.2.2.2.2
theorem dbm_256 : (((((decode cX6_moved 22 = .ok (.bipush 60, 2)) ∧ (decode cX6_moved 24 = .ok (.invokestatic 240, 3))) ∧ ((decode cX6_moved 27 = .ok (.goto 4, 3)) ∧ (decode cX6_moved 30 = .ok (.iconst (-1), 1)))) ∧ (((decode cX6_moved 31 = .ok (.istore 4, 2)) ∧ (decode cX6_moved 33 = .ok (.iload 4, 2))) ∧ ((decode cX6_moved 35 = .ok (.ifCond .ge 14, 3)) ∧ (decode cX6_moved 38 = .ok (.ldc_w 271, 3))))) ∧ ((((decode cX6_moved 41 = .ok (.aload_n 0, 1)) ∧ (decode cX6_moved 42 = .ok (.iload 4, 2))) ∧ ((decode cX6_moved 44 = .ok (.invokevirtual 143, 3)) ∧ (decode cX6_moved 47 = .ok (.isub, 1)))) ∧ (((decode cX6_moved 48 = .ok (.ireturn, 1)) ∧ (decode cX6_moved 49 = .ok (.aload_n 0, 1))) ∧ ((decode cX6_moved 50 = .ok (.invokevirtual 196, 3)) ∧ (decode cX6_moved 53 = .ok (.aload_n 0, 1)))))) := by decide +kernel
theorem dX6_moved_22 : decode cX6_moved 22 = .ok (.bipush 60, 2) := dbm_256.1.1.1.1
theorem dX6_moved_24 : decode cX6_moved 24 = .ok (.invokestatic 240, 3) := dbm_256.1.1.1.2
theorem dX6_moved_27 : decode cX6_moved 27 = .ok (.goto 4, 3) := dbm_256.1.1.2.1
theorem dX6_moved_30 : decode cX6_moved 30 = .ok (.iconst (-1), 1) := dbm_256.1.1.2.2
theorem dX6_moved_31 : decode cX6_moved 31 = .ok (.istore 4, 2) := dbm_256.1.2.1.1
theorem dX6_moved_33 : decode cX6_moved 33 = .ok (.iload 4, 2) := dbm_256.1.2.1.2
theorem dX6_moved_35 : decode cX6_moved 35 = .ok (.ifCond .ge 14, 3) := dbm_256.1.2.2.1
theorem dX6_moved_38 : decode cX6_moved 38 = .ok (.ldc_w 271, 3) := dbm_256.1.2.2.2
theorem dX6_moved_41 : decode cX6_moved 41 = .ok (.aload_n 0, 1) := dbm_256.2.1.1.1
theorem dX6_moved_42 : decode cX6_moved 42 = .ok (.iload 4, 2) := dbm_256.2.1.1.2
theorem dX6_moved_44 : decode cX6_moved 44 = .ok (.invokevirtual 143, 3) := dbm_256.2.1.2.1
theorem dX6_moved_47 : decode cX6_moved 47 = .ok (.isub, 1) := dbm_256.2.1.2.2
theorem dX6_moved_48 : decode cX6_moved 48 = .ok (.ireturn, 1) := dbm_256.2.2.1.1
theorem dX6_moved_49 : decode cX6_moved 49 = .ok (.aload_n 0, 1) := dbm_256.2.2.1.2
theorem dX6_moved_50 : decode cX6_moved 50 = .ok (.invokevirtual 196, 3) := dbm_256.2.2.2.1
theorem dX6_moved_53 : decode cX6_moved 53 = .ok (.aload_n 0, 1) := dbm_256.2.2.2.2
theorem dbm_257 : (((((decode cX6_moved 54 = .ok (.iload_n 3, 1)) ∧ (decode cX6_moved 55 = .ok (.invokevirtual 189, 3))) ∧ ((decode cX6_moved 58 = .ok (.aload_n 0, 1)) ∧ (decode cX6_moved 59 = .ok (.iload_n 1, 1)))) ∧ (((decode cX6_moved 60 = .ok (.invokevirtual 113, 3)) ∧ (decode cX6_moved 63 = .ok (.istore 5, 2))) ∧ ((decode cX6_moved 65 = .ok (.aload_n 0, 1)) ∧ (decode cX6_moved 66 = .ok (.invokevirtual 202, 3))))) ∧ ((((decode cX6_moved 69 = .ok (.aload_n 0, 1)) ∧ (decode cX6_moved 70 = .ok (.getfield 25, 3))) ∧ ((decode cX6_moved 73 = .ok (.iload_n 1, 1)) ∧ (decode cX6_moved 74 = .ok (.iload_n 2, 1)))) ∧ (((decode cX6_moved 75 = .ok (.iastore, 1)) ∧ (decode cX6_moved 76 = .ok (.aload_n 0, 1))) ∧ ((decode cX6_moved 77 = .ok (.iload_n 3, 1)) ∧ (decode cX6_moved 78 = .ok (.invokevirtual 189, 3)))))) := by decide +kernel
theorem dX6_moved_54 : decode cX6_moved 54 = .ok (.iload_n 3, 1) := dbm_257.1.1.1.1
theorem dX6_moved_55 : decode cX6_moved 55 = .ok (.invokevirtual 189, 3) := dbm_257.1.1.1.2
theorem dX6_moved_58 : decode cX6_moved 58 = .ok (.aload_n 0, 1) := dbm_257.1.1.2.1
theorem dX6_moved_59 : decode cX6_moved 59 = .ok (.iload_n 1, 1) := dbm_257.1.1.2.2
theorem dX6_moved_60 : decode cX6_moved 60 = .ok (.invokevirtual 113, 3) := dbm_257.1.2.1.1
theorem dX6_moved_63 : decode cX6_moved 63 = .ok (.istore 5, 2) := dbm_257.1.2.1.2
theorem dX6_moved_65 : decode cX6_moved 65 = .ok (.aload_n 0, 1) := dbm_257.1.2.2.1
theorem dX6_moved_66 : decode cX6_moved 66 = .ok (.invokevirtual 202, 3) := dbm_257.1.2.2.2
theorem dX6_moved_69 : decode cX6_moved 69 = .ok (.aload_n 0, 1) := dbm_257.2.1.1.1
theorem dX6_moved_70 : decode cX6_moved 70 = .ok (.getfield 25, 3) := dbm_257.2.1.1.2
theorem dX6_moved_73 : decode cX6_moved 73 = .ok (.iload_n 1, 1) := dbm_257.2.1.2.1
theorem dX6_moved_74 : decode cX6_moved 74 = .ok (.iload_n 2, 1) := dbm_257.2.1.2.2
theorem dX6_moved_75 : decode cX6_moved 75 = .ok (.iastore, 1) := dbm_257.2.2.1.1
theorem dX6_moved_76 : decode cX6_moved 76 = .ok (.aload_n 0, 1) := dbm_257.2.2.1.2
theorem dX6_moved_77 : decode cX6_moved 77 = .ok (.iload_n 3, 1) := dbm_257.2.2.2.1
theorem dX6_moved_78 : decode cX6_moved 78 = .ok (.invokevirtual 189, 3) := dbm_257.2.2.2.2
theorem dbm_258 : (((((decode cX6_moved 81 = .ok (.aload_n 0, 1)) ∧ (decode cX6_moved 82 = .ok (.iload_n 1, 1))) ∧ ((decode cX6_moved 83 = .ok (.invokevirtual 113, 3)) ∧ (decode cX6_moved 86 = .ok (.istore 6, 2)))) ∧ (((decode cX6_moved 88 = .ok (.aload_n 0, 1)) ∧ (decode cX6_moved 89 = .ok (.invokevirtual 202, 3))) ∧ ((decode cX6_moved 92 = .ok (.iload 6, 2)) ∧ (decode cX6_moved 94 = .ok (.iload 5, 2))))) ∧ ((((decode cX6_moved 96 = .ok (.isub, 1)) ∧ (decode cX6_moved 97 = .ok (.ireturn, 1))) ∧ ((decode cX6_street 0 = .ok (.aload_n 0, 1)) ∧ (decode cX6_street 1 = .ok (.iconst 0, 1)))) ∧ (((decode cX6_street 2 = .ok (.putfield 79, 3)) ∧ (decode cX6_street 5 = .ok (.iload_n 1, 1))) ∧ ((decode cX6_street 6 = .ok (.i2l, 1)) ∧ (decode cX6_street 7 = .ok (.lconst 0, 1)))))) := by decide +kernel
theorem dX6_moved_81 : decode cX6_moved 81 = .ok (.aload_n 0, 1) := dbm_258.1.1.1.1
theorem dX6_moved_82 : decode cX6_moved 82 = .ok (.iload_n 1, 1) := dbm_258.1.1.1.2
theorem dX6_moved_83 : decode cX6_moved 83 = .ok (.invokevirtual 113, 3) := dbm_258.1.1.2.1
theorem dX6_moved_86 : decode cX6_moved 86 = .ok (.istore 6, 2) := dbm_258.1.1.2.2
theorem dX6_moved_88 : decode cX6_moved 88 = .ok (.aload_n 0, 1) := dbm_258.1.2.1.1
theorem dX6_moved_89 : decode cX6_moved 89 = .ok (.invokevirtual 202, 3) := dbm_258.1.2.1.2
theorem dX6_moved_92 : decode cX6_moved 92 = .ok (.iload 6, 2) := dbm_258.1.2.2.1
theorem dX6_moved_94 : decode cX6_moved 94 = .ok (.iload 5, 2) := dbm_258.1.2.2.2
theorem dX6_moved_96 : decode cX6_moved 96 = .ok (.isub, 1) := dbm_258.2.1.1.1
theorem dX6_moved_97 : decode cX6_moved 97 = .ok (.ireturn, 1) := dbm_258.2.1.1.2
theorem dX6_street_0 : decode cX6_street 0 = .ok (.aload_n 0, 1) := dbm_258.2.1.2.1
theorem dX6_street_1 : decode cX6_street 1 = .ok (.iconst 0, 1) := dbm_258.2.1.2.2
theorem dX6_street_2 : decode cX6_street 2 = .ok (.putfield 79, 3) := dbm_258.2.2.1.1
theorem dX6_street_5 : decode cX6_street 5 = .ok (.iload_n 1, 1) := dbm_258.2.2.1.2
theorem dX6_street_6 : decode cX6_street 6 = .ok (.i2l, 1) := dbm_258.2.2.2.1
theorem dX6_street_7 : decode cX6_street 7 = .ok (.lconst 0, 1) := dbm_258.2.2.2.2
theorem dbm_259 : (((((decode cX6_street 8 = .ok (.ldc2_w 303, 3)) ∧ (decode cX6_street 11 = .ok (.invokestatic 85, 3))) ∧ ((decode cX6_street 14 = .ok (.ifCond .ne 9, 3)) ∧ (decode cX6_street 17 = .ok (.aload_n 0, 1)))) ∧ (((decode cX6_street 18 = .ok (.iconst (-1), 1)) ∧ (decode cX6_street 19 = .ok (.invokevirtual 143, 3))) ∧ ((decode cX6_street 22 = .ok (.ireturn, 1)) ∧ (decode cX6_street 23 = .ok (.iconst 0, 1))))) ∧ ((((decode cX6_street 24 = .ok (.istore_n 2, 1)) ∧ (decode cX6_street 25 = .ok (.iconst 0, 1))) ∧ ((decode cX6_street 26 = .ok (.istore_n 3, 1)) ∧ (decode cX6_street 27 = .ok (.iload_n 3, 1)))) ∧ (((decode cX6_street 28 = .ok (.aload_n 0, 1)) ∧ (decode cX6_street 29 = .ok (.getfield 92, 3))) ∧ ((decode cX6_street 32 = .ok (.if_icmp .ge 77, 3)) ∧ (decode cX6_street 35 = .ok (.iconst 0, 1)))))) := by decide +kernel
theorem dX6_street_8 : decode cX6_street 8 = .ok (.ldc2_w 303, 3) := dbm_259.1.1.1.1
theorem dX6_street_11 : decode cX6_street 11 = .ok (.invokestatic 85, 3) := dbm_259.1.1.1.2
theorem dX6_street_14 : decode cX6_street 14 = .ok (.ifCond .ne 9, 3) := dbm_259.1.1.2.1
theorem dX6_street_17 : decode cX6_street 17 = .ok (.aload_n 0, 1) := dbm_259.1.1.2.2
theorem dX6_street_18 : decode cX6_street 18 = .ok (.iconst (-1), 1) := dbm_259.1.2.1.1
theorem dX6_street_19 : decode cX6_street 19 = .ok (.invokevirtual 143, 3) := dbm_259.1.2.1.2
theorem dX6_street_22 : decode cX6_street 22 = .ok (.ireturn, 1) := dbm_259.1.2.2.1
theorem dX6_street_23 : decode cX6_street 23 = .ok (.iconst 0, 1) := dbm_259.1.2.2.2
theorem dX6_street_24 : decode cX6_street 24 = .ok (.istore_n 2, 1) := dbm_259.2.1.1.1
theorem dX6_street_25 : decode cX6_street 25 = .ok (.iconst 0, 1) := dbm_259.2.1.1.2
theorem dX6_street_26 : decode cX6_street 26 = .ok (.istore_n 3, 1) := dbm_259.2.1.2.1
theorem dX6_street_27 : decode cX6_street 27 = .ok (.iload_n 3, 1) := dbm_259.2.1.2.2
theorem dX6_street_28 : decode cX6_street 28 = .ok (.aload_n 0, 1) := dbm_259.2.2.1.1
theorem dX6_street_29 : decode cX6_street 29 = .ok (.getfield 92, 3) := dbm_259.2.2.1.2
theorem dX6_street_32 : decode cX6_street 32 = .ok (.if_icmp .ge 77, 3) := dbm_259.2.2.2.1
theorem dX6_street_35 : decode cX6_street 35 = .ok (.iconst 0, 1) := dbm_259.2.2.2.2
theorem dbm_260 : (((((decode cX6_street 36 = .ok (.istore 4, 2)) ∧ (decode cX6_street 38 = .ok (.iload 4, 2))) ∧ ((decode cX6_street 40 = .ok (.aload_n 0, 1)) ∧ (decode cX6_street 41 = .ok (.getfield 89, 3)))) ∧ (((decode cX6_street 44 = .ok (.if_icmp .ge 59, 3)) ∧ (decode cX6_street 47 = .ok (.aload_n 0, 1))) ∧ ((decode cX6_street 48 = .ok (.getfield 31, 3)) ∧ (decode cX6_street 51 = .ok (.bipush 7, 2))))) ∧ ((((decode cX6_street 53 = .ok (.iload_n 3, 1)) ∧ (decode cX6_street 54 = .ok (.imul, 1))) ∧ ((decode cX6_street 55 = .ok (.iload 4, 2)) ∧ (decode cX6_street 57 = .ok (.iadd, 1)))) ∧ (((decode cX6_street 58 = .ok (.iaload, 1)) ∧ (decode cX6_street 59 = .ok (.istore 5, 2))) ∧ ((decode cX6_street 61 = .ok (.iload_n 2, 1)) ∧ (decode cX6_street 62 = .ok (.iload 5, 2)))))) := by decide +kernel
theorem dX6_street_36 : decode cX6_street 36 = .ok (.istore 4, 2) := dbm_260.1.1.1.1
theorem dX6_street_38 : decode cX6_street 38 = .ok (.iload 4, 2) := dbm_260.1.1.1.2
theorem dX6_street_40 : decode cX6_street 40 = .ok (.aload_n 0, 1) := dbm_260.1.1.2.1
theorem dX6_street_41 : decode cX6_street 41 = .ok (.getfield 89, 3) := dbm_260.1.1.2.2
theorem dX6_street_44 : decode cX6_street 44 = .ok (.if_icmp .ge 59, 3) := dbm_260.1.2.1.1
theorem dX6_street_47 : decode cX6_street 47 = .ok (.aload_n 0, 1) := dbm_260.1.2.1.2
theorem dX6_street_48 : decode cX6_street 48 = .ok (.getfield 31, 3) := dbm_260.1.2.2.1
theorem dX6_street_51 : decode cX6_street 51 = .ok (.bipush 7, 2) := dbm_260.1.2.2.2
theorem dX6_street_53 : decode cX6_street 53 = .ok (.iload_n 3, 1) := dbm_260.2.1.1.1
theorem dX6_street_54 : decode cX6_street 54 = .ok (.imul, 1) := dbm_260.2.1.1.2
theorem dX6_street_55 : decode cX6_street 55 = .ok (.iload 4, 2) := dbm_260.2.1.2.1
theorem dX6_street_57 : decode cX6_street 57 = .ok (.iadd, 1) := dbm_260.2.1.2.2
theorem dX6_street_58 : decode cX6_street 58 = .ok (.iaload, 1) := dbm_260.2.2.1.1
theorem dX6_street_59 : decode cX6_street 59 = .ok (.istore 5, 2) := dbm_260.2.2.1.2
theorem dX6_street_61 : decode cX6_street 61 = .ok (.iload_n 2, 1) := dbm_260.2.2.2.1
theorem dX6_street_62 : decode cX6_street 62 = .ok (.iload 5, 2) := dbm_260.2.2.2.2
theorem dbm_261 : (((((decode cX6_street 64 = .ok (.ifCond .le 30, 3)) ∧ (decode cX6_street 67 = .ok (.aload_n 0, 1))) ∧ ((decode cX6_street 68 = .ok (.getfield 16, 3)) ∧ (decode cX6_street 71 = .ok (.iload 4, 2)))) ∧ (((decode cX6_street 73 = .ok (.iaload, 1)) ∧ (decode cX6_street 74 = .ok (.bipush 7, 2))) ∧ ((decode cX6_street 76 = .ok (.idiv, 1)) ∧ (decode cX6_street 77 = .ok (.iload_n 1, 1))))) ∧ ((((decode cX6_street 78 = .ok (.if_icmp .ne 16, 3)) ∧ (decode cX6_street 81 = .ok (.aload_n 0, 1))) ∧ ((decode cX6_street 82 = .ok (.iload 4, 2)) ∧ (decode cX6_street 84 = .ok (.iload 5, 2)))) ∧ (((decode cX6_street 86 = .ok (.iconst 1, 1)) ∧ (decode cX6_street 87 = .ok (.isub, 1))) ∧ ((decode cX6_street 88 = .ok (.invokevirtual 110, 3)) ∧ (decode cX6_street 91 = .ok (.goto 4, 3)))))) := by decide +kernel
theorem dX6_street_64 : decode cX6_street 64 = .ok (.ifCond .le 30, 3) := dbm_261.1.1.1.1
theorem dX6_street_67 : decode cX6_street 67 = .ok (.aload_n 0, 1) := dbm_261.1.1.1.2
theorem dX6_street_68 : decode cX6_street 68 = .ok (.getfield 16, 3) := dbm_261.1.1.2.1
theorem dX6_street_71 : decode cX6_street 71 = .ok (.iload 4, 2) := dbm_261.1.1.2.2
theorem dX6_street_73 : decode cX6_street 73 = .ok (.iaload, 1) := dbm_261.1.2.1.1
theorem dX6_street_74 : decode cX6_street 74 = .ok (.bipush 7, 2) := dbm_261.1.2.1.2
theorem dX6_street_76 : decode cX6_street 76 = .ok (.idiv, 1) := dbm_261.1.2.2.1
theorem dX6_street_77 : decode cX6_street 77 = .ok (.iload_n 1, 1) := dbm_261.1.2.2.2
theorem dX6_street_78 : decode cX6_street 78 = .ok (.if_icmp .ne 16, 3) := dbm_261.2.1.1.1
theorem dX6_street_81 : decode cX6_street 81 = .ok (.aload_n 0, 1) := dbm_261.2.1.1.2
theorem dX6_street_82 : decode cX6_street 82 = .ok (.iload 4, 2) := dbm_261.2.1.2.1
theorem dX6_street_84 : decode cX6_street 84 = .ok (.iload 5, 2) := dbm_261.2.1.2.2
theorem dX6_street_86 : decode cX6_street 86 = .ok (.iconst 1, 1) := dbm_261.2.2.1.1
theorem dX6_street_87 : decode cX6_street 87 = .ok (.isub, 1) := dbm_261.2.2.1.2
theorem dX6_street_88 : decode cX6_street 88 = .ok (.invokevirtual 110, 3) := dbm_261.2.2.2.1
theorem dX6_street_91 : decode cX6_street 91 = .ok (.goto 4, 3) := dbm_261.2.2.2.2
theorem dbm_262 : (((((decode cX6_street 94 = .ok (.iconst 0, 1)) ∧ (decode cX6_street 95 = .ok (.iadd, 1))) ∧ ((decode cX6_street 96 = .ok (.istore_n 2, 1)) ∧ (decode cX6_street 97 = .ok (.iinc 4 1, 3)))) ∧ (((decode cX6_street 100 = .ok (.goto (-62), 3)) ∧ (decode cX6_street 103 = .ok (.iinc 3 1, 3))) ∧ ((decode cX6_street 106 = .ok (.goto (-79), 3)) ∧ (decode cX6_street 109 = .ok (.iload_n 2, 1))))) ∧ ((((decode cX6_street 110 = .ok (.ireturn, 1)) ∧ (decode cX6_row 0 = .ok (.aload_n 0, 1))) ∧ ((decode cX6_row 1 = .ok (.iconst 0, 1)) ∧ (decode cX6_row 2 = .ok (.putfield 79, 3)))) ∧ (((decode cX6_row 5 = .ok (.iload_n 1, 1)) ∧ (decode cX6_row 6 = .ok (.ifCond .ge 10, 3))) ∧ ((decode cX6_row 9 = .ok (.aload_n 0, 1)) ∧ (decode cX6_row 10 = .ok (.bipush (-4), 2)))))) := by decide +kernel
theorem dX6_street_94 : decode cX6_street 94 = .ok (.iconst 0, 1) := dbm_262.1.1.1.1
theorem dX6_street_95 : decode cX6_street 95 = .ok (.iadd, 1) := dbm_262.1.1.1.2
theorem dX6_street_96 : decode cX6_street 96 = .ok (.istore_n 2, 1) := dbm_262.1.1.2.1
theorem dX6_street_97 : decode cX6_street 97 = .ok (.iinc 4 1, 3) := dbm_262.1.1.2.2
theorem dX6_street_100 : decode cX6_street 100 = .ok (.goto (-62), 3) := dbm_262.1.2.1.1
theorem dX6_street_103 : decode cX6_street 103 = .ok (.iinc 3 1, 3) := dbm_262.1.2.1.2
theorem dX6_street_106 : decode cX6_street 106 = .ok (.goto (-79), 3) := dbm_262.1.2.2.1
theorem dX6_street_109 : decode cX6_street 109 = .ok (.iload_n 2, 1) := dbm_262.1.2.2.2
theorem dX6_street_110 : decode cX6_street 110 = .ok (.ireturn, 1) := dbm_262.2.1.1.1
theorem dX6_row_0 : decode cX6_row 0 = .ok (.aload_n 0, 1) := dbm_262.2.1.1.2
theorem dX6_row_1 : decode cX6_row 1 = .ok (.iconst 0, 1) := dbm_262.2.1.2.1
theorem dX6_row_2 : decode cX6_row 2 = .ok (.putfield 79, 3) := dbm_262.2.1.2.2
theorem dX6_row_5 : decode cX6_row 5 = .ok (.iload_n 1, 1) := dbm_262.2.2.1.1
theorem dX6_row_6 : decode cX6_row 6 = .ok (.ifCond .ge 10, 3) := dbm_262.2.2.1.2
theorem dX6_row_9 : decode cX6_row 9 = .ok (.aload_n 0, 1) := dbm_262.2.2.2.1
theorem dX6_row_10 : decode cX6_row 10 = .ok (.bipush (-4), 2) := dbm_262.2.2.2.2
theorem dbm_263 : (((((decode cX6_row 12 = .ok (.invokevirtual 143, 3)) ∧ (decode cX6_row 15 = .ok (.ireturn, 1))) ∧ ((decode cX6_row 16 = .ok (.iload_n 1, 1)) ∧ (decode cX6_row 17 = .ok (.bipush 99, 2)))) ∧ (((decode cX6_row 19 = .ok (.if_icmp .gt 12, 3)) ∧ (decode cX6_row 22 = .ok (.aload_n 0, 1))) ∧ ((decode cX6_row 23 = .ok (.getfield 275, 3)) ∧ (decode cX6_row 26 = .ok (.bipush 12, 2))))) ∧ ((((decode cX6_row 28 = .ok (.if_icmp .ne 10, 3)) ∧ (decode cX6_row 31 = .ok (.aload_n 0, 1))) ∧ ((decode cX6_row 32 = .ok (.bipush (-6), 2)) ∧ (decode cX6_row 34 = .ok (.invokevirtual 143, 3)))) ∧ (((decode cX6_row 37 = .ok (.ireturn, 1)) ∧ (decode cX6_row 38 = .ok (.aload_n 0, 1))) ∧ ((decode cX6_row 39 = .ok (.getfield 73, 3)) ∧ (decode cX6_row 42 = .ok (.aload_n 0, 1)))))) := by decide +kernel
theorem dX6_row_12 : decode cX6_row 12 = .ok (.invokevirtual 143, 3) := dbm_263.1.1.1.1
theorem dX6_row_15 : decode cX6_row 15 = .ok (.ireturn, 1) := dbm_263.1.1.1.2
theorem dX6_row_16 : decode cX6_row 16 = .ok (.iload_n 1, 1) := dbm_263.1.1.2.1
theorem dX6_row_17 : decode cX6_row 17 = .ok (.bipush 99, 2) := dbm_263.1.1.2.2
theorem dX6_row_19 : decode cX6_row 19 = .ok (.if_icmp .gt 12, 3) := dbm_263.1.2.1.1
theorem dX6_row_22 : decode cX6_row 22 = .ok (.aload_n 0, 1) := dbm_263.1.2.1.2
theorem dX6_row_23 : decode cX6_row 23 = .ok (.getfield 275, 3) := dbm_263.1.2.2.1
theorem dX6_row_26 : decode cX6_row 26 = .ok (.bipush 12, 2) := dbm_263.1.2.2.2
theorem dX6_row_28 : decode cX6_row 28 = .ok (.if_icmp .ne 10, 3) := dbm_263.2.1.1.1
theorem dX6_row_31 : decode cX6_row 31 = .ok (.aload_n 0, 1) := dbm_263.2.1.1.2
theorem dX6_row_32 : decode cX6_row 32 = .ok (.bipush (-6), 2) := dbm_263.2.1.2.1
theorem dX6_row_34 : decode cX6_row 34 = .ok (.invokevirtual 143, 3) := dbm_263.2.1.2.2
theorem dX6_row_37 : decode cX6_row 37 = .ok (.ireturn, 1) := dbm_263.2.2.1.1
theorem dX6_row_38 : decode cX6_row 38 = .ok (.aload_n 0, 1) := dbm_263.2.2.1.2
theorem dX6_row_39 : decode cX6_row 39 = .ok (.getfield 73, 3) := dbm_263.2.2.2.1
theorem dX6_row_42 : decode cX6_row 42 = .ok (.aload_n 0, 1) := dbm_263.2.2.2.2
theorem dbm_264 : (((((decode cX6_row 43 = .ok (.getfield 275, 3)) ∧ (decode cX6_row 46 = .ok (.iload_n 1, 1))) ∧ ((decode cX6_row 47 = .ok (.iastore, 1)) ∧ (decode cX6_row 48 = .ok (.aload_n 0, 1)))) ∧ (((decode cX6_row 49 = .ok (.dup, 1)) ∧ (decode cX6_row 50 = .ok (.getfield 275, 3))) ∧ ((decode cX6_row 53 = .ok (.iconst 1, 1)) ∧ (decode cX6_row 54 = .ok (.iadd, 1))))) ∧ ((((decode cX6_row 55 = .ok (.putfield 275, 3)) ∧ (decode cX6_row 58 = .ok (.aload_n 0, 1))) ∧ ((decode cX6_row 59 = .ok (.getfield 275, 3)) ∧ (decode cX6_row 62 = .ok (.ireturn, 1)))) ∧ (((decode cX6_judge 0 = .ok (.aload_n 0, 1)) ∧ (decode cX6_judge 1 = .ok (.iconst 0, 1))) ∧ ((decode cX6_judge 2 = .ok (.putfield 79, 3)) ∧ (decode cX6_judge 5 = .ok (.aload_n 0, 1)))))) := by decide +kernel
theorem dX6_row_43 : decode cX6_row 43 = .ok (.getfield 275, 3) := dbm_264.1.1.1.1
theorem dX6_row_46 : decode cX6_row 46 = .ok (.iload_n 1, 1) := dbm_264.1.1.1.2
theorem dX6_row_47 : decode cX6_row 47 = .ok (.iastore, 1) := dbm_264.1.1.2.1
theorem dX6_row_48 : decode cX6_row 48 = .ok (.aload_n 0, 1) := dbm_264.1.1.2.2
theorem dX6_row_49 : decode cX6_row 49 = .ok (.dup, 1) := dbm_264.1.2.1.1
theorem dX6_row_50 : decode cX6_row 50 = .ok (.getfield 275, 3) := dbm_264.1.2.1.2
theorem dX6_row_53 : decode cX6_row 53 = .ok (.iconst 1, 1) := dbm_264.1.2.2.1
theorem dX6_row_54 : decode cX6_row 54 = .ok (.iadd, 1) := dbm_264.1.2.2.2
theorem dX6_row_55 : decode cX6_row 55 = .ok (.putfield 275, 3) := dbm_264.2.1.1.1
theorem dX6_row_58 : decode cX6_row 58 = .ok (.aload_n 0, 1) := dbm_264.2.1.1.2
theorem dX6_row_59 : decode cX6_row 59 = .ok (.getfield 275, 3) := dbm_264.2.1.2.1
theorem dX6_row_62 : decode cX6_row 62 = .ok (.ireturn, 1) := dbm_264.2.1.2.2
theorem dX6_judge_0 : decode cX6_judge 0 = .ok (.aload_n 0, 1) := dbm_264.2.2.1.1
theorem dX6_judge_1 : decode cX6_judge 1 = .ok (.iconst 0, 1) := dbm_264.2.2.1.2
theorem dX6_judge_2 : decode cX6_judge 2 = .ok (.putfield 79, 3) := dbm_264.2.2.2.1
theorem dX6_judge_5 : decode cX6_judge 5 = .ok (.aload_n 0, 1) := dbm_264.2.2.2.2
theorem dbm_265 : (((((decode cX6_judge 6 = .ok (.getfield 275, 3)) ∧ (decode cX6_judge 9 = .ok (.istore_n 1, 1))) ∧ ((decode cX6_judge 10 = .ok (.aload_n 0, 1)) ∧ (decode cX6_judge 11 = .ok (.iconst 0, 1)))) ∧ (((decode cX6_judge 12 = .ok (.putfield 275, 3)) ∧ (decode cX6_judge 15 = .ok (.iconst 0, 1))) ∧ ((decode cX6_judge 16 = .ok (.istore_n 2, 1)) ∧ (decode cX6_judge 17 = .ok (.iload_n 2, 1))))) ∧ ((((decode cX6_judge 18 = .ok (.iload_n 1, 1)) ∧ (decode cX6_judge 19 = .ok (.if_icmp .ge 36, 3))) ∧ ((decode cX6_judge 22 = .ok (.iload_n 2, 1)) ∧ (decode cX6_judge 23 = .ok (.aload_n 0, 1)))) ∧ (((decode cX6_judge 24 = .ok (.getfield 89, 3)) ∧ (decode cX6_judge 27 = .ok (.if_icmp .ge 20, 3))) ∧ ((decode cX6_judge 30 = .ok (.aload_n 0, 1)) ∧ (decode cX6_judge 31 = .ok (.getfield 73, 3)))))) := by decide +kernel
theorem dX6_judge_6 : decode cX6_judge 6 = .ok (.getfield 275, 3) := dbm_265.1.1.1.1
theorem dX6_judge_9 : decode cX6_judge 9 = .ok (.istore_n 1, 1) := dbm_265.1.1.1.2
theorem dX6_judge_10 : decode cX6_judge 10 = .ok (.aload_n 0, 1) := dbm_265.1.1.2.1
theorem dX6_judge_11 : decode cX6_judge 11 = .ok (.iconst 0, 1) := dbm_265.1.1.2.2
theorem dX6_judge_12 : decode cX6_judge 12 = .ok (.putfield 275, 3) := dbm_265.1.2.1.1
theorem dX6_judge_15 : decode cX6_judge 15 = .ok (.iconst 0, 1) := dbm_265.1.2.1.2
theorem dX6_judge_16 : decode cX6_judge 16 = .ok (.istore_n 2, 1) := dbm_265.1.2.2.1
theorem dX6_judge_17 : decode cX6_judge 17 = .ok (.iload_n 2, 1) := dbm_265.1.2.2.2
theorem dX6_judge_18 : decode cX6_judge 18 = .ok (.iload_n 1, 1) := dbm_265.2.1.1.1
theorem dX6_judge_19 : decode cX6_judge 19 = .ok (.if_icmp .ge 36, 3) := dbm_265.2.1.1.2
theorem dX6_judge_22 : decode cX6_judge 22 = .ok (.iload_n 2, 1) := dbm_265.2.1.2.1
theorem dX6_judge_23 : decode cX6_judge 23 = .ok (.aload_n 0, 1) := dbm_265.2.1.2.2
theorem dX6_judge_24 : decode cX6_judge 24 = .ok (.getfield 89, 3) := dbm_265.2.2.1.1
theorem dX6_judge_27 : decode cX6_judge 27 = .ok (.if_icmp .ge 20, 3) := dbm_265.2.2.1.2
theorem dX6_judge_30 : decode cX6_judge 30 = .ok (.aload_n 0, 1) := dbm_265.2.2.2.1
theorem dX6_judge_31 : decode cX6_judge 31 = .ok (.getfield 73, 3) := dbm_265.2.2.2.2
theorem dbm_266 : (((((decode cX6_judge 34 = .ok (.iload_n 2, 1)) ∧ (decode cX6_judge 35 = .ok (.iaload, 1))) ∧ ((decode cX6_judge 36 = .ok (.aload_n 0, 1)) ∧ (decode cX6_judge 37 = .ok (.iload_n 2, 1)))) ∧ (((decode cX6_judge 38 = .ok (.invokevirtual 229, 3)) ∧ (decode cX6_judge 41 = .ok (.invokestatic 119, 3))) ∧ ((decode cX6_judge 44 = .ok (.if_icmp .eq 5, 3)) ∧ (decode cX6_judge 47 = .ok (.iload_n 2, 1))))) ∧ ((((decode cX6_judge 48 = .ok (.ireturn, 1)) ∧ (decode cX6_judge 49 = .ok (.iinc 2 1, 3))) ∧ ((decode cX6_judge 52 = .ok (.goto (-35), 3)) ∧ (decode cX6_judge 55 = .ok (.bipush (-9), 2)))) ∧ (((decode cX6_judge 57 = .ok (.ireturn, 1)) ∧ (decode cX6_empties 0 = .ok (.aload_n 0, 1))) ∧ ((decode cX6_empties 1 = .ok (.iconst 0, 1)) ∧ (decode cX6_empties 2 = .ok (.putfield 79, 3)))))) := by decide +kernel
theorem dX6_judge_34 : decode cX6_judge 34 = .ok (.iload_n 2, 1) := dbm_266.1.1.1.1
theorem dX6_judge_35 : decode cX6_judge 35 = .ok (.iaload, 1) := dbm_266.1.1.1.2
theorem dX6_judge_36 : decode cX6_judge 36 = .ok (.aload_n 0, 1) := dbm_266.1.1.2.1
theorem dX6_judge_37 : decode cX6_judge 37 = .ok (.iload_n 2, 1) := dbm_266.1.1.2.2
theorem dX6_judge_38 : decode cX6_judge 38 = .ok (.invokevirtual 229, 3) := dbm_266.1.2.1.1
theorem dX6_judge_41 : decode cX6_judge 41 = .ok (.invokestatic 119, 3) := dbm_266.1.2.1.2
theorem dX6_judge_44 : decode cX6_judge 44 = .ok (.if_icmp .eq 5, 3) := dbm_266.1.2.2.1
theorem dX6_judge_47 : decode cX6_judge 47 = .ok (.iload_n 2, 1) := dbm_266.1.2.2.2
theorem dX6_judge_48 : decode cX6_judge 48 = .ok (.ireturn, 1) := dbm_266.2.1.1.1
theorem dX6_judge_49 : decode cX6_judge 49 = .ok (.iinc 2 1, 3) := dbm_266.2.1.1.2
theorem dX6_judge_52 : decode cX6_judge 52 = .ok (.goto (-35), 3) := dbm_266.2.1.2.1
theorem dX6_judge_55 : decode cX6_judge 55 = .ok (.bipush (-9), 2) := dbm_266.2.1.2.2
theorem dX6_judge_57 : decode cX6_judge 57 = .ok (.ireturn, 1) := dbm_266.2.2.1.1
theorem dX6_empties_0 : decode cX6_empties 0 = .ok (.aload_n 0, 1) := dbm_266.2.2.1.2
theorem dX6_empties_1 : decode cX6_empties 1 = .ok (.iconst 0, 1) := dbm_266.2.2.2.1
theorem dX6_empties_2 : decode cX6_empties 2 = .ok (.putfield 79, 3) := dbm_266.2.2.2.2
theorem dbm_267 : (((((decode cX6_empties 5 = .ok (.aload_n 0, 1)) ∧ (decode cX6_empties 6 = .ok (.getfield 275, 3))) ∧ ((decode cX6_empties 9 = .ok (.istore_n 1, 1)) ∧ (decode cX6_empties 10 = .ok (.aload_n 0, 1)))) ∧ (((decode cX6_empties 11 = .ok (.iconst 0, 1)) ∧ (decode cX6_empties 12 = .ok (.putfield 275, 3))) ∧ ((decode cX6_empties 15 = .ok (.iload_n 1, 1)) ∧ (decode cX6_empties 16 = .ok (.ireturn, 1))))) ∧ ((((decode cX6_drawBelow 0 = .ok (.aload_n 0, 1)) ∧ (decode cX6_drawBelow 1 = .ok (.aload_n 0, 1))) ∧ ((decode cX6_drawBelow 2 = .ok (.getfield 305, 3)) ∧ (decode cX6_drawBelow 5 = .ok (.ldc_w 308, 3)))) ∧ (((decode cX6_drawBelow 8 = .ok (.imul, 1)) ∧ (decode cX6_drawBelow 9 = .ok (.sipush 12345, 3))) ∧ ((decode cX6_drawBelow 12 = .ok (.iadd, 1)) ∧ (decode cX6_drawBelow 13 = .ok (.putfield 305, 3)))))) := by decide +kernel
theorem dX6_empties_5 : decode cX6_empties 5 = .ok (.aload_n 0, 1) := dbm_267.1.1.1.1
theorem dX6_empties_6 : decode cX6_empties 6 = .ok (.getfield 275, 3) := dbm_267.1.1.1.2
theorem dX6_empties_9 : decode cX6_empties 9 = .ok (.istore_n 1, 1) := dbm_267.1.1.2.1
theorem dX6_empties_10 : decode cX6_empties 10 = .ok (.aload_n 0, 1) := dbm_267.1.1.2.2
theorem dX6_empties_11 : decode cX6_empties 11 = .ok (.iconst 0, 1) := dbm_267.1.2.1.1
theorem dX6_empties_12 : decode cX6_empties 12 = .ok (.putfield 275, 3) := dbm_267.1.2.1.2
theorem dX6_empties_15 : decode cX6_empties 15 = .ok (.iload_n 1, 1) := dbm_267.1.2.2.1
theorem dX6_empties_16 : decode cX6_empties 16 = .ok (.ireturn, 1) := dbm_267.1.2.2.2
theorem dX6_drawBelow_0 : decode cX6_drawBelow 0 = .ok (.aload_n 0, 1) := dbm_267.2.1.1.1
theorem dX6_drawBelow_1 : decode cX6_drawBelow 1 = .ok (.aload_n 0, 1) := dbm_267.2.1.1.2
theorem dX6_drawBelow_2 : decode cX6_drawBelow 2 = .ok (.getfield 305, 3) := dbm_267.2.1.2.1
theorem dX6_drawBelow_5 : decode cX6_drawBelow 5 = .ok (.ldc_w 308, 3) := dbm_267.2.1.2.2
theorem dX6_drawBelow_8 : decode cX6_drawBelow 8 = .ok (.imul, 1) := dbm_267.2.2.1.1
theorem dX6_drawBelow_9 : decode cX6_drawBelow 9 = .ok (.sipush 12345, 3) := dbm_267.2.2.1.2
theorem dX6_drawBelow_12 : decode cX6_drawBelow 12 = .ok (.iadd, 1) := dbm_267.2.2.2.1
theorem dX6_drawBelow_13 : decode cX6_drawBelow 13 = .ok (.putfield 305, 3) := dbm_267.2.2.2.2
theorem dbm_268 : (((((decode cX6_drawBelow 16 = .ok (.aload_n 0, 1)) ∧ (decode cX6_drawBelow 17 = .ok (.getfield 305, 3))) ∧ ((decode cX6_drawBelow 20 = .ok (.ldc_w 309, 3)) ∧ (decode cX6_drawBelow 23 = .ok (.iand, 1)))) ∧ (((decode cX6_drawBelow 24 = .ok (.ldc_w 310, 3)) ∧ (decode cX6_drawBelow 27 = .ok (.idiv, 1))) ∧ ((decode cX6_drawBelow 28 = .ok (.iload_n 1, 1)) ∧ (decode cX6_drawBelow 29 = .ok (.irem, 1))))) ∧ ((((decode cX6_drawBelow 30 = .ok (.ireturn, 1)) ∧ (decode cX6_lots 0 = .ok (.aload_n 0, 1))) ∧ ((decode cX6_lots 1 = .ok (.iconst 0, 1)) ∧ (decode cX6_lots 2 = .ok (.putfield 79, 3)))) ∧ (((decode cX6_lots 5 = .ok (.iload_n 1, 1)) ∧ (decode cX6_lots 6 = .ok (.iconst 1, 1))) ∧ ((decode cX6_lots 7 = .ok (.bipush 20, 2)) ∧ (decode cX6_lots 9 = .ok (.invokestatic 240, 3)))))) := by decide +kernel
theorem dX6_drawBelow_16 : decode cX6_drawBelow 16 = .ok (.aload_n 0, 1) := dbm_268.1.1.1.1
theorem dX6_drawBelow_17 : decode cX6_drawBelow 17 = .ok (.getfield 305, 3) := dbm_268.1.1.1.2
theorem dX6_drawBelow_20 : decode cX6_drawBelow 20 = .ok (.ldc_w 309, 3) := dbm_268.1.1.2.1
theorem dX6_drawBelow_23 : decode cX6_drawBelow 23 = .ok (.iand, 1) := dbm_268.1.1.2.2
theorem dX6_drawBelow_24 : decode cX6_drawBelow 24 = .ok (.ldc_w 310, 3) := dbm_268.1.2.1.1
theorem dX6_drawBelow_27 : decode cX6_drawBelow 27 = .ok (.idiv, 1) := dbm_268.1.2.1.2
theorem dX6_drawBelow_28 : decode cX6_drawBelow 28 = .ok (.iload_n 1, 1) := dbm_268.1.2.2.1
theorem dX6_drawBelow_29 : decode cX6_drawBelow 29 = .ok (.irem, 1) := dbm_268.1.2.2.2
theorem dX6_drawBelow_30 : decode cX6_drawBelow 30 = .ok (.ireturn, 1) := dbm_268.2.1.1.1
theorem dX6_lots_0 : decode cX6_lots 0 = .ok (.aload_n 0, 1) := dbm_268.2.1.1.2
theorem dX6_lots_1 : decode cX6_lots 1 = .ok (.iconst 0, 1) := dbm_268.2.1.2.1
theorem dX6_lots_2 : decode cX6_lots 2 = .ok (.putfield 79, 3) := dbm_268.2.1.2.2
theorem dX6_lots_5 : decode cX6_lots 5 = .ok (.iload_n 1, 1) := dbm_268.2.2.1.1
theorem dX6_lots_6 : decode cX6_lots 6 = .ok (.iconst 1, 1) := dbm_268.2.2.1.2
theorem dX6_lots_7 : decode cX6_lots 7 = .ok (.bipush 20, 2) := dbm_268.2.2.2.1
theorem dX6_lots_9 : decode cX6_lots 9 = .ok (.invokestatic 240, 3) := dbm_268.2.2.2.2
theorem dbm_269 : (((((decode cX6_lots 12 = .ok (.iload_n 3, 1)) ∧ (decode cX6_lots 13 = .ok (.iconst 1, 1))) ∧ ((decode cX6_lots 14 = .ok (.invokestatic 250, 3)) ∧ (decode cX6_lots 17 = .ok (.istore 4, 2)))) ∧ (((decode cX6_lots 19 = .ok (.iload 4, 2)) ∧ (decode cX6_lots 21 = .ok (.ifCond .ge 10, 3))) ∧ ((decode cX6_lots 24 = .ok (.aload_n 0, 1)) ∧ (decode cX6_lots 25 = .ok (.iload 4, 2))))) ∧ ((((decode cX6_lots 27 = .ok (.invokevirtual 143, 3)) ∧ (decode cX6_lots 30 = .ok (.ireturn, 1))) ∧ ((decode cX6_lots 31 = .ok (.aload_n 0, 1)) ∧ (decode cX6_lots 32 = .ok (.iload_n 2, 1)))) ∧ (((decode cX6_lots 33 = .ok (.putfield 305, 3)) ∧ (decode cX6_lots 36 = .ok (.iconst 0, 1))) ∧ ((decode cX6_lots 37 = .ok (.istore 5, 2)) ∧ (decode cX6_lots 39 = .ok (.aload_n 0, 1)))))) := by decide +kernel
theorem dX6_lots_12 : decode cX6_lots 12 = .ok (.iload_n 3, 1) := dbm_269.1.1.1.1
theorem dX6_lots_13 : decode cX6_lots 13 = .ok (.iconst 1, 1) := dbm_269.1.1.1.2
theorem dX6_lots_14 : decode cX6_lots 14 = .ok (.invokestatic 250, 3) := dbm_269.1.1.2.1
theorem dX6_lots_17 : decode cX6_lots 17 = .ok (.istore 4, 2) := dbm_269.1.1.2.2
theorem dX6_lots_19 : decode cX6_lots 19 = .ok (.iload 4, 2) := dbm_269.1.2.1.1
theorem dX6_lots_21 : decode cX6_lots 21 = .ok (.ifCond .ge 10, 3) := dbm_269.1.2.1.2
theorem dX6_lots_24 : decode cX6_lots 24 = .ok (.aload_n 0, 1) := dbm_269.1.2.2.1
theorem dX6_lots_25 : decode cX6_lots 25 = .ok (.iload 4, 2) := dbm_269.1.2.2.2
theorem dX6_lots_27 : decode cX6_lots 27 = .ok (.invokevirtual 143, 3) := dbm_269.2.1.1.1
theorem dX6_lots_30 : decode cX6_lots 30 = .ok (.ireturn, 1) := dbm_269.2.1.1.2
theorem dX6_lots_31 : decode cX6_lots 31 = .ok (.aload_n 0, 1) := dbm_269.2.1.2.1
theorem dX6_lots_32 : decode cX6_lots 32 = .ok (.iload_n 2, 1) := dbm_269.2.1.2.2
theorem dX6_lots_33 : decode cX6_lots 33 = .ok (.putfield 305, 3) := dbm_269.2.2.1.1
theorem dX6_lots_36 : decode cX6_lots 36 = .ok (.iconst 0, 1) := dbm_269.2.2.1.2
theorem dX6_lots_37 : decode cX6_lots 37 = .ok (.istore 5, 2) := dbm_269.2.2.2.1
theorem dX6_lots_39 : decode cX6_lots 39 = .ok (.aload_n 0, 1) := dbm_269.2.2.2.2
theorem dbm_270 : (((((decode cX6_lots 40 = .ok (.invokevirtual 196, 3)) ∧ (decode cX6_lots 43 = .ok (.iconst 0, 1))) ∧ ((decode cX6_lots 44 = .ok (.istore 6, 2)) ∧ (decode cX6_lots 46 = .ok (.iload 6, 2)))) ∧ (((decode cX6_lots 48 = .ok (.iload_n 1, 1)) ∧ (decode cX6_lots 49 = .ok (.if_icmp .ge 83, 3))) ∧ ((decode cX6_lots 52 = .ok (.iconst 0, 1)) ∧ (decode cX6_lots 53 = .ok (.istore 7, 2))))) ∧ ((((decode cX6_lots 55 = .ok (.iload 7, 2)) ∧ (decode cX6_lots 57 = .ok (.aload_n 0, 1))) ∧ ((decode cX6_lots 58 = .ok (.getfield 92, 3)) ∧ (decode cX6_lots 61 = .ok (.if_icmp .ge 35, 3)))) ∧ (((decode cX6_lots 64 = .ok (.aload_n 0, 1)) ∧ (decode cX6_lots 65 = .ok (.getfield 22, 3))) ∧ ((decode cX6_lots 68 = .ok (.iload 7, 2)) ∧ (decode cX6_lots 70 = .ok (.aload_n 0, 1)))))) := by decide +kernel
theorem dX6_lots_40 : decode cX6_lots 40 = .ok (.invokevirtual 196, 3) := dbm_270.1.1.1.1
theorem dX6_lots_43 : decode cX6_lots 43 = .ok (.iconst 0, 1) := dbm_270.1.1.1.2
theorem dX6_lots_44 : decode cX6_lots 44 = .ok (.istore 6, 2) := dbm_270.1.1.2.1
theorem dX6_lots_46 : decode cX6_lots 46 = .ok (.iload 6, 2) := dbm_270.1.1.2.2
theorem dX6_lots_48 : decode cX6_lots 48 = .ok (.iload_n 1, 1) := dbm_270.1.2.1.1
theorem dX6_lots_49 : decode cX6_lots 49 = .ok (.if_icmp .ge 83, 3) := dbm_270.1.2.1.2
theorem dX6_lots_52 : decode cX6_lots 52 = .ok (.iconst 0, 1) := dbm_270.1.2.2.1
theorem dX6_lots_53 : decode cX6_lots 53 = .ok (.istore 7, 2) := dbm_270.1.2.2.2
theorem dX6_lots_55 : decode cX6_lots 55 = .ok (.iload 7, 2) := dbm_270.2.1.1.1
theorem dX6_lots_57 : decode cX6_lots 57 = .ok (.aload_n 0, 1) := dbm_270.2.1.1.2
theorem dX6_lots_58 : decode cX6_lots 58 = .ok (.getfield 92, 3) := dbm_270.2.1.2.1
theorem dX6_lots_61 : decode cX6_lots 61 = .ok (.if_icmp .ge 35, 3) := dbm_270.2.1.2.2
theorem dX6_lots_64 : decode cX6_lots 64 = .ok (.aload_n 0, 1) := dbm_270.2.2.1.1
theorem dX6_lots_65 : decode cX6_lots 65 = .ok (.getfield 22, 3) := dbm_270.2.2.1.2
theorem dX6_lots_68 : decode cX6_lots 68 = .ok (.iload 7, 2) := dbm_270.2.2.2.1
theorem dX6_lots_70 : decode cX6_lots 70 = .ok (.aload_n 0, 1) := dbm_270.2.2.2.2
theorem dbm_271 : (((((decode cX6_lots 71 = .ok (.bipush 49, 2)) ∧ (decode cX6_lots 73 = .ok (.invokevirtual 311, 3))) ∧ ((decode cX6_lots 76 = .ok (.iastore, 1)) ∧ (decode cX6_lots 77 = .ok (.aload_n 0, 1)))) ∧ (((decode cX6_lots 78 = .ok (.getfield 25, 3)) ∧ (decode cX6_lots 81 = .ok (.iload 7, 2))) ∧ ((decode cX6_lots 83 = .ok (.aload_n 0, 1)) ∧ (decode cX6_lots 84 = .ok (.bipush 49, 2))))) ∧ ((((decode cX6_lots 86 = .ok (.invokevirtual 311, 3)) ∧ (decode cX6_lots 89 = .ok (.iastore, 1))) ∧ ((decode cX6_lots 90 = .ok (.iinc 7 1, 3)) ∧ (decode cX6_lots 93 = .ok (.goto (-38), 3)))) ∧ (((decode cX6_lots 96 = .ok (.aload_n 0, 1)) ∧ (decode cX6_lots 97 = .ok (.bipush 12, 2))) ∧ ((decode cX6_lots 99 = .ok (.invokevirtual 189, 3)) ∧ (decode cX6_lots 102 = .ok (.iload 5, 2)))))) := by decide +kernel
theorem dX6_lots_71 : decode cX6_lots 71 = .ok (.bipush 49, 2) := dbm_271.1.1.1.1
theorem dX6_lots_73 : decode cX6_lots 73 = .ok (.invokevirtual 311, 3) := dbm_271.1.1.1.2
theorem dX6_lots_76 : decode cX6_lots 76 = .ok (.iastore, 1) := dbm_271.1.1.2.1
theorem dX6_lots_77 : decode cX6_lots 77 = .ok (.aload_n 0, 1) := dbm_271.1.1.2.2
theorem dX6_lots_78 : decode cX6_lots 78 = .ok (.getfield 25, 3) := dbm_271.1.2.1.1
theorem dX6_lots_81 : decode cX6_lots 81 = .ok (.iload 7, 2) := dbm_271.1.2.1.2
theorem dX6_lots_83 : decode cX6_lots 83 = .ok (.aload_n 0, 1) := dbm_271.1.2.2.1
theorem dX6_lots_84 : decode cX6_lots 84 = .ok (.bipush 49, 2) := dbm_271.1.2.2.2
theorem dX6_lots_86 : decode cX6_lots 86 = .ok (.invokevirtual 311, 3) := dbm_271.2.1.1.1
theorem dX6_lots_89 : decode cX6_lots 89 = .ok (.iastore, 1) := dbm_271.2.1.1.2
theorem dX6_lots_90 : decode cX6_lots 90 = .ok (.iinc 7 1, 3) := dbm_271.2.1.2.1
theorem dX6_lots_93 : decode cX6_lots 93 = .ok (.goto (-38), 3) := dbm_271.2.1.2.2
theorem dX6_lots_96 : decode cX6_lots 96 = .ok (.aload_n 0, 1) := dbm_271.2.2.1.1
theorem dX6_lots_97 : decode cX6_lots 97 = .ok (.bipush 12, 2) := dbm_271.2.2.1.2
theorem dX6_lots_99 : decode cX6_lots 99 = .ok (.invokevirtual 189, 3) := dbm_271.2.2.2.1
theorem dX6_lots_102 : decode cX6_lots 102 = .ok (.iload 5, 2) := dbm_271.2.2.2.2
theorem dbm_272 : (((((decode cX6_lots 104 = .ok (.iload_n 3, 1)) ∧ (decode cX6_lots 105 = .ok (.ifCond .ne 10, 3))) ∧ ((decode cX6_lots 108 = .ok (.aload_n 0, 1)) ∧ (decode cX6_lots 109 = .ok (.invokevirtual 247, 3)))) ∧ (((decode cX6_lots 112 = .ok (.goto 7, 3)) ∧ (decode cX6_lots 115 = .ok (.aload_n 0, 1))) ∧ ((decode cX6_lots 116 = .ok (.invokevirtual 253, 3)) ∧ (decode cX6_lots 119 = .ok (.iadd, 1))))) ∧ ((((decode cX6_lots 120 = .ok (.istore 5, 2)) ∧ (decode cX6_lots 122 = .ok (.aload_n 0, 1))) ∧ ((decode cX6_lots 123 = .ok (.invokevirtual 202, 3)) ∧ (decode cX6_lots 126 = .ok (.iinc 6 1, 3)))) ∧ (((decode cX6_lots 129 = .ok (.goto (-83), 3)) ∧ (decode cX6_lots 132 = .ok (.iload 5, 2))) ∧ ((decode cX6_lots 134 = .ok (.ireturn, 1)) ∧ (decode cX6_count 0 = .ok (.aload_n 0, 1)))))) := by decide +kernel
theorem dX6_lots_104 : decode cX6_lots 104 = .ok (.iload_n 3, 1) := dbm_272.1.1.1.1
theorem dX6_lots_105 : decode cX6_lots 105 = .ok (.ifCond .ne 10, 3) := dbm_272.1.1.1.2
theorem dX6_lots_108 : decode cX6_lots 108 = .ok (.aload_n 0, 1) := dbm_272.1.1.2.1
theorem dX6_lots_109 : decode cX6_lots 109 = .ok (.invokevirtual 247, 3) := dbm_272.1.1.2.2
theorem dX6_lots_112 : decode cX6_lots 112 = .ok (.goto 7, 3) := dbm_272.1.2.1.1
theorem dX6_lots_115 : decode cX6_lots 115 = .ok (.aload_n 0, 1) := dbm_272.1.2.1.2
theorem dX6_lots_116 : decode cX6_lots 116 = .ok (.invokevirtual 253, 3) := dbm_272.1.2.2.1
theorem dX6_lots_119 : decode cX6_lots 119 = .ok (.iadd, 1) := dbm_272.1.2.2.2
theorem dX6_lots_120 : decode cX6_lots 120 = .ok (.istore 5, 2) := dbm_272.2.1.1.1
theorem dX6_lots_122 : decode cX6_lots 122 = .ok (.aload_n 0, 1) := dbm_272.2.1.1.2
theorem dX6_lots_123 : decode cX6_lots 123 = .ok (.invokevirtual 202, 3) := dbm_272.2.1.2.1
theorem dX6_lots_126 : decode cX6_lots 126 = .ok (.iinc 6 1, 3) := dbm_272.2.1.2.2
theorem dX6_lots_129 : decode cX6_lots 129 = .ok (.goto (-83), 3) := dbm_272.2.2.1.1
theorem dX6_lots_132 : decode cX6_lots 132 = .ok (.iload 5, 2) := dbm_272.2.2.1.2
theorem dX6_lots_134 : decode cX6_lots 134 = .ok (.ireturn, 1) := dbm_272.2.2.2.1
theorem dX6_count_0 : decode cX6_count 0 = .ok (.aload_n 0, 1) := dbm_272.2.2.2.2
theorem dbm_273 : (((((decode cX6_count 1 = .ok (.iconst 0, 1)) ∧ (decode cX6_count 2 = .ok (.putfield 79, 3))) ∧ ((decode cX6_count 5 = .ok (.iload_n 1, 1)) ∧ (decode cX6_count 6 = .ok (.tableswitch 86 0 7 #[46, 51, 56, 61, 66, 71, 76, 81], 46)))) ∧ (((decode cX6_count 52 = .ok (.aload_n 0, 1)) ∧ (decode cX6_count 53 = .ok (.getfield 89, 3))) ∧ ((decode cX6_count 56 = .ok (.ireturn, 1)) ∧ (decode cX6_count 57 = .ok (.aload_n 0, 1))))) ∧ ((((decode cX6_count 58 = .ok (.getfield 92, 3)) ∧ (decode cX6_count 61 = .ok (.ireturn, 1))) ∧ ((decode cX6_count 62 = .ok (.aload_n 0, 1)) ∧ (decode cX6_count 63 = .ok (.getfield 122, 3)))) ∧ (((decode cX6_count 66 = .ok (.ireturn, 1)) ∧ (decode cX6_count 67 = .ok (.aload_n 0, 1))) ∧ ((decode cX6_count 68 = .ok (.invokevirtual 247, 3)) ∧ (decode cX6_count 71 = .ok (.ireturn, 1)))))) := by decide +kernel
theorem dX6_count_1 : decode cX6_count 1 = .ok (.iconst 0, 1) := dbm_273.1.1.1.1
theorem dX6_count_2 : decode cX6_count 2 = .ok (.putfield 79, 3) := dbm_273.1.1.1.2
theorem dX6_count_5 : decode cX6_count 5 = .ok (.iload_n 1, 1) := dbm_273.1.1.2.1
theorem dX6_count_6 : decode cX6_count 6 = .ok (.tableswitch 86 0 7 #[46, 51, 56, 61, 66, 71, 76, 81], 46) := dbm_273.1.1.2.2
theorem dX6_count_52 : decode cX6_count 52 = .ok (.aload_n 0, 1) := dbm_273.1.2.1.1
theorem dX6_count_53 : decode cX6_count 53 = .ok (.getfield 89, 3) := dbm_273.1.2.1.2
theorem dX6_count_56 : decode cX6_count 56 = .ok (.ireturn, 1) := dbm_273.1.2.2.1
theorem dX6_count_57 : decode cX6_count 57 = .ok (.aload_n 0, 1) := dbm_273.1.2.2.2
theorem dX6_count_58 : decode cX6_count 58 = .ok (.getfield 92, 3) := dbm_273.2.1.1.1
theorem dX6_count_61 : decode cX6_count 61 = .ok (.ireturn, 1) := dbm_273.2.1.1.2
theorem dX6_count_62 : decode cX6_count 62 = .ok (.aload_n 0, 1) := dbm_273.2.1.2.1
theorem dX6_count_63 : decode cX6_count 63 = .ok (.getfield 122, 3) := dbm_273.2.1.2.2
theorem dX6_count_66 : decode cX6_count 66 = .ok (.ireturn, 1) := dbm_273.2.2.1.1
theorem dX6_count_67 : decode cX6_count 67 = .ok (.aload_n 0, 1) := dbm_273.2.2.1.2
theorem dX6_count_68 : decode cX6_count 68 = .ok (.invokevirtual 247, 3) := dbm_273.2.2.2.1
theorem dX6_count_71 : decode cX6_count 71 = .ok (.ireturn, 1) := dbm_273.2.2.2.2
theorem dbm_274 : (((((decode cX6_count 72 = .ok (.aload_n 0, 1)) ∧ (decode cX6_count 73 = .ok (.invokevirtual 253, 3))) ∧ ((decode cX6_count 76 = .ok (.ireturn, 1)) ∧ (decode cX6_count 77 = .ok (.aload_n 0, 1)))) ∧ (((decode cX6_count 78 = .ok (.getfield 146, 3)) ∧ (decode cX6_count 81 = .ok (.ireturn, 1))) ∧ ((decode cX6_count 82 = .ok (.aload_n 0, 1)) ∧ (decode cX6_count 83 = .ok (.getfield 275, 3))))) ∧ ((((decode cX6_count 86 = .ok (.ireturn, 1)) ∧ (decode cX6_count 87 = .ok (.aload_n 0, 1))) ∧ ((decode cX6_count 88 = .ok (.getfield 205, 3)) ∧ (decode cX6_count 91 = .ok (.ireturn, 1)))) ∧ (((decode cX6_count 92 = .ok (.iload_n 1, 1)) ∧ (decode cX6_count 93 = .ok (.i2l, 1))) ∧ ((decode cX6_count 94 = .ok (.ldc2_w 314, 3)) ∧ (decode cX6_count 97 = .ok (.ldc2_w 316, 3)))))) := by decide +kernel
theorem dX6_count_72 : decode cX6_count 72 = .ok (.aload_n 0, 1) := dbm_274.1.1.1.1
theorem dX6_count_73 : decode cX6_count 73 = .ok (.invokevirtual 253, 3) := dbm_274.1.1.1.2
theorem dX6_count_76 : decode cX6_count 76 = .ok (.ireturn, 1) := dbm_274.1.1.2.1
theorem dX6_count_77 : decode cX6_count 77 = .ok (.aload_n 0, 1) := dbm_274.1.1.2.2
theorem dX6_count_78 : decode cX6_count 78 = .ok (.getfield 146, 3) := dbm_274.1.2.1.1
theorem dX6_count_81 : decode cX6_count 81 = .ok (.ireturn, 1) := dbm_274.1.2.1.2
theorem dX6_count_82 : decode cX6_count 82 = .ok (.aload_n 0, 1) := dbm_274.1.2.2.1
theorem dX6_count_83 : decode cX6_count 83 = .ok (.getfield 275, 3) := dbm_274.1.2.2.2
theorem dX6_count_86 : decode cX6_count 86 = .ok (.ireturn, 1) := dbm_274.2.1.1.1
theorem dX6_count_87 : decode cX6_count 87 = .ok (.aload_n 0, 1) := dbm_274.2.1.1.2
theorem dX6_count_88 : decode cX6_count 88 = .ok (.getfield 205, 3) := dbm_274.2.1.2.1
theorem dX6_count_91 : decode cX6_count 91 = .ok (.ireturn, 1) := dbm_274.2.1.2.2
theorem dX6_count_92 : decode cX6_count 92 = .ok (.iload_n 1, 1) := dbm_274.2.2.1.1
theorem dX6_count_93 : decode cX6_count 93 = .ok (.i2l, 1) := dbm_274.2.2.1.2
theorem dX6_count_94 : decode cX6_count 94 = .ok (.ldc2_w 314, 3) := dbm_274.2.2.2.1
theorem dX6_count_97 : decode cX6_count 97 = .ok (.ldc2_w 316, 3) := dbm_274.2.2.2.2
theorem dbm_275 : ((((decode cX6_count 100 = .ok (.invokestatic 85, 3)) ∧ (decode cX6_count 103 = .ok (.ifCond .eq 15, 3))) ∧ ((decode cX6_count 106 = .ok (.aload_n 0, 1)) ∧ ((decode cX6_count 107 = .ok (.getfield 34, 3)) ∧ (decode cX6_count 110 = .ok (.iload_n 1, 1))))) ∧ (((decode cX6_count 111 = .ok (.bipush 10, 2)) ∧ ((decode cX6_count 113 = .ok (.isub, 1)) ∧ (decode cX6_count 114 = .ok (.iaload, 1)))) ∧ ((decode cX6_count 115 = .ok (.goto 5, 3)) ∧ ((decode cX6_count 118 = .ok (.bipush (-9), 2)) ∧ (decode cX6_count 120 = .ok (.ireturn, 1)))))) := by decide +kernel
theorem dX6_count_100 : decode cX6_count 100 = .ok (.invokestatic 85, 3) := dbm_275.1.1.1
theorem dX6_count_103 : decode cX6_count 103 = .ok (.ifCond .eq 15, 3) := dbm_275.1.1.2
theorem dX6_count_106 : decode cX6_count 106 = .ok (.aload_n 0, 1) := dbm_275.1.2.1
theorem dX6_count_107 : decode cX6_count 107 = .ok (.getfield 34, 3) := dbm_275.1.2.2.1
theorem dX6_count_110 : decode cX6_count 110 = .ok (.iload_n 1, 1) := dbm_275.1.2.2.2
theorem dX6_count_111 : decode cX6_count 111 = .ok (.bipush 10, 2) := dbm_275.2.1.1
theorem dX6_count_113 : decode cX6_count 113 = .ok (.isub, 1) := dbm_275.2.1.2.1
theorem dX6_count_114 : decode cX6_count 114 = .ok (.iaload, 1) := dbm_275.2.1.2.2
theorem dX6_count_115 : decode cX6_count 115 = .ok (.goto 5, 3) := dbm_275.2.2.1
theorem dX6_count_118 : decode cX6_count 118 = .ok (.bipush (-9), 2) := dbm_275.2.2.2.1
theorem dX6_count_120 : decode cX6_count 120 = .ok (.ireturn, 1) := dbm_275.2.2.2.2
