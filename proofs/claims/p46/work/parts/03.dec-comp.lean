theorem dwc_0 : (cX0_init.data.toList.drop 0).take 16 = [42, 183, 0, 1, 42, 16, 8, 189, 0, 9, 181, 0, 11, 3, 60, 27] := by decide +kernel
theorem dwc_1 : (cX0_init.data.toList.drop 16).take 16 = [16, 8, 162, 0, 22, 42, 180, 0, 11, 27, 187, 0, 9, 89, 183, 0] := by decide +kernel
theorem dwc_2 : (cX0_init.data.toList.drop 32).take 16 = [15, 83, 132, 1, 1, 167, 255, 234, 177] := by decide +kernel
theorem dX0_init_0 : decode cX0_init 0 = .ok (.aload_n 0, 1) := dq_42 (dq_w dwc_0 0 rfl)
theorem dX0_init_1 : decode cX0_init 1 = .ok (.invokespecial 1, 3) := dq_183 (dq_w dwc_0 1 rfl) (dq_w dwc_0 2 rfl) (dq_w dwc_0 3 rfl) rfl
theorem dX0_init_4 : decode cX0_init 4 = .ok (.aload_n 0, 1) := dq_42 (dq_w dwc_0 4 rfl)
theorem dX0_init_5 : decode cX0_init 5 = .ok (.bipush 8, 2) := dq_16 (dq_w dwc_0 5 rfl) (dq_w dwc_0 6 rfl) rfl
theorem dX0_init_7 : decode cX0_init 7 = .ok (.anewarray 9, 3) := dq_189 (dq_w dwc_0 7 rfl) (dq_w dwc_0 8 rfl) (dq_w dwc_0 9 rfl) rfl
theorem dX0_init_10 : decode cX0_init 10 = .ok (.putfield 11, 3) := dq_181 (dq_w dwc_0 10 rfl) (dq_w dwc_0 11 rfl) (dq_w dwc_0 12 rfl) rfl
theorem dX0_init_13 : decode cX0_init 13 = .ok (.iconst 0, 1) := dq_3 (dq_w dwc_0 13 rfl)
theorem dX0_init_14 : decode cX0_init 14 = .ok (.istore_n 1, 1) := dq_60 (dq_w dwc_0 14 rfl)
theorem dX0_init_15 : decode cX0_init 15 = .ok (.iload_n 1, 1) := dq_27 (dq_w dwc_0 15 rfl)
theorem dX0_init_16 : decode cX0_init 16 = .ok (.bipush 8, 2) := dq_16 (dq_w dwc_1 0 rfl) (dq_w dwc_1 1 rfl) rfl
theorem dX0_init_18 : decode cX0_init 18 = .ok (.if_icmp .ge 22, 3) := dq_162 (dq_w dwc_1 2 rfl) (dq_w dwc_1 3 rfl) (dq_w dwc_1 4 rfl) (dq_p (n := 22) rfl rfl)
theorem dX0_init_21 : decode cX0_init 21 = .ok (.aload_n 0, 1) := dq_42 (dq_w dwc_1 5 rfl)
theorem dX0_init_22 : decode cX0_init 22 = .ok (.getfield 11, 3) := dq_180 (dq_w dwc_1 6 rfl) (dq_w dwc_1 7 rfl) (dq_w dwc_1 8 rfl) rfl
theorem dX0_init_25 : decode cX0_init 25 = .ok (.iload_n 1, 1) := dq_27 (dq_w dwc_1 9 rfl)
theorem dX0_init_26 : decode cX0_init 26 = .ok (.new 9, 3) := dq_187 (dq_w dwc_1 10 rfl) (dq_w dwc_1 11 rfl) (dq_w dwc_1 12 rfl) rfl
theorem dX0_init_29 : decode cX0_init 29 = .ok (.dup, 1) := dq_89 (dq_w dwc_1 13 rfl)
theorem dX0_init_30 : decode cX0_init 30 = .ok (.invokespecial 15, 3) := dq_183 (dq_w dwc_1 14 rfl) (dq_w dwc_1 15 rfl) (dq_w dwc_2 0 rfl) rfl
theorem dX0_init_33 : decode cX0_init 33 = .ok (.aastore, 1) := dq_83 (dq_w dwc_2 1 rfl)
theorem dX0_init_34 : decode cX0_init 34 = .ok (.iinc 1 1, 3) := dq_132 (dq_w dwc_2 2 rfl) (dq_w dwc_2 3 rfl) rfl (dq_w dwc_2 4 rfl) rfl
theorem dX0_init_37 : decode cX0_init 37 = .ok (.goto (-22), 3) := dq_167 (dq_w dwc_2 5 rfl) (dq_w dwc_2 6 rfl) (dq_w dwc_2 7 rfl) (dq_n (m := 22) rfl rfl)
theorem dX0_init_40 : decode cX0_init 40 = .ok (.return_, 1) := dq_177 (dq_w dwc_2 8 rfl)
theorem dwc_3 : (cX0_keep.data.toList.drop 0).take 16 = [42, 180, 0, 11, 42, 180, 0, 16, 50, 43, 182, 0, 20, 42, 42, 180] := by decide +kernel
theorem dwc_4 : (cX0_keep.data.toList.drop 16).take 16 = [0, 16, 4, 96, 16, 8, 112, 181, 0, 16, 42, 16, 8, 42, 180, 0] := by decide +kernel
theorem dwc_5 : (cX0_keep.data.toList.drop 32).take 16 = [24, 4, 96, 184, 0, 27, 181, 0, 24, 177] := by decide +kernel
theorem dX0_keep_0 : decode cX0_keep 0 = .ok (.aload_n 0, 1) := dq_42 (dq_w dwc_3 0 rfl)
theorem dX0_keep_1 : decode cX0_keep 1 = .ok (.getfield 11, 3) := dq_180 (dq_w dwc_3 1 rfl) (dq_w dwc_3 2 rfl) (dq_w dwc_3 3 rfl) rfl
theorem dX0_keep_4 : decode cX0_keep 4 = .ok (.aload_n 0, 1) := dq_42 (dq_w dwc_3 4 rfl)
theorem dX0_keep_5 : decode cX0_keep 5 = .ok (.getfield 16, 3) := dq_180 (dq_w dwc_3 5 rfl) (dq_w dwc_3 6 rfl) (dq_w dwc_3 7 rfl) rfl
theorem dX0_keep_8 : decode cX0_keep 8 = .ok (.aaload, 1) := dq_50 (dq_w dwc_3 8 rfl)
theorem dX0_keep_9 : decode cX0_keep 9 = .ok (.aload_n 1, 1) := dq_43 (dq_w dwc_3 9 rfl)
theorem dX0_keep_10 : decode cX0_keep 10 = .ok (.invokevirtual 20, 3) := dq_182 (dq_w dwc_3 10 rfl) (dq_w dwc_3 11 rfl) (dq_w dwc_3 12 rfl) rfl
theorem dX0_keep_13 : decode cX0_keep 13 = .ok (.aload_n 0, 1) := dq_42 (dq_w dwc_3 13 rfl)
theorem dX0_keep_14 : decode cX0_keep 14 = .ok (.aload_n 0, 1) := dq_42 (dq_w dwc_3 14 rfl)
theorem dX0_keep_15 : decode cX0_keep 15 = .ok (.getfield 16, 3) := dq_180 (dq_w dwc_3 15 rfl) (dq_w dwc_4 0 rfl) (dq_w dwc_4 1 rfl) rfl
theorem dX0_keep_18 : decode cX0_keep 18 = .ok (.iconst 1, 1) := dq_4 (dq_w dwc_4 2 rfl)
theorem dX0_keep_19 : decode cX0_keep 19 = .ok (.iadd, 1) := dq_96 (dq_w dwc_4 3 rfl)
theorem dX0_keep_20 : decode cX0_keep 20 = .ok (.bipush 8, 2) := dq_16 (dq_w dwc_4 4 rfl) (dq_w dwc_4 5 rfl) rfl
theorem dX0_keep_22 : decode cX0_keep 22 = .ok (.irem, 1) := dq_112 (dq_w dwc_4 6 rfl)
theorem dX0_keep_23 : decode cX0_keep 23 = .ok (.putfield 16, 3) := dq_181 (dq_w dwc_4 7 rfl) (dq_w dwc_4 8 rfl) (dq_w dwc_4 9 rfl) rfl
theorem dX0_keep_26 : decode cX0_keep 26 = .ok (.aload_n 0, 1) := dq_42 (dq_w dwc_4 10 rfl)
theorem dX0_keep_27 : decode cX0_keep 27 = .ok (.bipush 8, 2) := dq_16 (dq_w dwc_4 11 rfl) (dq_w dwc_4 12 rfl) rfl
theorem dX0_keep_29 : decode cX0_keep 29 = .ok (.aload_n 0, 1) := dq_42 (dq_w dwc_4 13 rfl)
theorem dX0_keep_30 : decode cX0_keep 30 = .ok (.getfield 24, 3) := dq_180 (dq_w dwc_4 14 rfl) (dq_w dwc_4 15 rfl) (dq_w dwc_5 0 rfl) rfl
theorem dX0_keep_33 : decode cX0_keep 33 = .ok (.iconst 1, 1) := dq_4 (dq_w dwc_5 1 rfl)
theorem dX0_keep_34 : decode cX0_keep 34 = .ok (.iadd, 1) := dq_96 (dq_w dwc_5 2 rfl)
theorem dX0_keep_35 : decode cX0_keep 35 = .ok (.invokestatic 27, 3) := dq_184 (dq_w dwc_5 3 rfl) (dq_w dwc_5 4 rfl) (dq_w dwc_5 5 rfl) rfl
theorem dX0_keep_38 : decode cX0_keep 38 = .ok (.putfield 24, 3) := dq_181 (dq_w dwc_5 6 rfl) (dq_w dwc_5 7 rfl) (dq_w dwc_5 8 rfl) rfl
theorem dX0_keep_41 : decode cX0_keep 41 = .ok (.return_, 1) := dq_177 (dq_w dwc_5 9 rfl)
theorem dwc_6 : (cX0_takeBack.data.toList.drop 0).take 16 = [42, 180, 0, 24, 154, 0, 4, 177, 42, 42, 180, 0, 16, 16, 8, 96] := by decide +kernel
theorem dwc_7 : (cX0_takeBack.data.toList.drop 16).take 16 = [4, 100, 16, 8, 112, 181, 0, 16, 42, 89, 180, 0, 24, 4, 100, 181] := by decide +kernel
theorem dwc_8 : (cX0_takeBack.data.toList.drop 32).take 16 = [0, 24, 43, 42, 180, 0, 11, 42, 180, 0, 16, 50, 182, 0, 20, 177] := by decide +kernel
theorem dX0_takeBack_0 : decode cX0_takeBack 0 = .ok (.aload_n 0, 1) := dq_42 (dq_w dwc_6 0 rfl)
theorem dX0_takeBack_1 : decode cX0_takeBack 1 = .ok (.getfield 24, 3) := dq_180 (dq_w dwc_6 1 rfl) (dq_w dwc_6 2 rfl) (dq_w dwc_6 3 rfl) rfl
theorem dX0_takeBack_4 : decode cX0_takeBack 4 = .ok (.ifCond .ne 4, 3) := dq_154 (dq_w dwc_6 4 rfl) (dq_w dwc_6 5 rfl) (dq_w dwc_6 6 rfl) (dq_p (n := 4) rfl rfl)
theorem dX0_takeBack_7 : decode cX0_takeBack 7 = .ok (.return_, 1) := dq_177 (dq_w dwc_6 7 rfl)
theorem dX0_takeBack_8 : decode cX0_takeBack 8 = .ok (.aload_n 0, 1) := dq_42 (dq_w dwc_6 8 rfl)
theorem dX0_takeBack_9 : decode cX0_takeBack 9 = .ok (.aload_n 0, 1) := dq_42 (dq_w dwc_6 9 rfl)
theorem dX0_takeBack_10 : decode cX0_takeBack 10 = .ok (.getfield 16, 3) := dq_180 (dq_w dwc_6 10 rfl) (dq_w dwc_6 11 rfl) (dq_w dwc_6 12 rfl) rfl
theorem dX0_takeBack_13 : decode cX0_takeBack 13 = .ok (.bipush 8, 2) := dq_16 (dq_w dwc_6 13 rfl) (dq_w dwc_6 14 rfl) rfl
theorem dX0_takeBack_15 : decode cX0_takeBack 15 = .ok (.iadd, 1) := dq_96 (dq_w dwc_6 15 rfl)
theorem dX0_takeBack_16 : decode cX0_takeBack 16 = .ok (.iconst 1, 1) := dq_4 (dq_w dwc_7 0 rfl)
theorem dX0_takeBack_17 : decode cX0_takeBack 17 = .ok (.isub, 1) := dq_100 (dq_w dwc_7 1 rfl)
theorem dX0_takeBack_18 : decode cX0_takeBack 18 = .ok (.bipush 8, 2) := dq_16 (dq_w dwc_7 2 rfl) (dq_w dwc_7 3 rfl) rfl
theorem dX0_takeBack_20 : decode cX0_takeBack 20 = .ok (.irem, 1) := dq_112 (dq_w dwc_7 4 rfl)
theorem dX0_takeBack_21 : decode cX0_takeBack 21 = .ok (.putfield 16, 3) := dq_181 (dq_w dwc_7 5 rfl) (dq_w dwc_7 6 rfl) (dq_w dwc_7 7 rfl) rfl
theorem dX0_takeBack_24 : decode cX0_takeBack 24 = .ok (.aload_n 0, 1) := dq_42 (dq_w dwc_7 8 rfl)
theorem dX0_takeBack_25 : decode cX0_takeBack 25 = .ok (.dup, 1) := dq_89 (dq_w dwc_7 9 rfl)
theorem dX0_takeBack_26 : decode cX0_takeBack 26 = .ok (.getfield 24, 3) := dq_180 (dq_w dwc_7 10 rfl) (dq_w dwc_7 11 rfl) (dq_w dwc_7 12 rfl) rfl
theorem dX0_takeBack_29 : decode cX0_takeBack 29 = .ok (.iconst 1, 1) := dq_4 (dq_w dwc_7 13 rfl)
theorem dX0_takeBack_30 : decode cX0_takeBack 30 = .ok (.isub, 1) := dq_100 (dq_w dwc_7 14 rfl)
theorem dX0_takeBack_31 : decode cX0_takeBack 31 = .ok (.putfield 24, 3) := dq_181 (dq_w dwc_7 15 rfl) (dq_w dwc_8 0 rfl) (dq_w dwc_8 1 rfl) rfl
theorem dX0_takeBack_34 : decode cX0_takeBack 34 = .ok (.aload_n 1, 1) := dq_43 (dq_w dwc_8 2 rfl)
theorem dX0_takeBack_35 : decode cX0_takeBack 35 = .ok (.aload_n 0, 1) := dq_42 (dq_w dwc_8 3 rfl)
theorem dX0_takeBack_36 : decode cX0_takeBack 36 = .ok (.getfield 11, 3) := dq_180 (dq_w dwc_8 4 rfl) (dq_w dwc_8 5 rfl) (dq_w dwc_8 6 rfl) rfl
theorem dX0_takeBack_39 : decode cX0_takeBack 39 = .ok (.aload_n 0, 1) := dq_42 (dq_w dwc_8 7 rfl)
theorem dX0_takeBack_40 : decode cX0_takeBack 40 = .ok (.getfield 16, 3) := dq_180 (dq_w dwc_8 8 rfl) (dq_w dwc_8 9 rfl) (dq_w dwc_8 10 rfl) rfl
theorem dX0_takeBack_43 : decode cX0_takeBack 43 = .ok (.aaload, 1) := dq_50 (dq_w dwc_8 11 rfl)
theorem dX0_takeBack_44 : decode cX0_takeBack 44 = .ok (.invokevirtual 20, 3) := dq_182 (dq_w dwc_8 12 rfl) (dq_w dwc_8 13 rfl) (dq_w dwc_8 14 rfl) rfl
theorem dX0_takeBack_47 : decode cX0_takeBack 47 = .ok (.return_, 1) := dq_177 (dq_w dwc_8 15 rfl)
theorem dwc_9 : (cX0_forget.data.toList.drop 0).take 16 = [42, 3, 181, 0, 24, 177] := by decide +kernel
theorem dX0_forget_0 : decode cX0_forget 0 = .ok (.aload_n 0, 1) := dq_42 (dq_w dwc_9 0 rfl)
theorem dX0_forget_1 : decode cX0_forget 1 = .ok (.iconst 0, 1) := dq_3 (dq_w dwc_9 1 rfl)
theorem dX0_forget_2 : decode cX0_forget 2 = .ok (.putfield 24, 3) := dq_181 (dq_w dwc_9 2 rfl) (dq_w dwc_9 3 rfl) (dq_w dwc_9 4 rfl) rfl
theorem dX0_forget_5 : decode cX0_forget 5 = .ok (.return_, 1) := dq_177 (dq_w dwc_9 5 rfl)
theorem dwc_10 : (cX1_init.data.toList.drop 0).take 16 = [42, 183, 0, 3, 42, 16, 96, 188, 10, 181, 0, 9, 177] := by decide +kernel
theorem dX1_init_0 : decode cX1_init 0 = .ok (.aload_n 0, 1) := dq_42 (dq_w dwc_10 0 rfl)
theorem dX1_init_1 : decode cX1_init 1 = .ok (.invokespecial 3, 3) := dq_183 (dq_w dwc_10 1 rfl) (dq_w dwc_10 2 rfl) (dq_w dwc_10 3 rfl) rfl
theorem dX1_init_4 : decode cX1_init 4 = .ok (.aload_n 0, 1) := dq_42 (dq_w dwc_10 4 rfl)
theorem dX1_init_5 : decode cX1_init 5 = .ok (.bipush 96, 2) := dq_16 (dq_w dwc_10 5 rfl) (dq_w dwc_10 6 rfl) rfl
theorem dX1_init_7 : decode cX1_init 7 = .ok (.newarray .int, 2) := by decide +kernel
theorem dX1_init_9 : decode cX1_init 9 = .ok (.putfield 9, 3) := dq_181 (dq_w dwc_10 9 rfl) (dq_w dwc_10 10 rfl) (dq_w dwc_10 11 rfl) rfl
theorem dX1_init_12 : decode cX1_init 12 = .ok (.return_, 1) := dq_177 (dq_w dwc_10 12 rfl)
theorem dwc_11 : (cX1_areFull.data.toList.drop 0).take 16 = [42, 180, 0, 15, 16, 96, 161, 0, 7, 4, 167, 0, 4, 3, 172] := by decide +kernel
theorem dX1_areFull_0 : decode cX1_areFull 0 = .ok (.aload_n 0, 1) := dq_42 (dq_w dwc_11 0 rfl)
theorem dX1_areFull_1 : decode cX1_areFull 1 = .ok (.getfield 15, 3) := dq_180 (dq_w dwc_11 1 rfl) (dq_w dwc_11 2 rfl) (dq_w dwc_11 3 rfl) rfl
theorem dX1_areFull_4 : decode cX1_areFull 4 = .ok (.bipush 96, 2) := dq_16 (dq_w dwc_11 4 rfl) (dq_w dwc_11 5 rfl) rfl
theorem dX1_areFull_6 : decode cX1_areFull 6 = .ok (.if_icmp .lt 7, 3) := dq_161 (dq_w dwc_11 6 rfl) (dq_w dwc_11 7 rfl) (dq_w dwc_11 8 rfl) (dq_p (n := 7) rfl rfl)
theorem dX1_areFull_9 : decode cX1_areFull 9 = .ok (.iconst 1, 1) := dq_4 (dq_w dwc_11 9 rfl)
theorem dX1_areFull_10 : decode cX1_areFull 10 = .ok (.goto 4, 3) := dq_167 (dq_w dwc_11 10 rfl) (dq_w dwc_11 11 rfl) (dq_w dwc_11 12 rfl) (dq_p (n := 4) rfl rfl)
theorem dX1_areFull_13 : decode cX1_areFull 13 = .ok (.iconst 0, 1) := dq_3 (dq_w dwc_11 13 rfl)
theorem dX1_areFull_14 : decode cX1_areFull 14 = .ok (.ireturn, 1) := dq_172 (dq_w dwc_11 14 rfl)
theorem dwc_12 : (cX1_take.data.toList.drop 0).take 16 = [42, 182, 0, 19, 153, 0, 8, 42, 180, 0, 15, 172, 42, 180, 0, 9] := by decide +kernel
theorem dwc_13 : (cX1_take.data.toList.drop 16).take 16 = [42, 180, 0, 15, 27, 79, 42, 89, 180, 0, 15, 4, 96, 181, 0, 15] := by decide +kernel
theorem dwc_14 : (cX1_take.data.toList.drop 32).take 16 = [42, 180, 0, 15, 172] := by decide +kernel
theorem dX1_take_0 : decode cX1_take 0 = .ok (.aload_n 0, 1) := dq_42 (dq_w dwc_12 0 rfl)
theorem dX1_take_1 : decode cX1_take 1 = .ok (.invokevirtual 19, 3) := dq_182 (dq_w dwc_12 1 rfl) (dq_w dwc_12 2 rfl) (dq_w dwc_12 3 rfl) rfl
theorem dX1_take_4 : decode cX1_take 4 = .ok (.ifCond .eq 8, 3) := dq_153 (dq_w dwc_12 4 rfl) (dq_w dwc_12 5 rfl) (dq_w dwc_12 6 rfl) (dq_p (n := 8) rfl rfl)
theorem dX1_take_7 : decode cX1_take 7 = .ok (.aload_n 0, 1) := dq_42 (dq_w dwc_12 7 rfl)
theorem dX1_take_8 : decode cX1_take 8 = .ok (.getfield 15, 3) := dq_180 (dq_w dwc_12 8 rfl) (dq_w dwc_12 9 rfl) (dq_w dwc_12 10 rfl) rfl
theorem dX1_take_11 : decode cX1_take 11 = .ok (.ireturn, 1) := dq_172 (dq_w dwc_12 11 rfl)
theorem dX1_take_12 : decode cX1_take 12 = .ok (.aload_n 0, 1) := dq_42 (dq_w dwc_12 12 rfl)
theorem dX1_take_13 : decode cX1_take 13 = .ok (.getfield 9, 3) := dq_180 (dq_w dwc_12 13 rfl) (dq_w dwc_12 14 rfl) (dq_w dwc_12 15 rfl) rfl
theorem dX1_take_16 : decode cX1_take 16 = .ok (.aload_n 0, 1) := dq_42 (dq_w dwc_13 0 rfl)
theorem dX1_take_17 : decode cX1_take 17 = .ok (.getfield 15, 3) := dq_180 (dq_w dwc_13 1 rfl) (dq_w dwc_13 2 rfl) (dq_w dwc_13 3 rfl) rfl
theorem dX1_take_20 : decode cX1_take 20 = .ok (.iload_n 1, 1) := dq_27 (dq_w dwc_13 4 rfl)
theorem dX1_take_21 : decode cX1_take 21 = .ok (.iastore, 1) := dq_79 (dq_w dwc_13 5 rfl)
theorem dX1_take_22 : decode cX1_take 22 = .ok (.aload_n 0, 1) := dq_42 (dq_w dwc_13 6 rfl)
theorem dX1_take_23 : decode cX1_take 23 = .ok (.dup, 1) := dq_89 (dq_w dwc_13 7 rfl)
theorem dX1_take_24 : decode cX1_take 24 = .ok (.getfield 15, 3) := dq_180 (dq_w dwc_13 8 rfl) (dq_w dwc_13 9 rfl) (dq_w dwc_13 10 rfl) rfl
theorem dX1_take_27 : decode cX1_take 27 = .ok (.iconst 1, 1) := dq_4 (dq_w dwc_13 11 rfl)
theorem dX1_take_28 : decode cX1_take 28 = .ok (.iadd, 1) := dq_96 (dq_w dwc_13 12 rfl)
theorem dX1_take_29 : decode cX1_take 29 = .ok (.putfield 15, 3) := dq_181 (dq_w dwc_13 13 rfl) (dq_w dwc_13 14 rfl) (dq_w dwc_13 15 rfl) rfl
theorem dX1_take_32 : decode cX1_take 32 = .ok (.aload_n 0, 1) := dq_42 (dq_w dwc_14 0 rfl)
theorem dX1_take_33 : decode cX1_take 33 = .ok (.getfield 15, 3) := dq_180 (dq_w dwc_14 1 rfl) (dq_w dwc_14 2 rfl) (dq_w dwc_14 3 rfl) rfl
theorem dX1_take_36 : decode cX1_take 36 = .ok (.ireturn, 1) := dq_172 (dq_w dwc_14 4 rfl)
theorem dwc_15 : (cX1_drop.data.toList.drop 0).take 16 = [42, 3, 181, 0, 15, 177] := by decide +kernel
theorem dX1_drop_0 : decode cX1_drop 0 = .ok (.aload_n 0, 1) := dq_42 (dq_w dwc_15 0 rfl)
theorem dX1_drop_1 : decode cX1_drop 1 = .ok (.iconst 0, 1) := dq_3 (dq_w dwc_15 1 rfl)
theorem dX1_drop_2 : decode cX1_drop 2 = .ok (.putfield 15, 3) := dq_181 (dq_w dwc_15 2 rfl) (dq_w dwc_15 3 rfl) (dq_w dwc_15 4 rfl) rfl
theorem dX1_drop_5 : decode cX1_drop 5 = .ok (.return_, 1) := dq_177 (dq_w dwc_15 5 rfl)
theorem dwc_16 : (cX1_tell.data.toList.drop 0).take 16 = [42, 182, 0, 23, 61, 28, 16, 247, 159, 0, 9, 17, 252, 24, 28, 100] := by decide +kernel
theorem dwc_17 : (cX1_tell.data.toList.drop 16).take 16 = [172, 3, 62, 3, 54, 4, 3, 54, 5, 21, 5, 42, 180, 0, 15, 162] := by decide +kernel
theorem dwc_18 : (cX1_tell.data.toList.drop 32).take 16 = [0, 50, 42, 180, 0, 9, 21, 5, 46, 16, 59, 159, 0, 6, 167, 0] := by decide +kernel
theorem dwc_19 : (cX1_tell.data.toList.drop 48).take 16 = [29, 42, 43, 21, 4, 182, 0, 27, 154, 0, 10, 17, 248, 48, 21, 4] := by decide +kernel
theorem dwc_20 : (cX1_tell.data.toList.drop 64).take 16 = [100, 172, 132, 3, 1, 21, 5, 4, 96, 54, 4, 132, 5, 1, 167, 255] := by decide +kernel
theorem dwc_21 : (cX1_tell.data.toList.drop 80).take 16 = [203, 29, 172] := by decide +kernel
theorem dX1_tell_0 : decode cX1_tell 0 = .ok (.aload_n 0, 1) := dq_42 (dq_w dwc_16 0 rfl)
theorem dX1_tell_1 : decode cX1_tell 1 = .ok (.invokevirtual 23, 3) := dq_182 (dq_w dwc_16 1 rfl) (dq_w dwc_16 2 rfl) (dq_w dwc_16 3 rfl) rfl
theorem dX1_tell_4 : decode cX1_tell 4 = .ok (.istore_n 2, 1) := dq_61 (dq_w dwc_16 4 rfl)
theorem dX1_tell_5 : decode cX1_tell 5 = .ok (.iload_n 2, 1) := dq_28 (dq_w dwc_16 5 rfl)
theorem dX1_tell_6 : decode cX1_tell 6 = .ok (.bipush (-9), 2) := dq_16 (dq_w dwc_16 6 rfl) (dq_w dwc_16 7 rfl) rfl
theorem dX1_tell_8 : decode cX1_tell 8 = .ok (.if_icmp .eq 9, 3) := dq_159 (dq_w dwc_16 8 rfl) (dq_w dwc_16 9 rfl) (dq_w dwc_16 10 rfl) (dq_p (n := 9) rfl rfl)
theorem dX1_tell_11 : decode cX1_tell 11 = .ok (.sipush (-1000), 3) := dq_17 (dq_w dwc_16 11 rfl) (dq_w dwc_16 12 rfl) (dq_w dwc_16 13 rfl) (dq_n (m := 1000) rfl rfl)
theorem dX1_tell_14 : decode cX1_tell 14 = .ok (.iload_n 2, 1) := dq_28 (dq_w dwc_16 14 rfl)
theorem dX1_tell_15 : decode cX1_tell 15 = .ok (.isub, 1) := dq_100 (dq_w dwc_16 15 rfl)
theorem dX1_tell_16 : decode cX1_tell 16 = .ok (.ireturn, 1) := dq_172 (dq_w dwc_17 0 rfl)
theorem dX1_tell_17 : decode cX1_tell 17 = .ok (.iconst 0, 1) := dq_3 (dq_w dwc_17 1 rfl)
theorem dX1_tell_18 : decode cX1_tell 18 = .ok (.istore_n 3, 1) := dq_62 (dq_w dwc_17 2 rfl)
theorem dX1_tell_19 : decode cX1_tell 19 = .ok (.iconst 0, 1) := dq_3 (dq_w dwc_17 3 rfl)
theorem dX1_tell_20 : decode cX1_tell 20 = .ok (.istore 4, 2) := dq_54 (dq_w dwc_17 4 rfl) (dq_w dwc_17 5 rfl) rfl
theorem dX1_tell_22 : decode cX1_tell 22 = .ok (.iconst 0, 1) := dq_3 (dq_w dwc_17 6 rfl)
theorem dX1_tell_23 : decode cX1_tell 23 = .ok (.istore 5, 2) := dq_54 (dq_w dwc_17 7 rfl) (dq_w dwc_17 8 rfl) rfl
theorem dX1_tell_25 : decode cX1_tell 25 = .ok (.iload 5, 2) := dq_21 (dq_w dwc_17 9 rfl) (dq_w dwc_17 10 rfl) rfl
theorem dX1_tell_27 : decode cX1_tell 27 = .ok (.aload_n 0, 1) := dq_42 (dq_w dwc_17 11 rfl)
theorem dX1_tell_28 : decode cX1_tell 28 = .ok (.getfield 15, 3) := dq_180 (dq_w dwc_17 12 rfl) (dq_w dwc_17 13 rfl) (dq_w dwc_17 14 rfl) rfl
theorem dX1_tell_31 : decode cX1_tell 31 = .ok (.if_icmp .ge 50, 3) := dq_162 (dq_w dwc_17 15 rfl) (dq_w dwc_18 0 rfl) (dq_w dwc_18 1 rfl) (dq_p (n := 50) rfl rfl)
theorem dX1_tell_34 : decode cX1_tell 34 = .ok (.aload_n 0, 1) := dq_42 (dq_w dwc_18 2 rfl)
theorem dX1_tell_35 : decode cX1_tell 35 = .ok (.getfield 9, 3) := dq_180 (dq_w dwc_18 3 rfl) (dq_w dwc_18 4 rfl) (dq_w dwc_18 5 rfl) rfl
theorem dX1_tell_38 : decode cX1_tell 38 = .ok (.iload 5, 2) := dq_21 (dq_w dwc_18 6 rfl) (dq_w dwc_18 7 rfl) rfl
theorem dX1_tell_40 : decode cX1_tell 40 = .ok (.iaload, 1) := dq_46 (dq_w dwc_18 8 rfl)
theorem dX1_tell_41 : decode cX1_tell 41 = .ok (.bipush 59, 2) := dq_16 (dq_w dwc_18 9 rfl) (dq_w dwc_18 10 rfl) rfl
theorem dX1_tell_43 : decode cX1_tell 43 = .ok (.if_icmp .eq 6, 3) := dq_159 (dq_w dwc_18 11 rfl) (dq_w dwc_18 12 rfl) (dq_w dwc_18 13 rfl) (dq_p (n := 6) rfl rfl)
theorem dX1_tell_46 : decode cX1_tell 46 = .ok (.goto 29, 3) := dq_167 (dq_w dwc_18 14 rfl) (dq_w dwc_18 15 rfl) (dq_w dwc_19 0 rfl) (dq_p (n := 29) rfl rfl)
theorem dX1_tell_49 : decode cX1_tell 49 = .ok (.aload_n 0, 1) := dq_42 (dq_w dwc_19 1 rfl)
theorem dX1_tell_50 : decode cX1_tell 50 = .ok (.aload_n 1, 1) := dq_43 (dq_w dwc_19 2 rfl)
theorem dX1_tell_51 : decode cX1_tell 51 = .ok (.iload 4, 2) := dq_21 (dq_w dwc_19 3 rfl) (dq_w dwc_19 4 rfl) rfl
theorem dX1_tell_53 : decode cX1_tell 53 = .ok (.invokevirtual 27, 3) := dq_182 (dq_w dwc_19 5 rfl) (dq_w dwc_19 6 rfl) (dq_w dwc_19 7 rfl) rfl
theorem dX1_tell_56 : decode cX1_tell 56 = .ok (.ifCond .ne 10, 3) := dq_154 (dq_w dwc_19 8 rfl) (dq_w dwc_19 9 rfl) (dq_w dwc_19 10 rfl) (dq_p (n := 10) rfl rfl)
theorem dX1_tell_59 : decode cX1_tell 59 = .ok (.sipush (-2000), 3) := dq_17 (dq_w dwc_19 11 rfl) (dq_w dwc_19 12 rfl) (dq_w dwc_19 13 rfl) (dq_n (m := 2000) rfl rfl)
theorem dX1_tell_62 : decode cX1_tell 62 = .ok (.iload 4, 2) := dq_21 (dq_w dwc_19 14 rfl) (dq_w dwc_19 15 rfl) rfl
theorem dX1_tell_64 : decode cX1_tell 64 = .ok (.isub, 1) := dq_100 (dq_w dwc_20 0 rfl)
theorem dX1_tell_65 : decode cX1_tell 65 = .ok (.ireturn, 1) := dq_172 (dq_w dwc_20 1 rfl)
theorem dX1_tell_66 : decode cX1_tell 66 = .ok (.iinc 3 1, 3) := dq_132 (dq_w dwc_20 2 rfl) (dq_w dwc_20 3 rfl) rfl (dq_w dwc_20 4 rfl) rfl
theorem dX1_tell_69 : decode cX1_tell 69 = .ok (.iload 5, 2) := dq_21 (dq_w dwc_20 5 rfl) (dq_w dwc_20 6 rfl) rfl
theorem dX1_tell_71 : decode cX1_tell 71 = .ok (.iconst 1, 1) := dq_4 (dq_w dwc_20 7 rfl)
theorem dX1_tell_72 : decode cX1_tell 72 = .ok (.iadd, 1) := dq_96 (dq_w dwc_20 8 rfl)
theorem dX1_tell_73 : decode cX1_tell 73 = .ok (.istore 4, 2) := dq_54 (dq_w dwc_20 9 rfl) (dq_w dwc_20 10 rfl) rfl
theorem dX1_tell_75 : decode cX1_tell 75 = .ok (.iinc 5 1, 3) := dq_132 (dq_w dwc_20 11 rfl) (dq_w dwc_20 12 rfl) rfl (dq_w dwc_20 13 rfl) rfl
theorem dX1_tell_78 : decode cX1_tell 78 = .ok (.goto (-53), 3) := dq_167 (dq_w dwc_20 14 rfl) (dq_w dwc_20 15 rfl) (dq_w dwc_21 0 rfl) (dq_n (m := 53) rfl rfl)
theorem dX1_tell_81 : decode cX1_tell 81 = .ok (.iload_n 3, 1) := dq_29 (dq_w dwc_21 1 rfl)
theorem dX1_tell_82 : decode cX1_tell 82 = .ok (.ireturn, 1) := dq_172 (dq_w dwc_21 2 rfl)
theorem dwc_22 : (cX1_firstMisspelt.data.toList.drop 0).take 16 = [3, 60, 3, 61, 3, 62, 29, 42, 180, 0, 15, 162, 0, 75, 42, 180] := by decide +kernel
theorem dwc_23 : (cX1_firstMisspelt.data.toList.drop 16).take 16 = [0, 9, 29, 46, 54, 4, 27, 154, 0, 20, 21, 4, 184, 0, 31, 61] := by decide +kernel
theorem dwc_24 : (cX1_firstMisspelt.data.toList.drop 32).take 16 = [28, 154, 0, 5, 29, 172, 4, 60, 167, 0, 40, 28, 158, 0, 25, 21] := by decide +kernel
theorem dwc_25 : (cX1_firstMisspelt.data.toList.drop 48).take 16 = [4, 16, 48, 161, 0, 10, 21, 4, 16, 57, 164, 0, 5, 29, 172, 132] := by decide +kernel
theorem dwc_26 : (cX1_firstMisspelt.data.toList.drop 64).take 16 = [2, 255, 167, 0, 14, 21, 4, 16, 59, 159, 0, 5, 29, 172, 3, 60] := by decide +kernel
theorem dwc_27 : (cX1_firstMisspelt.data.toList.drop 80).take 16 = [132, 3, 1, 167, 255, 179, 27, 154, 0, 10, 42, 180, 0, 15, 154, 0] := by decide +kernel
theorem dwc_28 : (cX1_firstMisspelt.data.toList.drop 96).take 16 = [10, 42, 180, 0, 15, 167, 0, 5, 16, 247, 172] := by decide +kernel
theorem dX1_firstMisspelt_0 : decode cX1_firstMisspelt 0 = .ok (.iconst 0, 1) := dq_3 (dq_w dwc_22 0 rfl)
theorem dX1_firstMisspelt_1 : decode cX1_firstMisspelt 1 = .ok (.istore_n 1, 1) := dq_60 (dq_w dwc_22 1 rfl)
theorem dX1_firstMisspelt_2 : decode cX1_firstMisspelt 2 = .ok (.iconst 0, 1) := dq_3 (dq_w dwc_22 2 rfl)
theorem dX1_firstMisspelt_3 : decode cX1_firstMisspelt 3 = .ok (.istore_n 2, 1) := dq_61 (dq_w dwc_22 3 rfl)
theorem dX1_firstMisspelt_4 : decode cX1_firstMisspelt 4 = .ok (.iconst 0, 1) := dq_3 (dq_w dwc_22 4 rfl)
theorem dX1_firstMisspelt_5 : decode cX1_firstMisspelt 5 = .ok (.istore_n 3, 1) := dq_62 (dq_w dwc_22 5 rfl)
theorem dX1_firstMisspelt_6 : decode cX1_firstMisspelt 6 = .ok (.iload_n 3, 1) := dq_29 (dq_w dwc_22 6 rfl)
theorem dX1_firstMisspelt_7 : decode cX1_firstMisspelt 7 = .ok (.aload_n 0, 1) := dq_42 (dq_w dwc_22 7 rfl)
theorem dX1_firstMisspelt_8 : decode cX1_firstMisspelt 8 = .ok (.getfield 15, 3) := dq_180 (dq_w dwc_22 8 rfl) (dq_w dwc_22 9 rfl) (dq_w dwc_22 10 rfl) rfl
theorem dX1_firstMisspelt_11 : decode cX1_firstMisspelt 11 = .ok (.if_icmp .ge 75, 3) := dq_162 (dq_w dwc_22 11 rfl) (dq_w dwc_22 12 rfl) (dq_w dwc_22 13 rfl) (dq_p (n := 75) rfl rfl)
theorem dX1_firstMisspelt_14 : decode cX1_firstMisspelt 14 = .ok (.aload_n 0, 1) := dq_42 (dq_w dwc_22 14 rfl)
theorem dX1_firstMisspelt_15 : decode cX1_firstMisspelt 15 = .ok (.getfield 9, 3) := dq_180 (dq_w dwc_22 15 rfl) (dq_w dwc_23 0 rfl) (dq_w dwc_23 1 rfl) rfl
theorem dX1_firstMisspelt_18 : decode cX1_firstMisspelt 18 = .ok (.iload_n 3, 1) := dq_29 (dq_w dwc_23 2 rfl)
theorem dX1_firstMisspelt_19 : decode cX1_firstMisspelt 19 = .ok (.iaload, 1) := dq_46 (dq_w dwc_23 3 rfl)
theorem dX1_firstMisspelt_20 : decode cX1_firstMisspelt 20 = .ok (.istore 4, 2) := dq_54 (dq_w dwc_23 4 rfl) (dq_w dwc_23 5 rfl) rfl
theorem dX1_firstMisspelt_22 : decode cX1_firstMisspelt 22 = .ok (.iload_n 1, 1) := dq_27 (dq_w dwc_23 6 rfl)
theorem dX1_firstMisspelt_23 : decode cX1_firstMisspelt 23 = .ok (.ifCond .ne 20, 3) := dq_154 (dq_w dwc_23 7 rfl) (dq_w dwc_23 8 rfl) (dq_w dwc_23 9 rfl) (dq_p (n := 20) rfl rfl)
theorem dX1_firstMisspelt_26 : decode cX1_firstMisspelt 26 = .ok (.iload 4, 2) := dq_21 (dq_w dwc_23 10 rfl) (dq_w dwc_23 11 rfl) rfl
theorem dX1_firstMisspelt_28 : decode cX1_firstMisspelt 28 = .ok (.invokestatic 31, 3) := dq_184 (dq_w dwc_23 12 rfl) (dq_w dwc_23 13 rfl) (dq_w dwc_23 14 rfl) rfl
theorem dX1_firstMisspelt_31 : decode cX1_firstMisspelt 31 = .ok (.istore_n 2, 1) := dq_61 (dq_w dwc_23 15 rfl)
theorem dX1_firstMisspelt_32 : decode cX1_firstMisspelt 32 = .ok (.iload_n 2, 1) := dq_28 (dq_w dwc_24 0 rfl)
theorem dX1_firstMisspelt_33 : decode cX1_firstMisspelt 33 = .ok (.ifCond .ne 5, 3) := dq_154 (dq_w dwc_24 1 rfl) (dq_w dwc_24 2 rfl) (dq_w dwc_24 3 rfl) (dq_p (n := 5) rfl rfl)
theorem dX1_firstMisspelt_36 : decode cX1_firstMisspelt 36 = .ok (.iload_n 3, 1) := dq_29 (dq_w dwc_24 4 rfl)
theorem dX1_firstMisspelt_37 : decode cX1_firstMisspelt 37 = .ok (.ireturn, 1) := dq_172 (dq_w dwc_24 5 rfl)
theorem dX1_firstMisspelt_38 : decode cX1_firstMisspelt 38 = .ok (.iconst 1, 1) := dq_4 (dq_w dwc_24 6 rfl)
theorem dX1_firstMisspelt_39 : decode cX1_firstMisspelt 39 = .ok (.istore_n 1, 1) := dq_60 (dq_w dwc_24 7 rfl)
theorem dX1_firstMisspelt_40 : decode cX1_firstMisspelt 40 = .ok (.goto 40, 3) := dq_167 (dq_w dwc_24 8 rfl) (dq_w dwc_24 9 rfl) (dq_w dwc_24 10 rfl) (dq_p (n := 40) rfl rfl)
theorem dX1_firstMisspelt_43 : decode cX1_firstMisspelt 43 = .ok (.iload_n 2, 1) := dq_28 (dq_w dwc_24 11 rfl)
theorem dX1_firstMisspelt_44 : decode cX1_firstMisspelt 44 = .ok (.ifCond .le 25, 3) := dq_158 (dq_w dwc_24 12 rfl) (dq_w dwc_24 13 rfl) (dq_w dwc_24 14 rfl) (dq_p (n := 25) rfl rfl)
theorem dX1_firstMisspelt_47 : decode cX1_firstMisspelt 47 = .ok (.iload 4, 2) := dq_21 (dq_w dwc_24 15 rfl) (dq_w dwc_25 0 rfl) rfl
theorem dX1_firstMisspelt_49 : decode cX1_firstMisspelt 49 = .ok (.bipush 48, 2) := dq_16 (dq_w dwc_25 1 rfl) (dq_w dwc_25 2 rfl) rfl
theorem dX1_firstMisspelt_51 : decode cX1_firstMisspelt 51 = .ok (.if_icmp .lt 10, 3) := dq_161 (dq_w dwc_25 3 rfl) (dq_w dwc_25 4 rfl) (dq_w dwc_25 5 rfl) (dq_p (n := 10) rfl rfl)
theorem dX1_firstMisspelt_54 : decode cX1_firstMisspelt 54 = .ok (.iload 4, 2) := dq_21 (dq_w dwc_25 6 rfl) (dq_w dwc_25 7 rfl) rfl
theorem dX1_firstMisspelt_56 : decode cX1_firstMisspelt 56 = .ok (.bipush 57, 2) := dq_16 (dq_w dwc_25 8 rfl) (dq_w dwc_25 9 rfl) rfl
theorem dX1_firstMisspelt_58 : decode cX1_firstMisspelt 58 = .ok (.if_icmp .le 5, 3) := dq_164 (dq_w dwc_25 10 rfl) (dq_w dwc_25 11 rfl) (dq_w dwc_25 12 rfl) (dq_p (n := 5) rfl rfl)
theorem dX1_firstMisspelt_61 : decode cX1_firstMisspelt 61 = .ok (.iload_n 3, 1) := dq_29 (dq_w dwc_25 13 rfl)
theorem dX1_firstMisspelt_62 : decode cX1_firstMisspelt 62 = .ok (.ireturn, 1) := dq_172 (dq_w dwc_25 14 rfl)
theorem dX1_firstMisspelt_63 : decode cX1_firstMisspelt 63 = .ok (.iinc 2 (-1), 3) := dq_132 (dq_w dwc_25 15 rfl) (dq_w dwc_26 0 rfl) rfl (dq_w dwc_26 1 rfl) rfl
theorem dX1_firstMisspelt_66 : decode cX1_firstMisspelt 66 = .ok (.goto 14, 3) := dq_167 (dq_w dwc_26 2 rfl) (dq_w dwc_26 3 rfl) (dq_w dwc_26 4 rfl) (dq_p (n := 14) rfl rfl)
theorem dX1_firstMisspelt_69 : decode cX1_firstMisspelt 69 = .ok (.iload 4, 2) := dq_21 (dq_w dwc_26 5 rfl) (dq_w dwc_26 6 rfl) rfl
theorem dX1_firstMisspelt_71 : decode cX1_firstMisspelt 71 = .ok (.bipush 59, 2) := dq_16 (dq_w dwc_26 7 rfl) (dq_w dwc_26 8 rfl) rfl
theorem dX1_firstMisspelt_73 : decode cX1_firstMisspelt 73 = .ok (.if_icmp .eq 5, 3) := dq_159 (dq_w dwc_26 9 rfl) (dq_w dwc_26 10 rfl) (dq_w dwc_26 11 rfl) (dq_p (n := 5) rfl rfl)
theorem dX1_firstMisspelt_76 : decode cX1_firstMisspelt 76 = .ok (.iload_n 3, 1) := dq_29 (dq_w dwc_26 12 rfl)
theorem dX1_firstMisspelt_77 : decode cX1_firstMisspelt 77 = .ok (.ireturn, 1) := dq_172 (dq_w dwc_26 13 rfl)
theorem dX1_firstMisspelt_78 : decode cX1_firstMisspelt 78 = .ok (.iconst 0, 1) := dq_3 (dq_w dwc_26 14 rfl)
theorem dX1_firstMisspelt_79 : decode cX1_firstMisspelt 79 = .ok (.istore_n 1, 1) := dq_60 (dq_w dwc_26 15 rfl)
theorem dX1_firstMisspelt_80 : decode cX1_firstMisspelt 80 = .ok (.iinc 3 1, 3) := dq_132 (dq_w dwc_27 0 rfl) (dq_w dwc_27 1 rfl) rfl (dq_w dwc_27 2 rfl) rfl
theorem dX1_firstMisspelt_83 : decode cX1_firstMisspelt 83 = .ok (.goto (-77), 3) := dq_167 (dq_w dwc_27 3 rfl) (dq_w dwc_27 4 rfl) (dq_w dwc_27 5 rfl) (dq_n (m := 77) rfl rfl)
theorem dX1_firstMisspelt_86 : decode cX1_firstMisspelt 86 = .ok (.iload_n 1, 1) := dq_27 (dq_w dwc_27 6 rfl)
theorem dX1_firstMisspelt_87 : decode cX1_firstMisspelt 87 = .ok (.ifCond .ne 10, 3) := dq_154 (dq_w dwc_27 7 rfl) (dq_w dwc_27 8 rfl) (dq_w dwc_27 9 rfl) (dq_p (n := 10) rfl rfl)
theorem dX1_firstMisspelt_90 : decode cX1_firstMisspelt 90 = .ok (.aload_n 0, 1) := dq_42 (dq_w dwc_27 10 rfl)
theorem dX1_firstMisspelt_91 : decode cX1_firstMisspelt 91 = .ok (.getfield 15, 3) := dq_180 (dq_w dwc_27 11 rfl) (dq_w dwc_27 12 rfl) (dq_w dwc_27 13 rfl) rfl
theorem dX1_firstMisspelt_94 : decode cX1_firstMisspelt 94 = .ok (.ifCond .ne 10, 3) := dq_154 (dq_w dwc_27 14 rfl) (dq_w dwc_27 15 rfl) (dq_w dwc_28 0 rfl) (dq_p (n := 10) rfl rfl)
theorem dX1_firstMisspelt_97 : decode cX1_firstMisspelt 97 = .ok (.aload_n 0, 1) := dq_42 (dq_w dwc_28 1 rfl)
theorem dX1_firstMisspelt_98 : decode cX1_firstMisspelt 98 = .ok (.getfield 15, 3) := dq_180 (dq_w dwc_28 2 rfl) (dq_w dwc_28 3 rfl) (dq_w dwc_28 4 rfl) rfl
theorem dX1_firstMisspelt_101 : decode cX1_firstMisspelt 101 = .ok (.goto 5, 3) := dq_167 (dq_w dwc_28 5 rfl) (dq_w dwc_28 6 rfl) (dq_w dwc_28 7 rfl) (dq_p (n := 5) rfl rfl)
theorem dX1_firstMisspelt_104 : decode cX1_firstMisspelt 104 = .ok (.bipush (-9), 2) := dq_16 (dq_w dwc_28 8 rfl) (dq_w dwc_28 9 rfl) rfl
theorem dX1_firstMisspelt_106 : decode cX1_firstMisspelt 106 = .ok (.ireturn, 1) := dq_172 (dq_w dwc_28 10 rfl)
theorem dwc_29 : (cX1_digitsBehind.data.toList.drop 0).take 16 = [26, 170, 0, 0, 0, 0, 0, 103, 0, 0, 0, 101, 0, 0, 0, 119] := by decide +kernel
theorem dwc_30 : (cX1_digitsBehind.data.toList.drop 80).take 16 = [0, 0, 0, 103, 0, 0, 0, 103, 0, 0, 0, 93, 7, 172, 8, 172] := by decide +kernel
theorem dwc_31 : (cX1_digitsBehind.data.toList.drop 96).take 16 = [4, 172, 6, 172, 5, 172, 5, 172, 3, 172] := by decide +kernel
theorem dX1_digitsBehind_0 : decode cX1_digitsBehind 0 = .ok (.iload_n 0, 1) := dq_26 (dq_w dwc_29 0 rfl)
theorem dX1_digitsBehind_1 : decode cX1_digitsBehind 1 = .ok (.tableswitch 103 101 119 #[101, 103, 97, 91, 103, 103, 103, 95, 103, 103, 99, 103, 103, 103, 103, 103, 103, 103, 93], 91) := by decide +kernel
theorem dX1_digitsBehind_92 : decode cX1_digitsBehind 92 = .ok (.iconst 4, 1) := dq_7 (dq_w dwc_30 12 rfl)
theorem dX1_digitsBehind_93 : decode cX1_digitsBehind 93 = .ok (.ireturn, 1) := dq_172 (dq_w dwc_30 13 rfl)
theorem dX1_digitsBehind_94 : decode cX1_digitsBehind 94 = .ok (.iconst 5, 1) := dq_8 (dq_w dwc_30 14 rfl)
theorem dX1_digitsBehind_95 : decode cX1_digitsBehind 95 = .ok (.ireturn, 1) := dq_172 (dq_w dwc_30 15 rfl)
theorem dX1_digitsBehind_96 : decode cX1_digitsBehind 96 = .ok (.iconst 1, 1) := dq_4 (dq_w dwc_31 0 rfl)
theorem dX1_digitsBehind_97 : decode cX1_digitsBehind 97 = .ok (.ireturn, 1) := dq_172 (dq_w dwc_31 1 rfl)
theorem dX1_digitsBehind_98 : decode cX1_digitsBehind 98 = .ok (.iconst 3, 1) := dq_6 (dq_w dwc_31 2 rfl)
theorem dX1_digitsBehind_99 : decode cX1_digitsBehind 99 = .ok (.ireturn, 1) := dq_172 (dq_w dwc_31 3 rfl)
theorem dX1_digitsBehind_100 : decode cX1_digitsBehind 100 = .ok (.iconst 2, 1) := dq_5 (dq_w dwc_31 4 rfl)
theorem dX1_digitsBehind_101 : decode cX1_digitsBehind 101 = .ok (.ireturn, 1) := dq_172 (dq_w dwc_31 5 rfl)
theorem dX1_digitsBehind_102 : decode cX1_digitsBehind 102 = .ok (.iconst 2, 1) := dq_5 (dq_w dwc_31 6 rfl)
theorem dX1_digitsBehind_103 : decode cX1_digitsBehind 103 = .ok (.ireturn, 1) := dq_172 (dq_w dwc_31 7 rfl)
theorem dX1_digitsBehind_104 : decode cX1_digitsBehind 104 = .ok (.iconst 0, 1) := dq_3 (dq_w dwc_31 8 rfl)
theorem dX1_digitsBehind_105 : decode cX1_digitsBehind 105 = .ok (.ireturn, 1) := dq_172 (dq_w dwc_31 9 rfl)
theorem dwc_32 : (cX1_tellStatement.data.toList.drop 0).take 16 = [42, 180, 0, 9, 28, 46, 170, 0, 0, 0, 0, 204, 0, 0, 0, 101] := by decide +kernel
theorem dwc_33 : (cX1_tellStatement.data.toList.drop 96).take 16 = [43, 42, 28, 4, 96, 182, 0, 35, 42, 28, 5, 96, 182, 0, 35, 42] := by decide +kernel
theorem dwc_34 : (cX1_tellStatement.data.toList.drop 112).take 16 = [28, 6, 96, 182, 0, 38, 182, 0, 41, 172, 43, 42, 28, 4, 96, 182] := by decide +kernel
theorem dwc_35 : (cX1_tellStatement.data.toList.drop 128).take 16 = [0, 38, 42, 28, 6, 96, 182, 0, 38, 42, 28, 8, 96, 182, 0, 35] := by decide +kernel
theorem dwc_36 : (cX1_tellStatement.data.toList.drop 144).take 16 = [182, 0, 47, 172, 43, 42, 28, 4, 96, 182, 0, 35, 182, 0, 50, 172] := by decide +kernel
theorem dwc_37 : (cX1_tellStatement.data.toList.drop 160).take 16 = [43, 42, 28, 4, 96, 182, 0, 35, 42, 28, 5, 96, 182, 0, 38, 182] := by decide +kernel
theorem dwc_38 : (cX1_tellStatement.data.toList.drop 176).take 16 = [0, 54, 172, 43, 42, 28, 4, 96, 182, 0, 35, 42, 28, 5, 96, 182] := by decide +kernel
theorem dwc_39 : (cX1_tellStatement.data.toList.drop 192).take 16 = [0, 35, 182, 0, 58, 172, 43, 42, 28, 4, 96, 182, 0, 38, 182, 0] := by decide +kernel
theorem dwc_40 : (cX1_tellStatement.data.toList.drop 208).take 16 = [61, 172, 3, 172] := by decide +kernel
theorem dX1_tellStatement_0 : decode cX1_tellStatement 0 = .ok (.aload_n 0, 1) := dq_42 (dq_w dwc_32 0 rfl)
theorem dX1_tellStatement_1 : decode cX1_tellStatement 1 = .ok (.getfield 9, 3) := dq_180 (dq_w dwc_32 1 rfl) (dq_w dwc_32 2 rfl) (dq_w dwc_32 3 rfl) rfl
theorem dX1_tellStatement_4 : decode cX1_tellStatement 4 = .ok (.iload_n 2, 1) := dq_28 (dq_w dwc_32 4 rfl)
theorem dX1_tellStatement_5 : decode cX1_tellStatement 5 = .ok (.iaload, 1) := dq_46 (dq_w dwc_32 5 rfl)
theorem dX1_tellStatement_6 : decode cX1_tellStatement 6 = .ok (.tableswitch 204 101 119 #[192, 204, 154, 90, 204, 204, 204, 142, 204, 204, 173, 204, 204, 204, 204, 204, 204, 204, 116], 90) := by decide +kernel
theorem dX1_tellStatement_96 : decode cX1_tellStatement 96 = .ok (.aload_n 1, 1) := dq_43 (dq_w dwc_33 0 rfl)
theorem dX1_tellStatement_97 : decode cX1_tellStatement 97 = .ok (.aload_n 0, 1) := dq_42 (dq_w dwc_33 1 rfl)
theorem dX1_tellStatement_98 : decode cX1_tellStatement 98 = .ok (.iload_n 2, 1) := dq_28 (dq_w dwc_33 2 rfl)
theorem dX1_tellStatement_99 : decode cX1_tellStatement 99 = .ok (.iconst 1, 1) := dq_4 (dq_w dwc_33 3 rfl)
theorem dX1_tellStatement_100 : decode cX1_tellStatement 100 = .ok (.iadd, 1) := dq_96 (dq_w dwc_33 4 rfl)
theorem dX1_tellStatement_101 : decode cX1_tellStatement 101 = .ok (.invokevirtual 35, 3) := dq_182 (dq_w dwc_33 5 rfl) (dq_w dwc_33 6 rfl) (dq_w dwc_33 7 rfl) rfl
theorem dX1_tellStatement_104 : decode cX1_tellStatement 104 = .ok (.aload_n 0, 1) := dq_42 (dq_w dwc_33 8 rfl)
theorem dX1_tellStatement_105 : decode cX1_tellStatement 105 = .ok (.iload_n 2, 1) := dq_28 (dq_w dwc_33 9 rfl)
theorem dX1_tellStatement_106 : decode cX1_tellStatement 106 = .ok (.iconst 2, 1) := dq_5 (dq_w dwc_33 10 rfl)
theorem dX1_tellStatement_107 : decode cX1_tellStatement 107 = .ok (.iadd, 1) := dq_96 (dq_w dwc_33 11 rfl)
theorem dX1_tellStatement_108 : decode cX1_tellStatement 108 = .ok (.invokevirtual 35, 3) := dq_182 (dq_w dwc_33 12 rfl) (dq_w dwc_33 13 rfl) (dq_w dwc_33 14 rfl) rfl
theorem dX1_tellStatement_111 : decode cX1_tellStatement 111 = .ok (.aload_n 0, 1) := dq_42 (dq_w dwc_33 15 rfl)
theorem dX1_tellStatement_112 : decode cX1_tellStatement 112 = .ok (.iload_n 2, 1) := dq_28 (dq_w dwc_34 0 rfl)
theorem dX1_tellStatement_113 : decode cX1_tellStatement 113 = .ok (.iconst 3, 1) := dq_6 (dq_w dwc_34 1 rfl)
theorem dX1_tellStatement_114 : decode cX1_tellStatement 114 = .ok (.iadd, 1) := dq_96 (dq_w dwc_34 2 rfl)
theorem dX1_tellStatement_115 : decode cX1_tellStatement 115 = .ok (.invokevirtual 38, 3) := dq_182 (dq_w dwc_34 3 rfl) (dq_w dwc_34 4 rfl) (dq_w dwc_34 5 rfl) rfl
theorem dX1_tellStatement_118 : decode cX1_tellStatement 118 = .ok (.invokevirtual 41, 3) := dq_182 (dq_w dwc_34 6 rfl) (dq_w dwc_34 7 rfl) (dq_w dwc_34 8 rfl) rfl
theorem dX1_tellStatement_121 : decode cX1_tellStatement 121 = .ok (.ireturn, 1) := dq_172 (dq_w dwc_34 9 rfl)
theorem dX1_tellStatement_122 : decode cX1_tellStatement 122 = .ok (.aload_n 1, 1) := dq_43 (dq_w dwc_34 10 rfl)
theorem dX1_tellStatement_123 : decode cX1_tellStatement 123 = .ok (.aload_n 0, 1) := dq_42 (dq_w dwc_34 11 rfl)
theorem dX1_tellStatement_124 : decode cX1_tellStatement 124 = .ok (.iload_n 2, 1) := dq_28 (dq_w dwc_34 12 rfl)
theorem dX1_tellStatement_125 : decode cX1_tellStatement 125 = .ok (.iconst 1, 1) := dq_4 (dq_w dwc_34 13 rfl)
theorem dX1_tellStatement_126 : decode cX1_tellStatement 126 = .ok (.iadd, 1) := dq_96 (dq_w dwc_34 14 rfl)
theorem dX1_tellStatement_127 : decode cX1_tellStatement 127 = .ok (.invokevirtual 38, 3) := dq_182 (dq_w dwc_34 15 rfl) (dq_w dwc_35 0 rfl) (dq_w dwc_35 1 rfl) rfl
theorem dX1_tellStatement_130 : decode cX1_tellStatement 130 = .ok (.aload_n 0, 1) := dq_42 (dq_w dwc_35 2 rfl)
theorem dX1_tellStatement_131 : decode cX1_tellStatement 131 = .ok (.iload_n 2, 1) := dq_28 (dq_w dwc_35 3 rfl)
theorem dX1_tellStatement_132 : decode cX1_tellStatement 132 = .ok (.iconst 3, 1) := dq_6 (dq_w dwc_35 4 rfl)
theorem dX1_tellStatement_133 : decode cX1_tellStatement 133 = .ok (.iadd, 1) := dq_96 (dq_w dwc_35 5 rfl)
theorem dX1_tellStatement_134 : decode cX1_tellStatement 134 = .ok (.invokevirtual 38, 3) := dq_182 (dq_w dwc_35 6 rfl) (dq_w dwc_35 7 rfl) (dq_w dwc_35 8 rfl) rfl
theorem dX1_tellStatement_137 : decode cX1_tellStatement 137 = .ok (.aload_n 0, 1) := dq_42 (dq_w dwc_35 9 rfl)
theorem dX1_tellStatement_138 : decode cX1_tellStatement 138 = .ok (.iload_n 2, 1) := dq_28 (dq_w dwc_35 10 rfl)
theorem dX1_tellStatement_139 : decode cX1_tellStatement 139 = .ok (.iconst 5, 1) := dq_8 (dq_w dwc_35 11 rfl)
theorem dX1_tellStatement_140 : decode cX1_tellStatement 140 = .ok (.iadd, 1) := dq_96 (dq_w dwc_35 12 rfl)
theorem dX1_tellStatement_141 : decode cX1_tellStatement 141 = .ok (.invokevirtual 35, 3) := dq_182 (dq_w dwc_35 13 rfl) (dq_w dwc_35 14 rfl) (dq_w dwc_35 15 rfl) rfl
theorem dX1_tellStatement_144 : decode cX1_tellStatement 144 = .ok (.invokevirtual 47, 3) := dq_182 (dq_w dwc_36 0 rfl) (dq_w dwc_36 1 rfl) (dq_w dwc_36 2 rfl) rfl
theorem dX1_tellStatement_147 : decode cX1_tellStatement 147 = .ok (.ireturn, 1) := dq_172 (dq_w dwc_36 3 rfl)
theorem dX1_tellStatement_148 : decode cX1_tellStatement 148 = .ok (.aload_n 1, 1) := dq_43 (dq_w dwc_36 4 rfl)
theorem dX1_tellStatement_149 : decode cX1_tellStatement 149 = .ok (.aload_n 0, 1) := dq_42 (dq_w dwc_36 5 rfl)
theorem dX1_tellStatement_150 : decode cX1_tellStatement 150 = .ok (.iload_n 2, 1) := dq_28 (dq_w dwc_36 6 rfl)
theorem dX1_tellStatement_151 : decode cX1_tellStatement 151 = .ok (.iconst 1, 1) := dq_4 (dq_w dwc_36 7 rfl)
theorem dX1_tellStatement_152 : decode cX1_tellStatement 152 = .ok (.iadd, 1) := dq_96 (dq_w dwc_36 8 rfl)
theorem dX1_tellStatement_153 : decode cX1_tellStatement 153 = .ok (.invokevirtual 35, 3) := dq_182 (dq_w dwc_36 9 rfl) (dq_w dwc_36 10 rfl) (dq_w dwc_36 11 rfl) rfl
theorem dX1_tellStatement_156 : decode cX1_tellStatement 156 = .ok (.invokevirtual 50, 3) := dq_182 (dq_w dwc_36 12 rfl) (dq_w dwc_36 13 rfl) (dq_w dwc_36 14 rfl) rfl
theorem dX1_tellStatement_159 : decode cX1_tellStatement 159 = .ok (.ireturn, 1) := dq_172 (dq_w dwc_36 15 rfl)
theorem dX1_tellStatement_160 : decode cX1_tellStatement 160 = .ok (.aload_n 1, 1) := dq_43 (dq_w dwc_37 0 rfl)
theorem dX1_tellStatement_161 : decode cX1_tellStatement 161 = .ok (.aload_n 0, 1) := dq_42 (dq_w dwc_37 1 rfl)
theorem dX1_tellStatement_162 : decode cX1_tellStatement 162 = .ok (.iload_n 2, 1) := dq_28 (dq_w dwc_37 2 rfl)
theorem dX1_tellStatement_163 : decode cX1_tellStatement 163 = .ok (.iconst 1, 1) := dq_4 (dq_w dwc_37 3 rfl)
theorem dX1_tellStatement_164 : decode cX1_tellStatement 164 = .ok (.iadd, 1) := dq_96 (dq_w dwc_37 4 rfl)
theorem dX1_tellStatement_165 : decode cX1_tellStatement 165 = .ok (.invokevirtual 35, 3) := dq_182 (dq_w dwc_37 5 rfl) (dq_w dwc_37 6 rfl) (dq_w dwc_37 7 rfl) rfl
theorem dX1_tellStatement_168 : decode cX1_tellStatement 168 = .ok (.aload_n 0, 1) := dq_42 (dq_w dwc_37 8 rfl)
theorem dX1_tellStatement_169 : decode cX1_tellStatement 169 = .ok (.iload_n 2, 1) := dq_28 (dq_w dwc_37 9 rfl)
theorem dX1_tellStatement_170 : decode cX1_tellStatement 170 = .ok (.iconst 2, 1) := dq_5 (dq_w dwc_37 10 rfl)
theorem dX1_tellStatement_171 : decode cX1_tellStatement 171 = .ok (.iadd, 1) := dq_96 (dq_w dwc_37 11 rfl)
theorem dX1_tellStatement_172 : decode cX1_tellStatement 172 = .ok (.invokevirtual 38, 3) := dq_182 (dq_w dwc_37 12 rfl) (dq_w dwc_37 13 rfl) (dq_w dwc_37 14 rfl) rfl
theorem dX1_tellStatement_175 : decode cX1_tellStatement 175 = .ok (.invokevirtual 54, 3) := dq_182 (dq_w dwc_37 15 rfl) (dq_w dwc_38 0 rfl) (dq_w dwc_38 1 rfl) rfl
theorem dX1_tellStatement_178 : decode cX1_tellStatement 178 = .ok (.ireturn, 1) := dq_172 (dq_w dwc_38 2 rfl)
theorem dX1_tellStatement_179 : decode cX1_tellStatement 179 = .ok (.aload_n 1, 1) := dq_43 (dq_w dwc_38 3 rfl)
theorem dX1_tellStatement_180 : decode cX1_tellStatement 180 = .ok (.aload_n 0, 1) := dq_42 (dq_w dwc_38 4 rfl)
theorem dX1_tellStatement_181 : decode cX1_tellStatement 181 = .ok (.iload_n 2, 1) := dq_28 (dq_w dwc_38 5 rfl)
theorem dX1_tellStatement_182 : decode cX1_tellStatement 182 = .ok (.iconst 1, 1) := dq_4 (dq_w dwc_38 6 rfl)
theorem dX1_tellStatement_183 : decode cX1_tellStatement 183 = .ok (.iadd, 1) := dq_96 (dq_w dwc_38 7 rfl)
theorem dX1_tellStatement_184 : decode cX1_tellStatement 184 = .ok (.invokevirtual 35, 3) := dq_182 (dq_w dwc_38 8 rfl) (dq_w dwc_38 9 rfl) (dq_w dwc_38 10 rfl) rfl
theorem dX1_tellStatement_187 : decode cX1_tellStatement 187 = .ok (.aload_n 0, 1) := dq_42 (dq_w dwc_38 11 rfl)
theorem dX1_tellStatement_188 : decode cX1_tellStatement 188 = .ok (.iload_n 2, 1) := dq_28 (dq_w dwc_38 12 rfl)
theorem dX1_tellStatement_189 : decode cX1_tellStatement 189 = .ok (.iconst 2, 1) := dq_5 (dq_w dwc_38 13 rfl)
theorem dX1_tellStatement_190 : decode cX1_tellStatement 190 = .ok (.iadd, 1) := dq_96 (dq_w dwc_38 14 rfl)
theorem dX1_tellStatement_191 : decode cX1_tellStatement 191 = .ok (.invokevirtual 35, 3) := dq_182 (dq_w dwc_38 15 rfl) (dq_w dwc_39 0 rfl) (dq_w dwc_39 1 rfl) rfl
theorem dX1_tellStatement_194 : decode cX1_tellStatement 194 = .ok (.invokevirtual 58, 3) := dq_182 (dq_w dwc_39 2 rfl) (dq_w dwc_39 3 rfl) (dq_w dwc_39 4 rfl) rfl
theorem dX1_tellStatement_197 : decode cX1_tellStatement 197 = .ok (.ireturn, 1) := dq_172 (dq_w dwc_39 5 rfl)
theorem dX1_tellStatement_198 : decode cX1_tellStatement 198 = .ok (.aload_n 1, 1) := dq_43 (dq_w dwc_39 6 rfl)
theorem dX1_tellStatement_199 : decode cX1_tellStatement 199 = .ok (.aload_n 0, 1) := dq_42 (dq_w dwc_39 7 rfl)
theorem dX1_tellStatement_200 : decode cX1_tellStatement 200 = .ok (.iload_n 2, 1) := dq_28 (dq_w dwc_39 8 rfl)
theorem dX1_tellStatement_201 : decode cX1_tellStatement 201 = .ok (.iconst 1, 1) := dq_4 (dq_w dwc_39 9 rfl)
theorem dX1_tellStatement_202 : decode cX1_tellStatement 202 = .ok (.iadd, 1) := dq_96 (dq_w dwc_39 10 rfl)
theorem dX1_tellStatement_203 : decode cX1_tellStatement 203 = .ok (.invokevirtual 38, 3) := dq_182 (dq_w dwc_39 11 rfl) (dq_w dwc_39 12 rfl) (dq_w dwc_39 13 rfl) rfl
theorem dX1_tellStatement_206 : decode cX1_tellStatement 206 = .ok (.invokevirtual 61, 3) := dq_182 (dq_w dwc_39 14 rfl) (dq_w dwc_39 15 rfl) (dq_w dwc_40 0 rfl) rfl
theorem dX1_tellStatement_209 : decode cX1_tellStatement 209 = .ok (.ireturn, 1) := dq_172 (dq_w dwc_40 1 rfl)
theorem dX1_tellStatement_210 : decode cX1_tellStatement 210 = .ok (.iconst 0, 1) := dq_3 (dq_w dwc_40 2 rfl)
theorem dX1_tellStatement_211 : decode cX1_tellStatement 211 = .ok (.ireturn, 1) := dq_172 (dq_w dwc_40 3 rfl)
theorem dwc_41 : (cX1_digit.data.toList.drop 0).take 16 = [27, 42, 180, 0, 15, 162, 0, 15, 42, 180, 0, 9, 27, 46, 16, 48] := by decide +kernel
theorem dwc_42 : (cX1_digit.data.toList.drop 16).take 16 = [100, 167, 0, 4, 3, 172] := by decide +kernel
theorem dX1_digit_0 : decode cX1_digit 0 = .ok (.iload_n 1, 1) := dq_27 (dq_w dwc_41 0 rfl)
theorem dX1_digit_1 : decode cX1_digit 1 = .ok (.aload_n 0, 1) := dq_42 (dq_w dwc_41 1 rfl)
theorem dX1_digit_2 : decode cX1_digit 2 = .ok (.getfield 15, 3) := dq_180 (dq_w dwc_41 2 rfl) (dq_w dwc_41 3 rfl) (dq_w dwc_41 4 rfl) rfl
theorem dX1_digit_5 : decode cX1_digit 5 = .ok (.if_icmp .ge 15, 3) := dq_162 (dq_w dwc_41 5 rfl) (dq_w dwc_41 6 rfl) (dq_w dwc_41 7 rfl) (dq_p (n := 15) rfl rfl)
theorem dX1_digit_8 : decode cX1_digit 8 = .ok (.aload_n 0, 1) := dq_42 (dq_w dwc_41 8 rfl)
theorem dX1_digit_9 : decode cX1_digit 9 = .ok (.getfield 9, 3) := dq_180 (dq_w dwc_41 9 rfl) (dq_w dwc_41 10 rfl) (dq_w dwc_41 11 rfl) rfl
theorem dX1_digit_12 : decode cX1_digit 12 = .ok (.iload_n 1, 1) := dq_27 (dq_w dwc_41 12 rfl)
theorem dX1_digit_13 : decode cX1_digit 13 = .ok (.iaload, 1) := dq_46 (dq_w dwc_41 13 rfl)
theorem dX1_digit_14 : decode cX1_digit 14 = .ok (.bipush 48, 2) := dq_16 (dq_w dwc_41 14 rfl) (dq_w dwc_41 15 rfl) rfl
theorem dX1_digit_16 : decode cX1_digit 16 = .ok (.isub, 1) := dq_100 (dq_w dwc_42 0 rfl)
theorem dX1_digit_17 : decode cX1_digit 17 = .ok (.goto 4, 3) := dq_167 (dq_w dwc_42 1 rfl) (dq_w dwc_42 2 rfl) (dq_w dwc_42 3 rfl) (dq_p (n := 4) rfl rfl)
theorem dX1_digit_20 : decode cX1_digit 20 = .ok (.iconst 0, 1) := dq_3 (dq_w dwc_42 4 rfl)
theorem dX1_digit_21 : decode cX1_digit 21 = .ok (.ireturn, 1) := dq_172 (dq_w dwc_42 5 rfl)
theorem dwc_43 : (cX1_pair.data.toList.drop 0).take 16 = [16, 10, 42, 27, 182, 0, 35, 104, 42, 27, 4, 96, 182, 0, 35, 96] := by decide +kernel
theorem dwc_44 : (cX1_pair.data.toList.drop 16).take 16 = [172] := by decide +kernel
theorem dX1_pair_0 : decode cX1_pair 0 = .ok (.bipush 10, 2) := dq_16 (dq_w dwc_43 0 rfl) (dq_w dwc_43 1 rfl) rfl
theorem dX1_pair_2 : decode cX1_pair 2 = .ok (.aload_n 0, 1) := dq_42 (dq_w dwc_43 2 rfl)
theorem dX1_pair_3 : decode cX1_pair 3 = .ok (.iload_n 1, 1) := dq_27 (dq_w dwc_43 3 rfl)
theorem dX1_pair_4 : decode cX1_pair 4 = .ok (.invokevirtual 35, 3) := dq_182 (dq_w dwc_43 4 rfl) (dq_w dwc_43 5 rfl) (dq_w dwc_43 6 rfl) rfl
theorem dX1_pair_7 : decode cX1_pair 7 = .ok (.imul, 1) := dq_104 (dq_w dwc_43 7 rfl)
theorem dX1_pair_8 : decode cX1_pair 8 = .ok (.aload_n 0, 1) := dq_42 (dq_w dwc_43 8 rfl)
theorem dX1_pair_9 : decode cX1_pair 9 = .ok (.iload_n 1, 1) := dq_27 (dq_w dwc_43 9 rfl)
theorem dX1_pair_10 : decode cX1_pair 10 = .ok (.iconst 1, 1) := dq_4 (dq_w dwc_43 10 rfl)
theorem dX1_pair_11 : decode cX1_pair 11 = .ok (.iadd, 1) := dq_96 (dq_w dwc_43 11 rfl)
theorem dX1_pair_12 : decode cX1_pair 12 = .ok (.invokevirtual 35, 3) := dq_182 (dq_w dwc_43 12 rfl) (dq_w dwc_43 13 rfl) (dq_w dwc_43 14 rfl) rfl
theorem dX1_pair_15 : decode cX1_pair 15 = .ok (.iadd, 1) := dq_96 (dq_w dwc_43 15 rfl)
theorem dX1_pair_16 : decode cX1_pair 16 = .ok (.ireturn, 1) := dq_172 (dq_w dwc_44 0 rfl)
theorem dwc_45 : (cX2_init.data.toList.drop 0).take 16 = [42, 183, 0, 3, 42, 17, 3, 128, 188, 10, 181, 0, 9, 177] := by decide +kernel
theorem dX2_init_0 : decode cX2_init 0 = .ok (.aload_n 0, 1) := dq_42 (dq_w dwc_45 0 rfl)
theorem dX2_init_1 : decode cX2_init 1 = .ok (.invokespecial 3, 3) := dq_183 (dq_w dwc_45 1 rfl) (dq_w dwc_45 2 rfl) (dq_w dwc_45 3 rfl) rfl
theorem dX2_init_4 : decode cX2_init 4 = .ok (.aload_n 0, 1) := dq_42 (dq_w dwc_45 4 rfl)
theorem dX2_init_5 : decode cX2_init 5 = .ok (.sipush 896, 3) := dq_17 (dq_w dwc_45 5 rfl) (dq_w dwc_45 6 rfl) (dq_w dwc_45 7 rfl) (dq_p (n := 896) rfl rfl)
theorem dX2_init_8 : decode cX2_init 8 = .ok (.newarray .int, 2) := by decide +kernel
theorem dX2_init_10 : decode cX2_init 10 = .ok (.putfield 9, 3) := dq_181 (dq_w dwc_45 10 rfl) (dq_w dwc_45 11 rfl) (dq_w dwc_45 12 rfl) rfl
theorem dX2_init_13 : decode cX2_init 13 = .ok (.return_, 1) := dq_177 (dq_w dwc_45 13 rfl)
theorem dwc_46 : (cX2_plan.data.toList.drop 0).take 16 = [42, 43, 28, 3, 182, 0, 15, 181, 0, 21, 3, 62, 29, 42, 180, 0] := by decide +kernel
theorem dwc_47 : (cX2_plan.data.toList.drop 16).take 16 = [21, 163, 0, 66, 29, 42, 180, 0, 21, 2, 130, 126, 153, 0, 6, 167] := by decide +kernel
theorem dwc_48 : (cX2_plan.data.toList.drop 32).take 16 = [0, 46, 3, 54, 4, 21, 4, 43, 180, 0, 25, 162, 0, 34, 42, 180] := by decide +kernel
theorem dwc_49 : (cX2_plan.data.toList.drop 48).take 16 = [0, 9, 29, 16, 7, 104, 21, 4, 96, 42, 43, 43, 180, 0, 28, 21] := by decide +kernel
theorem dwc_50 : (cX2_plan.data.toList.drop 64).take 16 = [4, 46, 29, 182, 0, 31, 79, 132, 4, 1, 167, 255, 219, 132, 3, 1] := by decide +kernel
theorem dwc_51 : (cX2_plan.data.toList.drop 80).take 16 = [167, 255, 188, 177] := by decide +kernel
theorem dX2_plan_0 : decode cX2_plan 0 = .ok (.aload_n 0, 1) := dq_42 (dq_w dwc_46 0 rfl)
theorem dX2_plan_1 : decode cX2_plan 1 = .ok (.aload_n 1, 1) := dq_43 (dq_w dwc_46 1 rfl)
theorem dX2_plan_2 : decode cX2_plan 2 = .ok (.iload_n 2, 1) := dq_28 (dq_w dwc_46 2 rfl)
theorem dX2_plan_3 : decode cX2_plan 3 = .ok (.iconst 0, 1) := dq_3 (dq_w dwc_46 3 rfl)
theorem dX2_plan_4 : decode cX2_plan 4 = .ok (.invokevirtual 15, 3) := dq_182 (dq_w dwc_46 4 rfl) (dq_w dwc_46 5 rfl) (dq_w dwc_46 6 rfl) rfl
theorem dX2_plan_7 : decode cX2_plan 7 = .ok (.putfield 21, 3) := dq_181 (dq_w dwc_46 7 rfl) (dq_w dwc_46 8 rfl) (dq_w dwc_46 9 rfl) rfl
theorem dX2_plan_10 : decode cX2_plan 10 = .ok (.iconst 0, 1) := dq_3 (dq_w dwc_46 10 rfl)
theorem dX2_plan_11 : decode cX2_plan 11 = .ok (.istore_n 3, 1) := dq_62 (dq_w dwc_46 11 rfl)
theorem dX2_plan_12 : decode cX2_plan 12 = .ok (.iload_n 3, 1) := dq_29 (dq_w dwc_46 12 rfl)
theorem dX2_plan_13 : decode cX2_plan 13 = .ok (.aload_n 0, 1) := dq_42 (dq_w dwc_46 13 rfl)
theorem dX2_plan_14 : decode cX2_plan 14 = .ok (.getfield 21, 3) := dq_180 (dq_w dwc_46 14 rfl) (dq_w dwc_46 15 rfl) (dq_w dwc_47 0 rfl) rfl
theorem dX2_plan_17 : decode cX2_plan 17 = .ok (.if_icmp .gt 66, 3) := dq_163 (dq_w dwc_47 1 rfl) (dq_w dwc_47 2 rfl) (dq_w dwc_47 3 rfl) (dq_p (n := 66) rfl rfl)
theorem dX2_plan_20 : decode cX2_plan 20 = .ok (.iload_n 3, 1) := dq_29 (dq_w dwc_47 4 rfl)
theorem dX2_plan_21 : decode cX2_plan 21 = .ok (.aload_n 0, 1) := dq_42 (dq_w dwc_47 5 rfl)
theorem dX2_plan_22 : decode cX2_plan 22 = .ok (.getfield 21, 3) := dq_180 (dq_w dwc_47 6 rfl) (dq_w dwc_47 7 rfl) (dq_w dwc_47 8 rfl) rfl
theorem dX2_plan_25 : decode cX2_plan 25 = .ok (.iconst (-1), 1) := dq_2 (dq_w dwc_47 9 rfl)
theorem dX2_plan_26 : decode cX2_plan 26 = .ok (.ixor, 1) := dq_130 (dq_w dwc_47 10 rfl)
theorem dX2_plan_27 : decode cX2_plan 27 = .ok (.iand, 1) := dq_126 (dq_w dwc_47 11 rfl)
theorem dX2_plan_28 : decode cX2_plan 28 = .ok (.ifCond .eq 6, 3) := dq_153 (dq_w dwc_47 12 rfl) (dq_w dwc_47 13 rfl) (dq_w dwc_47 14 rfl) (dq_p (n := 6) rfl rfl)
theorem dX2_plan_31 : decode cX2_plan 31 = .ok (.goto 46, 3) := dq_167 (dq_w dwc_47 15 rfl) (dq_w dwc_48 0 rfl) (dq_w dwc_48 1 rfl) (dq_p (n := 46) rfl rfl)
theorem dX2_plan_34 : decode cX2_plan 34 = .ok (.iconst 0, 1) := dq_3 (dq_w dwc_48 2 rfl)
theorem dX2_plan_35 : decode cX2_plan 35 = .ok (.istore 4, 2) := dq_54 (dq_w dwc_48 3 rfl) (dq_w dwc_48 4 rfl) rfl
theorem dX2_plan_37 : decode cX2_plan 37 = .ok (.iload 4, 2) := dq_21 (dq_w dwc_48 5 rfl) (dq_w dwc_48 6 rfl) rfl
theorem dX2_plan_39 : decode cX2_plan 39 = .ok (.aload_n 1, 1) := dq_43 (dq_w dwc_48 7 rfl)
theorem dX2_plan_40 : decode cX2_plan 40 = .ok (.getfield 25, 3) := dq_180 (dq_w dwc_48 8 rfl) (dq_w dwc_48 9 rfl) (dq_w dwc_48 10 rfl) rfl
theorem dX2_plan_43 : decode cX2_plan 43 = .ok (.if_icmp .ge 34, 3) := dq_162 (dq_w dwc_48 11 rfl) (dq_w dwc_48 12 rfl) (dq_w dwc_48 13 rfl) (dq_p (n := 34) rfl rfl)
theorem dX2_plan_46 : decode cX2_plan 46 = .ok (.aload_n 0, 1) := dq_42 (dq_w dwc_48 14 rfl)
theorem dX2_plan_47 : decode cX2_plan 47 = .ok (.getfield 9, 3) := dq_180 (dq_w dwc_48 15 rfl) (dq_w dwc_49 0 rfl) (dq_w dwc_49 1 rfl) rfl
theorem dX2_plan_50 : decode cX2_plan 50 = .ok (.iload_n 3, 1) := dq_29 (dq_w dwc_49 2 rfl)
theorem dX2_plan_51 : decode cX2_plan 51 = .ok (.bipush 7, 2) := dq_16 (dq_w dwc_49 3 rfl) (dq_w dwc_49 4 rfl) rfl
theorem dX2_plan_53 : decode cX2_plan 53 = .ok (.imul, 1) := dq_104 (dq_w dwc_49 5 rfl)
theorem dX2_plan_54 : decode cX2_plan 54 = .ok (.iload 4, 2) := dq_21 (dq_w dwc_49 6 rfl) (dq_w dwc_49 7 rfl) rfl
theorem dX2_plan_56 : decode cX2_plan 56 = .ok (.iadd, 1) := dq_96 (dq_w dwc_49 8 rfl)
theorem dX2_plan_57 : decode cX2_plan 57 = .ok (.aload_n 0, 1) := dq_42 (dq_w dwc_49 9 rfl)
theorem dX2_plan_58 : decode cX2_plan 58 = .ok (.aload_n 1, 1) := dq_43 (dq_w dwc_49 10 rfl)
theorem dX2_plan_59 : decode cX2_plan 59 = .ok (.aload_n 1, 1) := dq_43 (dq_w dwc_49 11 rfl)
theorem dX2_plan_60 : decode cX2_plan 60 = .ok (.getfield 28, 3) := dq_180 (dq_w dwc_49 12 rfl) (dq_w dwc_49 13 rfl) (dq_w dwc_49 14 rfl) rfl
theorem dX2_plan_63 : decode cX2_plan 63 = .ok (.iload 4, 2) := dq_21 (dq_w dwc_49 15 rfl) (dq_w dwc_50 0 rfl) rfl
theorem dX2_plan_65 : decode cX2_plan 65 = .ok (.iaload, 1) := dq_46 (dq_w dwc_50 1 rfl)
theorem dX2_plan_66 : decode cX2_plan 66 = .ok (.iload_n 3, 1) := dq_29 (dq_w dwc_50 2 rfl)
theorem dX2_plan_67 : decode cX2_plan 67 = .ok (.invokevirtual 31, 3) := dq_182 (dq_w dwc_50 3 rfl) (dq_w dwc_50 4 rfl) (dq_w dwc_50 5 rfl) rfl
theorem dX2_plan_70 : decode cX2_plan 70 = .ok (.iastore, 1) := dq_79 (dq_w dwc_50 6 rfl)
theorem dX2_plan_71 : decode cX2_plan 71 = .ok (.iinc 4 1, 3) := dq_132 (dq_w dwc_50 7 rfl) (dq_w dwc_50 8 rfl) rfl (dq_w dwc_50 9 rfl) rfl
theorem dX2_plan_74 : decode cX2_plan 74 = .ok (.goto (-37), 3) := dq_167 (dq_w dwc_50 10 rfl) (dq_w dwc_50 11 rfl) (dq_w dwc_50 12 rfl) (dq_n (m := 37) rfl rfl)
theorem dX2_plan_77 : decode cX2_plan 77 = .ok (.iinc 3 1, 3) := dq_132 (dq_w dwc_50 13 rfl) (dq_w dwc_50 14 rfl) rfl (dq_w dwc_50 15 rfl) rfl
theorem dX2_plan_80 : decode cX2_plan 80 = .ok (.goto (-68), 3) := dq_167 (dq_w dwc_51 0 rfl) (dq_w dwc_51 1 rfl) (dq_w dwc_51 2 rfl) (dq_n (m := 68) rfl rfl)
theorem dX2_plan_83 : decode cX2_plan 83 = .ok (.return_, 1) := dq_177 (dq_w dwc_51 3 rfl)
theorem dwc_52 : (cX2_fewest.data.toList.drop 0).take 16 = [42, 43, 28, 29, 182, 0, 35, 54, 4, 21, 4, 16, 247, 160, 0, 7] := by decide +kernel
theorem dwc_53 : (cX2_fewest.data.toList.drop 16).take 16 = [3, 167, 0, 12, 42, 43, 28, 29, 21, 4, 182, 0, 38, 172] := by decide +kernel
theorem dX2_fewest_0 : decode cX2_fewest 0 = .ok (.aload_n 0, 1) := dq_42 (dq_w dwc_52 0 rfl)
theorem dX2_fewest_1 : decode cX2_fewest 1 = .ok (.aload_n 1, 1) := dq_43 (dq_w dwc_52 1 rfl)
theorem dX2_fewest_2 : decode cX2_fewest 2 = .ok (.iload_n 2, 1) := dq_28 (dq_w dwc_52 2 rfl)
theorem dX2_fewest_3 : decode cX2_fewest 3 = .ok (.iload_n 3, 1) := dq_29 (dq_w dwc_52 3 rfl)
theorem dX2_fewest_4 : decode cX2_fewest 4 = .ok (.invokevirtual 35, 3) := dq_182 (dq_w dwc_52 4 rfl) (dq_w dwc_52 5 rfl) (dq_w dwc_52 6 rfl) rfl
theorem dX2_fewest_7 : decode cX2_fewest 7 = .ok (.istore 4, 2) := dq_54 (dq_w dwc_52 7 rfl) (dq_w dwc_52 8 rfl) rfl
theorem dX2_fewest_9 : decode cX2_fewest 9 = .ok (.iload 4, 2) := dq_21 (dq_w dwc_52 9 rfl) (dq_w dwc_52 10 rfl) rfl
theorem dX2_fewest_11 : decode cX2_fewest 11 = .ok (.bipush (-9), 2) := dq_16 (dq_w dwc_52 11 rfl) (dq_w dwc_52 12 rfl) rfl
theorem dX2_fewest_13 : decode cX2_fewest 13 = .ok (.if_icmp .ne 7, 3) := dq_160 (dq_w dwc_52 13 rfl) (dq_w dwc_52 14 rfl) (dq_w dwc_52 15 rfl) (dq_p (n := 7) rfl rfl)
theorem dX2_fewest_16 : decode cX2_fewest 16 = .ok (.iconst 0, 1) := dq_3 (dq_w dwc_53 0 rfl)
theorem dX2_fewest_17 : decode cX2_fewest 17 = .ok (.goto 12, 3) := dq_167 (dq_w dwc_53 1 rfl) (dq_w dwc_53 2 rfl) (dq_w dwc_53 3 rfl) (dq_p (n := 12) rfl rfl)
theorem dX2_fewest_20 : decode cX2_fewest 20 = .ok (.aload_n 0, 1) := dq_42 (dq_w dwc_53 4 rfl)
theorem dX2_fewest_21 : decode cX2_fewest 21 = .ok (.aload_n 1, 1) := dq_43 (dq_w dwc_53 5 rfl)
theorem dX2_fewest_22 : decode cX2_fewest 22 = .ok (.iload_n 2, 1) := dq_28 (dq_w dwc_53 6 rfl)
theorem dX2_fewest_23 : decode cX2_fewest 23 = .ok (.iload_n 3, 1) := dq_29 (dq_w dwc_53 7 rfl)
theorem dX2_fewest_24 : decode cX2_fewest 24 = .ok (.iload 4, 2) := dq_21 (dq_w dwc_53 8 rfl) (dq_w dwc_53 9 rfl) rfl
theorem dX2_fewest_26 : decode cX2_fewest 26 = .ok (.invokevirtual 38, 3) := dq_182 (dq_w dwc_53 10 rfl) (dq_w dwc_53 11 rfl) (dq_w dwc_53 12 rfl) rfl
theorem dX2_fewest_29 : decode cX2_fewest 29 = .ok (.ireturn, 1) := dq_172 (dq_w dwc_53 13 rfl)
theorem dwc_54 : (cX2_stop.data.toList.drop 0).take 16 = [42, 180, 0, 21, 54, 4, 28, 54, 5, 3, 54, 6, 21, 6, 16, 7] := by decide +kernel
theorem dwc_55 : (cX2_stop.data.toList.drop 16).take 16 = [162, 0, 56, 42, 43, 21, 5, 21, 4, 182, 0, 35, 54, 7, 21, 7] := by decide +kernel
theorem dwc_56 : (cX2_stop.data.toList.drop 32).take 16 = [16, 247, 159, 0, 9, 21, 6, 29, 160, 0, 6, 21, 7, 172, 43, 180] := by decide +kernel
theorem dwc_57 : (cX2_stop.data.toList.drop 48).take 16 = [0, 28, 21, 7, 46, 54, 5, 21, 4, 4, 21, 7, 120, 2, 130, 126] := by decide +kernel
theorem dwc_58 : (cX2_stop.data.toList.drop 64).take 16 = [54, 4, 132, 6, 1, 167, 255, 199, 16, 247, 172] := by decide +kernel
theorem dX2_stop_0 : decode cX2_stop 0 = .ok (.aload_n 0, 1) := dq_42 (dq_w dwc_54 0 rfl)
theorem dX2_stop_1 : decode cX2_stop 1 = .ok (.getfield 21, 3) := dq_180 (dq_w dwc_54 1 rfl) (dq_w dwc_54 2 rfl) (dq_w dwc_54 3 rfl) rfl
theorem dX2_stop_4 : decode cX2_stop 4 = .ok (.istore 4, 2) := dq_54 (dq_w dwc_54 4 rfl) (dq_w dwc_54 5 rfl) rfl
theorem dX2_stop_6 : decode cX2_stop 6 = .ok (.iload_n 2, 1) := dq_28 (dq_w dwc_54 6 rfl)
theorem dX2_stop_7 : decode cX2_stop 7 = .ok (.istore 5, 2) := dq_54 (dq_w dwc_54 7 rfl) (dq_w dwc_54 8 rfl) rfl
theorem dX2_stop_9 : decode cX2_stop 9 = .ok (.iconst 0, 1) := dq_3 (dq_w dwc_54 9 rfl)
theorem dX2_stop_10 : decode cX2_stop 10 = .ok (.istore 6, 2) := dq_54 (dq_w dwc_54 10 rfl) (dq_w dwc_54 11 rfl) rfl
theorem dX2_stop_12 : decode cX2_stop 12 = .ok (.iload 6, 2) := dq_21 (dq_w dwc_54 12 rfl) (dq_w dwc_54 13 rfl) rfl
theorem dX2_stop_14 : decode cX2_stop 14 = .ok (.bipush 7, 2) := dq_16 (dq_w dwc_54 14 rfl) (dq_w dwc_54 15 rfl) rfl
theorem dX2_stop_16 : decode cX2_stop 16 = .ok (.if_icmp .ge 56, 3) := dq_162 (dq_w dwc_55 0 rfl) (dq_w dwc_55 1 rfl) (dq_w dwc_55 2 rfl) (dq_p (n := 56) rfl rfl)
theorem dX2_stop_19 : decode cX2_stop 19 = .ok (.aload_n 0, 1) := dq_42 (dq_w dwc_55 3 rfl)
theorem dX2_stop_20 : decode cX2_stop 20 = .ok (.aload_n 1, 1) := dq_43 (dq_w dwc_55 4 rfl)
theorem dX2_stop_21 : decode cX2_stop 21 = .ok (.iload 5, 2) := dq_21 (dq_w dwc_55 5 rfl) (dq_w dwc_55 6 rfl) rfl
theorem dX2_stop_23 : decode cX2_stop 23 = .ok (.iload 4, 2) := dq_21 (dq_w dwc_55 7 rfl) (dq_w dwc_55 8 rfl) rfl
theorem dX2_stop_25 : decode cX2_stop 25 = .ok (.invokevirtual 35, 3) := dq_182 (dq_w dwc_55 9 rfl) (dq_w dwc_55 10 rfl) (dq_w dwc_55 11 rfl) rfl
theorem dX2_stop_28 : decode cX2_stop 28 = .ok (.istore 7, 2) := dq_54 (dq_w dwc_55 12 rfl) (dq_w dwc_55 13 rfl) rfl
theorem dX2_stop_30 : decode cX2_stop 30 = .ok (.iload 7, 2) := dq_21 (dq_w dwc_55 14 rfl) (dq_w dwc_55 15 rfl) rfl
theorem dX2_stop_32 : decode cX2_stop 32 = .ok (.bipush (-9), 2) := dq_16 (dq_w dwc_56 0 rfl) (dq_w dwc_56 1 rfl) rfl
theorem dX2_stop_34 : decode cX2_stop 34 = .ok (.if_icmp .eq 9, 3) := dq_159 (dq_w dwc_56 2 rfl) (dq_w dwc_56 3 rfl) (dq_w dwc_56 4 rfl) (dq_p (n := 9) rfl rfl)
theorem dX2_stop_37 : decode cX2_stop 37 = .ok (.iload 6, 2) := dq_21 (dq_w dwc_56 5 rfl) (dq_w dwc_56 6 rfl) rfl
theorem dX2_stop_39 : decode cX2_stop 39 = .ok (.iload_n 3, 1) := dq_29 (dq_w dwc_56 7 rfl)
theorem dX2_stop_40 : decode cX2_stop 40 = .ok (.if_icmp .ne 6, 3) := dq_160 (dq_w dwc_56 8 rfl) (dq_w dwc_56 9 rfl) (dq_w dwc_56 10 rfl) (dq_p (n := 6) rfl rfl)
theorem dX2_stop_43 : decode cX2_stop 43 = .ok (.iload 7, 2) := dq_21 (dq_w dwc_56 11 rfl) (dq_w dwc_56 12 rfl) rfl
theorem dX2_stop_45 : decode cX2_stop 45 = .ok (.ireturn, 1) := dq_172 (dq_w dwc_56 13 rfl)
theorem dX2_stop_46 : decode cX2_stop 46 = .ok (.aload_n 1, 1) := dq_43 (dq_w dwc_56 14 rfl)
theorem dX2_stop_47 : decode cX2_stop 47 = .ok (.getfield 28, 3) := dq_180 (dq_w dwc_56 15 rfl) (dq_w dwc_57 0 rfl) (dq_w dwc_57 1 rfl) rfl
theorem dX2_stop_50 : decode cX2_stop 50 = .ok (.iload 7, 2) := dq_21 (dq_w dwc_57 2 rfl) (dq_w dwc_57 3 rfl) rfl
theorem dX2_stop_52 : decode cX2_stop 52 = .ok (.iaload, 1) := dq_46 (dq_w dwc_57 4 rfl)
theorem dX2_stop_53 : decode cX2_stop 53 = .ok (.istore 5, 2) := dq_54 (dq_w dwc_57 5 rfl) (dq_w dwc_57 6 rfl) rfl
theorem dX2_stop_55 : decode cX2_stop 55 = .ok (.iload 4, 2) := dq_21 (dq_w dwc_57 7 rfl) (dq_w dwc_57 8 rfl) rfl
theorem dX2_stop_57 : decode cX2_stop 57 = .ok (.iconst 1, 1) := dq_4 (dq_w dwc_57 9 rfl)
theorem dX2_stop_58 : decode cX2_stop 58 = .ok (.iload 7, 2) := dq_21 (dq_w dwc_57 10 rfl) (dq_w dwc_57 11 rfl) rfl
theorem dX2_stop_60 : decode cX2_stop 60 = .ok (.ishl, 1) := dq_120 (dq_w dwc_57 12 rfl)
theorem dX2_stop_61 : decode cX2_stop 61 = .ok (.iconst (-1), 1) := dq_2 (dq_w dwc_57 13 rfl)
theorem dX2_stop_62 : decode cX2_stop 62 = .ok (.ixor, 1) := dq_130 (dq_w dwc_57 14 rfl)
theorem dX2_stop_63 : decode cX2_stop 63 = .ok (.iand, 1) := dq_126 (dq_w dwc_57 15 rfl)
theorem dX2_stop_64 : decode cX2_stop 64 = .ok (.istore 4, 2) := dq_54 (dq_w dwc_58 0 rfl) (dq_w dwc_58 1 rfl) rfl
theorem dX2_stop_66 : decode cX2_stop 66 = .ok (.iinc 6 1, 3) := dq_132 (dq_w dwc_58 2 rfl) (dq_w dwc_58 3 rfl) rfl (dq_w dwc_58 4 rfl) rfl
theorem dX2_stop_69 : decode cX2_stop 69 = .ok (.goto (-57), 3) := dq_167 (dq_w dwc_58 5 rfl) (dq_w dwc_58 6 rfl) (dq_w dwc_58 7 rfl) (dq_n (m := 57) rfl rfl)
theorem dX2_stop_72 : decode cX2_stop 72 = .ok (.bipush (-9), 2) := dq_16 (dq_w dwc_58 8 rfl) (dq_w dwc_58 9 rfl) rfl
theorem dX2_stop_74 : decode cX2_stop 74 = .ok (.ireturn, 1) := dq_172 (dq_w dwc_58 10 rfl)
theorem dwc_59 : (cX2_nextDoor.data.toList.drop 0).take 16 = [16, 247, 54, 4, 3, 54, 5, 3, 54, 6, 21, 6, 43, 180, 0, 25] := by decide +kernel
theorem dwc_60 : (cX2_nextDoor.data.toList.drop 16).take 16 = [162, 0, 54, 29, 21, 6, 122, 4, 126, 154, 0, 6, 167, 0, 36, 42] := by decide +kernel
theorem dwc_61 : (cX2_nextDoor.data.toList.drop 32).take 16 = [43, 28, 29, 21, 6, 182, 0, 38, 54, 7, 21, 4, 16, 247, 159, 0] := by decide +kernel
theorem dwc_62 : (cX2_nextDoor.data.toList.drop 48).take 16 = [10, 21, 7, 21, 5, 162, 0, 11, 21, 7, 54, 5, 21, 6, 54, 4] := by decide +kernel
theorem dwc_63 : (cX2_nextDoor.data.toList.drop 64).take 16 = [132, 6, 1, 167, 255, 199, 21, 4, 172] := by decide +kernel
theorem dX2_nextDoor_0 : decode cX2_nextDoor 0 = .ok (.bipush (-9), 2) := dq_16 (dq_w dwc_59 0 rfl) (dq_w dwc_59 1 rfl) rfl
theorem dX2_nextDoor_2 : decode cX2_nextDoor 2 = .ok (.istore 4, 2) := dq_54 (dq_w dwc_59 2 rfl) (dq_w dwc_59 3 rfl) rfl
theorem dX2_nextDoor_4 : decode cX2_nextDoor 4 = .ok (.iconst 0, 1) := dq_3 (dq_w dwc_59 4 rfl)
theorem dX2_nextDoor_5 : decode cX2_nextDoor 5 = .ok (.istore 5, 2) := dq_54 (dq_w dwc_59 5 rfl) (dq_w dwc_59 6 rfl) rfl
theorem dX2_nextDoor_7 : decode cX2_nextDoor 7 = .ok (.iconst 0, 1) := dq_3 (dq_w dwc_59 7 rfl)
theorem dX2_nextDoor_8 : decode cX2_nextDoor 8 = .ok (.istore 6, 2) := dq_54 (dq_w dwc_59 8 rfl) (dq_w dwc_59 9 rfl) rfl
theorem dX2_nextDoor_10 : decode cX2_nextDoor 10 = .ok (.iload 6, 2) := dq_21 (dq_w dwc_59 10 rfl) (dq_w dwc_59 11 rfl) rfl
theorem dX2_nextDoor_12 : decode cX2_nextDoor 12 = .ok (.aload_n 1, 1) := dq_43 (dq_w dwc_59 12 rfl)
theorem dX2_nextDoor_13 : decode cX2_nextDoor 13 = .ok (.getfield 25, 3) := dq_180 (dq_w dwc_59 13 rfl) (dq_w dwc_59 14 rfl) (dq_w dwc_59 15 rfl) rfl
theorem dX2_nextDoor_16 : decode cX2_nextDoor 16 = .ok (.if_icmp .ge 54, 3) := dq_162 (dq_w dwc_60 0 rfl) (dq_w dwc_60 1 rfl) (dq_w dwc_60 2 rfl) (dq_p (n := 54) rfl rfl)
theorem dX2_nextDoor_19 : decode cX2_nextDoor 19 = .ok (.iload_n 3, 1) := dq_29 (dq_w dwc_60 3 rfl)
theorem dX2_nextDoor_20 : decode cX2_nextDoor 20 = .ok (.iload 6, 2) := dq_21 (dq_w dwc_60 4 rfl) (dq_w dwc_60 5 rfl) rfl
theorem dX2_nextDoor_22 : decode cX2_nextDoor 22 = .ok (.ishr, 1) := dq_122 (dq_w dwc_60 6 rfl)
theorem dX2_nextDoor_23 : decode cX2_nextDoor 23 = .ok (.iconst 1, 1) := dq_4 (dq_w dwc_60 7 rfl)
theorem dX2_nextDoor_24 : decode cX2_nextDoor 24 = .ok (.iand, 1) := dq_126 (dq_w dwc_60 8 rfl)
theorem dX2_nextDoor_25 : decode cX2_nextDoor 25 = .ok (.ifCond .ne 6, 3) := dq_154 (dq_w dwc_60 9 rfl) (dq_w dwc_60 10 rfl) (dq_w dwc_60 11 rfl) (dq_p (n := 6) rfl rfl)
theorem dX2_nextDoor_28 : decode cX2_nextDoor 28 = .ok (.goto 36, 3) := dq_167 (dq_w dwc_60 12 rfl) (dq_w dwc_60 13 rfl) (dq_w dwc_60 14 rfl) (dq_p (n := 36) rfl rfl)
theorem dX2_nextDoor_31 : decode cX2_nextDoor 31 = .ok (.aload_n 0, 1) := dq_42 (dq_w dwc_60 15 rfl)
theorem dX2_nextDoor_32 : decode cX2_nextDoor 32 = .ok (.aload_n 1, 1) := dq_43 (dq_w dwc_61 0 rfl)
theorem dX2_nextDoor_33 : decode cX2_nextDoor 33 = .ok (.iload_n 2, 1) := dq_28 (dq_w dwc_61 1 rfl)
theorem dX2_nextDoor_34 : decode cX2_nextDoor 34 = .ok (.iload_n 3, 1) := dq_29 (dq_w dwc_61 2 rfl)
theorem dX2_nextDoor_35 : decode cX2_nextDoor 35 = .ok (.iload 6, 2) := dq_21 (dq_w dwc_61 3 rfl) (dq_w dwc_61 4 rfl) rfl
theorem dX2_nextDoor_37 : decode cX2_nextDoor 37 = .ok (.invokevirtual 38, 3) := dq_182 (dq_w dwc_61 5 rfl) (dq_w dwc_61 6 rfl) (dq_w dwc_61 7 rfl) rfl
theorem dX2_nextDoor_40 : decode cX2_nextDoor 40 = .ok (.istore 7, 2) := dq_54 (dq_w dwc_61 8 rfl) (dq_w dwc_61 9 rfl) rfl
theorem dX2_nextDoor_42 : decode cX2_nextDoor 42 = .ok (.iload 4, 2) := dq_21 (dq_w dwc_61 10 rfl) (dq_w dwc_61 11 rfl) rfl
theorem dX2_nextDoor_44 : decode cX2_nextDoor 44 = .ok (.bipush (-9), 2) := dq_16 (dq_w dwc_61 12 rfl) (dq_w dwc_61 13 rfl) rfl
theorem dX2_nextDoor_46 : decode cX2_nextDoor 46 = .ok (.if_icmp .eq 10, 3) := dq_159 (dq_w dwc_61 14 rfl) (dq_w dwc_61 15 rfl) (dq_w dwc_62 0 rfl) (dq_p (n := 10) rfl rfl)
theorem dX2_nextDoor_49 : decode cX2_nextDoor 49 = .ok (.iload 7, 2) := dq_21 (dq_w dwc_62 1 rfl) (dq_w dwc_62 2 rfl) rfl
theorem dX2_nextDoor_51 : decode cX2_nextDoor 51 = .ok (.iload 5, 2) := dq_21 (dq_w dwc_62 3 rfl) (dq_w dwc_62 4 rfl) rfl
theorem dX2_nextDoor_53 : decode cX2_nextDoor 53 = .ok (.if_icmp .ge 11, 3) := dq_162 (dq_w dwc_62 5 rfl) (dq_w dwc_62 6 rfl) (dq_w dwc_62 7 rfl) (dq_p (n := 11) rfl rfl)
theorem dX2_nextDoor_56 : decode cX2_nextDoor 56 = .ok (.iload 7, 2) := dq_21 (dq_w dwc_62 8 rfl) (dq_w dwc_62 9 rfl) rfl
theorem dX2_nextDoor_58 : decode cX2_nextDoor 58 = .ok (.istore 5, 2) := dq_54 (dq_w dwc_62 10 rfl) (dq_w dwc_62 11 rfl) rfl
theorem dX2_nextDoor_60 : decode cX2_nextDoor 60 = .ok (.iload 6, 2) := dq_21 (dq_w dwc_62 12 rfl) (dq_w dwc_62 13 rfl) rfl
theorem dX2_nextDoor_62 : decode cX2_nextDoor 62 = .ok (.istore 4, 2) := dq_54 (dq_w dwc_62 14 rfl) (dq_w dwc_62 15 rfl) rfl
theorem dX2_nextDoor_64 : decode cX2_nextDoor 64 = .ok (.iinc 6 1, 3) := dq_132 (dq_w dwc_63 0 rfl) (dq_w dwc_63 1 rfl) rfl (dq_w dwc_63 2 rfl) rfl
theorem dX2_nextDoor_67 : decode cX2_nextDoor 67 = .ok (.goto (-57), 3) := dq_167 (dq_w dwc_63 3 rfl) (dq_w dwc_63 4 rfl) (dq_w dwc_63 5 rfl) (dq_n (m := 57) rfl rfl)
theorem dX2_nextDoor_70 : decode cX2_nextDoor 70 = .ok (.iload 4, 2) := dq_21 (dq_w dwc_63 6 rfl) (dq_w dwc_63 7 rfl) rfl
theorem dX2_nextDoor_72 : decode cX2_nextDoor 72 = .ok (.ireturn, 1) := dq_172 (dq_w dwc_63 8 rfl)
theorem dwc_64 : (cX2_stepsBy.data.toList.drop 0).take 16 = [28, 43, 180, 0, 28, 21, 4, 46, 184, 0, 42, 42, 180, 0, 9, 29] := by decide +kernel
theorem dwc_65 : (cX2_stepsBy.data.toList.drop 16).take 16 = [4, 21, 4, 120, 2, 130, 126, 16, 7, 104, 21, 4, 96, 46, 96, 172] := by decide +kernel
theorem dX2_stepsBy_0 : decode cX2_stepsBy 0 = .ok (.iload_n 2, 1) := dq_28 (dq_w dwc_64 0 rfl)
theorem dX2_stepsBy_1 : decode cX2_stepsBy 1 = .ok (.aload_n 1, 1) := dq_43 (dq_w dwc_64 1 rfl)
theorem dX2_stepsBy_2 : decode cX2_stepsBy 2 = .ok (.getfield 28, 3) := dq_180 (dq_w dwc_64 2 rfl) (dq_w dwc_64 3 rfl) (dq_w dwc_64 4 rfl) rfl
theorem dX2_stepsBy_5 : decode cX2_stepsBy 5 = .ok (.iload 4, 2) := dq_21 (dq_w dwc_64 5 rfl) (dq_w dwc_64 6 rfl) rfl
theorem dX2_stepsBy_7 : decode cX2_stepsBy 7 = .ok (.iaload, 1) := dq_46 (dq_w dwc_64 7 rfl)
theorem dX2_stepsBy_8 : decode cX2_stepsBy 8 = .ok (.invokestatic 42, 3) := dq_184 (dq_w dwc_64 8 rfl) (dq_w dwc_64 9 rfl) (dq_w dwc_64 10 rfl) rfl
theorem dX2_stepsBy_11 : decode cX2_stepsBy 11 = .ok (.aload_n 0, 1) := dq_42 (dq_w dwc_64 11 rfl)
theorem dX2_stepsBy_12 : decode cX2_stepsBy 12 = .ok (.getfield 9, 3) := dq_180 (dq_w dwc_64 12 rfl) (dq_w dwc_64 13 rfl) (dq_w dwc_64 14 rfl) rfl
theorem dX2_stepsBy_15 : decode cX2_stepsBy 15 = .ok (.iload_n 3, 1) := dq_29 (dq_w dwc_64 15 rfl)
theorem dX2_stepsBy_16 : decode cX2_stepsBy 16 = .ok (.iconst 1, 1) := dq_4 (dq_w dwc_65 0 rfl)
theorem dX2_stepsBy_17 : decode cX2_stepsBy 17 = .ok (.iload 4, 2) := dq_21 (dq_w dwc_65 1 rfl) (dq_w dwc_65 2 rfl) rfl
theorem dX2_stepsBy_19 : decode cX2_stepsBy 19 = .ok (.ishl, 1) := dq_120 (dq_w dwc_65 3 rfl)
theorem dX2_stepsBy_20 : decode cX2_stepsBy 20 = .ok (.iconst (-1), 1) := dq_2 (dq_w dwc_65 4 rfl)
theorem dX2_stepsBy_21 : decode cX2_stepsBy 21 = .ok (.ixor, 1) := dq_130 (dq_w dwc_65 5 rfl)
theorem dX2_stepsBy_22 : decode cX2_stepsBy 22 = .ok (.iand, 1) := dq_126 (dq_w dwc_65 6 rfl)
theorem dX2_stepsBy_23 : decode cX2_stepsBy 23 = .ok (.bipush 7, 2) := dq_16 (dq_w dwc_65 7 rfl) (dq_w dwc_65 8 rfl) rfl
theorem dX2_stepsBy_25 : decode cX2_stepsBy 25 = .ok (.imul, 1) := dq_104 (dq_w dwc_65 9 rfl)
theorem dX2_stepsBy_26 : decode cX2_stepsBy 26 = .ok (.iload 4, 2) := dq_21 (dq_w dwc_65 10 rfl) (dq_w dwc_65 11 rfl) rfl
theorem dX2_stepsBy_28 : decode cX2_stepsBy 28 = .ok (.iadd, 1) := dq_96 (dq_w dwc_65 12 rfl)
theorem dX2_stepsBy_29 : decode cX2_stepsBy 29 = .ok (.iaload, 1) := dq_46 (dq_w dwc_65 13 rfl)
theorem dX2_stepsBy_30 : decode cX2_stepsBy 30 = .ok (.iadd, 1) := dq_96 (dq_w dwc_65 14 rfl)
theorem dX2_stepsBy_31 : decode cX2_stepsBy 31 = .ok (.ireturn, 1) := dq_172 (dq_w dwc_65 15 rfl)
theorem dwc_66 : (cX3_init.data.toList.drop 0).take 16 = [42, 183, 0, 5, 42, 16, 49, 188, 10, 181, 0, 11, 177] := by decide +kernel
theorem dX3_init_0 : decode cX3_init 0 = .ok (.aload_n 0, 1) := dq_42 (dq_w dwc_66 0 rfl)
theorem dX3_init_1 : decode cX3_init 1 = .ok (.invokespecial 5, 3) := dq_183 (dq_w dwc_66 1 rfl) (dq_w dwc_66 2 rfl) (dq_w dwc_66 3 rfl) rfl
theorem dX3_init_4 : decode cX3_init 4 = .ok (.aload_n 0, 1) := dq_42 (dq_w dwc_66 4 rfl)
theorem dX3_init_5 : decode cX3_init 5 = .ok (.bipush 49, 2) := dq_16 (dq_w dwc_66 5 rfl) (dq_w dwc_66 6 rfl) rfl
theorem dX3_init_7 : decode cX3_init 7 = .ok (.newarray .int, 2) := by decide +kernel
theorem dX3_init_9 : decode cX3_init 9 = .ok (.putfield 11, 3) := dq_181 (dq_w dwc_66 9 rfl) (dq_w dwc_66 10 rfl) (dq_w dwc_66 11 rfl) rfl
theorem dX3_init_12 : decode cX3_init 12 = .ok (.return_, 1) := dq_177 (dq_w dwc_66 12 rfl)
theorem dwc_67 : (cX3_find.data.toList.drop 0).take 16 = [43, 180, 0, 15, 28, 46, 54, 4, 43, 28, 3, 182, 0, 20, 54, 5] := by decide +kernel
theorem dwc_68 : (cX3_find.data.toList.drop 16).take 16 = [3, 54, 6, 21, 6, 16, 49, 162, 0, 28, 42, 180, 0, 11, 21, 6] := by decide +kernel
theorem dwc_69 : (cX3_find.data.toList.drop 32).take 16 = [43, 28, 21, 6, 182, 0, 24, 21, 5, 2, 130, 126, 79, 132, 6, 1] := by decide +kernel
theorem dwc_70 : (cX3_find.data.toList.drop 48).take 16 = [167, 255, 227, 42, 3, 181, 0, 27, 42, 3, 181, 0, 31, 21, 4, 29] := by decide +kernel
theorem dwc_71 : (cX3_find.data.toList.drop 64).take 16 = [160, 0, 4, 177, 43, 180, 0, 34, 54, 6, 3, 54, 7, 21, 7, 21] := by decide +kernel
theorem dwc_72 : (cX3_find.data.toList.drop 80).take 16 = [6, 162, 0, 40, 42, 21, 7, 181, 0, 27, 42, 42, 21, 7, 21, 6] := by decide +kernel
theorem dwc_73 : (cX3_find.data.toList.drop 96).take 16 = [21, 4, 29, 182, 0, 37, 181, 0, 31, 42, 180, 0, 31, 16, 247, 159] := by decide +kernel
theorem dwc_74 : (cX3_find.data.toList.drop 112).take 16 = [0, 4, 177, 132, 7, 1, 167, 255, 215, 42, 21, 6, 181, 0, 27, 42] := by decide +kernel
theorem dwc_75 : (cX3_find.data.toList.drop 128).take 16 = [21, 4, 29, 184, 0, 41, 181, 0, 31, 177] := by decide +kernel
theorem dX3_find_0 : decode cX3_find 0 = .ok (.aload_n 1, 1) := dq_43 (dq_w dwc_67 0 rfl)
theorem dX3_find_1 : decode cX3_find 1 = .ok (.getfield 15, 3) := dq_180 (dq_w dwc_67 1 rfl) (dq_w dwc_67 2 rfl) (dq_w dwc_67 3 rfl) rfl
theorem dX3_find_4 : decode cX3_find 4 = .ok (.iload_n 2, 1) := dq_28 (dq_w dwc_67 4 rfl)
theorem dX3_find_5 : decode cX3_find 5 = .ok (.iaload, 1) := dq_46 (dq_w dwc_67 5 rfl)
theorem dX3_find_6 : decode cX3_find 6 = .ok (.istore 4, 2) := dq_54 (dq_w dwc_67 6 rfl) (dq_w dwc_67 7 rfl) rfl
theorem dX3_find_8 : decode cX3_find 8 = .ok (.aload_n 1, 1) := dq_43 (dq_w dwc_67 8 rfl)
theorem dX3_find_9 : decode cX3_find 9 = .ok (.iload_n 2, 1) := dq_28 (dq_w dwc_67 9 rfl)
theorem dX3_find_10 : decode cX3_find 10 = .ok (.iconst 0, 1) := dq_3 (dq_w dwc_67 10 rfl)
theorem dX3_find_11 : decode cX3_find 11 = .ok (.invokevirtual 20, 3) := dq_182 (dq_w dwc_67 11 rfl) (dq_w dwc_67 12 rfl) (dq_w dwc_67 13 rfl) rfl
theorem dX3_find_14 : decode cX3_find 14 = .ok (.istore 5, 2) := dq_54 (dq_w dwc_67 14 rfl) (dq_w dwc_67 15 rfl) rfl
theorem dX3_find_16 : decode cX3_find 16 = .ok (.iconst 0, 1) := dq_3 (dq_w dwc_68 0 rfl)
theorem dX3_find_17 : decode cX3_find 17 = .ok (.istore 6, 2) := dq_54 (dq_w dwc_68 1 rfl) (dq_w dwc_68 2 rfl) rfl
theorem dX3_find_19 : decode cX3_find 19 = .ok (.iload 6, 2) := dq_21 (dq_w dwc_68 3 rfl) (dq_w dwc_68 4 rfl) rfl
theorem dX3_find_21 : decode cX3_find 21 = .ok (.bipush 49, 2) := dq_16 (dq_w dwc_68 5 rfl) (dq_w dwc_68 6 rfl) rfl
theorem dX3_find_23 : decode cX3_find 23 = .ok (.if_icmp .ge 28, 3) := dq_162 (dq_w dwc_68 7 rfl) (dq_w dwc_68 8 rfl) (dq_w dwc_68 9 rfl) (dq_p (n := 28) rfl rfl)
theorem dX3_find_26 : decode cX3_find 26 = .ok (.aload_n 0, 1) := dq_42 (dq_w dwc_68 10 rfl)
theorem dX3_find_27 : decode cX3_find 27 = .ok (.getfield 11, 3) := dq_180 (dq_w dwc_68 11 rfl) (dq_w dwc_68 12 rfl) (dq_w dwc_68 13 rfl) rfl
theorem dX3_find_30 : decode cX3_find 30 = .ok (.iload 6, 2) := dq_21 (dq_w dwc_68 14 rfl) (dq_w dwc_68 15 rfl) rfl
theorem dX3_find_32 : decode cX3_find 32 = .ok (.aload_n 1, 1) := dq_43 (dq_w dwc_69 0 rfl)
theorem dX3_find_33 : decode cX3_find 33 = .ok (.iload_n 2, 1) := dq_28 (dq_w dwc_69 1 rfl)
theorem dX3_find_34 : decode cX3_find 34 = .ok (.iload 6, 2) := dq_21 (dq_w dwc_69 2 rfl) (dq_w dwc_69 3 rfl) rfl
theorem dX3_find_36 : decode cX3_find 36 = .ok (.invokevirtual 24, 3) := dq_182 (dq_w dwc_69 4 rfl) (dq_w dwc_69 5 rfl) (dq_w dwc_69 6 rfl) rfl
theorem dX3_find_39 : decode cX3_find 39 = .ok (.iload 5, 2) := dq_21 (dq_w dwc_69 7 rfl) (dq_w dwc_69 8 rfl) rfl
theorem dX3_find_41 : decode cX3_find 41 = .ok (.iconst (-1), 1) := dq_2 (dq_w dwc_69 9 rfl)
theorem dX3_find_42 : decode cX3_find 42 = .ok (.ixor, 1) := dq_130 (dq_w dwc_69 10 rfl)
theorem dX3_find_43 : decode cX3_find 43 = .ok (.iand, 1) := dq_126 (dq_w dwc_69 11 rfl)
theorem dX3_find_44 : decode cX3_find 44 = .ok (.iastore, 1) := dq_79 (dq_w dwc_69 12 rfl)
theorem dX3_find_45 : decode cX3_find 45 = .ok (.iinc 6 1, 3) := dq_132 (dq_w dwc_69 13 rfl) (dq_w dwc_69 14 rfl) rfl (dq_w dwc_69 15 rfl) rfl
theorem dX3_find_48 : decode cX3_find 48 = .ok (.goto (-29), 3) := dq_167 (dq_w dwc_70 0 rfl) (dq_w dwc_70 1 rfl) (dq_w dwc_70 2 rfl) (dq_n (m := 29) rfl rfl)
theorem dX3_find_51 : decode cX3_find 51 = .ok (.aload_n 0, 1) := dq_42 (dq_w dwc_70 3 rfl)
theorem dX3_find_52 : decode cX3_find 52 = .ok (.iconst 0, 1) := dq_3 (dq_w dwc_70 4 rfl)
theorem dX3_find_53 : decode cX3_find 53 = .ok (.putfield 27, 3) := dq_181 (dq_w dwc_70 5 rfl) (dq_w dwc_70 6 rfl) (dq_w dwc_70 7 rfl) rfl
theorem dX3_find_56 : decode cX3_find 56 = .ok (.aload_n 0, 1) := dq_42 (dq_w dwc_70 8 rfl)
theorem dX3_find_57 : decode cX3_find 57 = .ok (.iconst 0, 1) := dq_3 (dq_w dwc_70 9 rfl)
theorem dX3_find_58 : decode cX3_find 58 = .ok (.putfield 31, 3) := dq_181 (dq_w dwc_70 10 rfl) (dq_w dwc_70 11 rfl) (dq_w dwc_70 12 rfl) rfl
theorem dX3_find_61 : decode cX3_find 61 = .ok (.iload 4, 2) := dq_21 (dq_w dwc_70 13 rfl) (dq_w dwc_70 14 rfl) rfl
theorem dX3_find_63 : decode cX3_find 63 = .ok (.iload_n 3, 1) := dq_29 (dq_w dwc_70 15 rfl)
theorem dX3_find_64 : decode cX3_find 64 = .ok (.if_icmp .ne 4, 3) := dq_160 (dq_w dwc_71 0 rfl) (dq_w dwc_71 1 rfl) (dq_w dwc_71 2 rfl) (dq_p (n := 4) rfl rfl)
theorem dX3_find_67 : decode cX3_find 67 = .ok (.return_, 1) := dq_177 (dq_w dwc_71 3 rfl)
theorem dX3_find_68 : decode cX3_find 68 = .ok (.aload_n 1, 1) := dq_43 (dq_w dwc_71 4 rfl)
theorem dX3_find_69 : decode cX3_find 69 = .ok (.getfield 34, 3) := dq_180 (dq_w dwc_71 5 rfl) (dq_w dwc_71 6 rfl) (dq_w dwc_71 7 rfl) rfl
theorem dX3_find_72 : decode cX3_find 72 = .ok (.istore 6, 2) := dq_54 (dq_w dwc_71 8 rfl) (dq_w dwc_71 9 rfl) rfl
theorem dX3_find_74 : decode cX3_find 74 = .ok (.iconst 0, 1) := dq_3 (dq_w dwc_71 10 rfl)
theorem dX3_find_75 : decode cX3_find 75 = .ok (.istore 7, 2) := dq_54 (dq_w dwc_71 11 rfl) (dq_w dwc_71 12 rfl) rfl
theorem dX3_find_77 : decode cX3_find 77 = .ok (.iload 7, 2) := dq_21 (dq_w dwc_71 13 rfl) (dq_w dwc_71 14 rfl) rfl
theorem dX3_find_79 : decode cX3_find 79 = .ok (.iload 6, 2) := dq_21 (dq_w dwc_71 15 rfl) (dq_w dwc_72 0 rfl) rfl
theorem dX3_find_81 : decode cX3_find 81 = .ok (.if_icmp .ge 40, 3) := dq_162 (dq_w dwc_72 1 rfl) (dq_w dwc_72 2 rfl) (dq_w dwc_72 3 rfl) (dq_p (n := 40) rfl rfl)
theorem dX3_find_84 : decode cX3_find 84 = .ok (.aload_n 0, 1) := dq_42 (dq_w dwc_72 4 rfl)
theorem dX3_find_85 : decode cX3_find 85 = .ok (.iload 7, 2) := dq_21 (dq_w dwc_72 5 rfl) (dq_w dwc_72 6 rfl) rfl
theorem dX3_find_87 : decode cX3_find 87 = .ok (.putfield 27, 3) := dq_181 (dq_w dwc_72 7 rfl) (dq_w dwc_72 8 rfl) (dq_w dwc_72 9 rfl) rfl
theorem dX3_find_90 : decode cX3_find 90 = .ok (.aload_n 0, 1) := dq_42 (dq_w dwc_72 10 rfl)
theorem dX3_find_91 : decode cX3_find 91 = .ok (.aload_n 0, 1) := dq_42 (dq_w dwc_72 11 rfl)
theorem dX3_find_92 : decode cX3_find 92 = .ok (.iload 7, 2) := dq_21 (dq_w dwc_72 12 rfl) (dq_w dwc_72 13 rfl) rfl
theorem dX3_find_94 : decode cX3_find 94 = .ok (.iload 6, 2) := dq_21 (dq_w dwc_72 14 rfl) (dq_w dwc_72 15 rfl) rfl
theorem dX3_find_96 : decode cX3_find 96 = .ok (.iload 4, 2) := dq_21 (dq_w dwc_73 0 rfl) (dq_w dwc_73 1 rfl) rfl
theorem dX3_find_98 : decode cX3_find 98 = .ok (.iload_n 3, 1) := dq_29 (dq_w dwc_73 2 rfl)
theorem dX3_find_99 : decode cX3_find 99 = .ok (.invokevirtual 37, 3) := dq_182 (dq_w dwc_73 3 rfl) (dq_w dwc_73 4 rfl) (dq_w dwc_73 5 rfl) rfl
theorem dX3_find_102 : decode cX3_find 102 = .ok (.putfield 31, 3) := dq_181 (dq_w dwc_73 6 rfl) (dq_w dwc_73 7 rfl) (dq_w dwc_73 8 rfl) rfl
theorem dX3_find_105 : decode cX3_find 105 = .ok (.aload_n 0, 1) := dq_42 (dq_w dwc_73 9 rfl)
theorem dX3_find_106 : decode cX3_find 106 = .ok (.getfield 31, 3) := dq_180 (dq_w dwc_73 10 rfl) (dq_w dwc_73 11 rfl) (dq_w dwc_73 12 rfl) rfl
theorem dX3_find_109 : decode cX3_find 109 = .ok (.bipush (-9), 2) := dq_16 (dq_w dwc_73 13 rfl) (dq_w dwc_73 14 rfl) rfl
theorem dX3_find_111 : decode cX3_find 111 = .ok (.if_icmp .eq 4, 3) := dq_159 (dq_w dwc_73 15 rfl) (dq_w dwc_74 0 rfl) (dq_w dwc_74 1 rfl) (dq_p (n := 4) rfl rfl)
theorem dX3_find_114 : decode cX3_find 114 = .ok (.return_, 1) := dq_177 (dq_w dwc_74 2 rfl)
theorem dX3_find_115 : decode cX3_find 115 = .ok (.iinc 7 1, 3) := dq_132 (dq_w dwc_74 3 rfl) (dq_w dwc_74 4 rfl) rfl (dq_w dwc_74 5 rfl) rfl
theorem dX3_find_118 : decode cX3_find 118 = .ok (.goto (-41), 3) := dq_167 (dq_w dwc_74 6 rfl) (dq_w dwc_74 7 rfl) (dq_w dwc_74 8 rfl) (dq_n (m := 41) rfl rfl)
theorem dX3_find_121 : decode cX3_find 121 = .ok (.aload_n 0, 1) := dq_42 (dq_w dwc_74 9 rfl)
theorem dX3_find_122 : decode cX3_find 122 = .ok (.iload 6, 2) := dq_21 (dq_w dwc_74 10 rfl) (dq_w dwc_74 11 rfl) rfl
theorem dX3_find_124 : decode cX3_find 124 = .ok (.putfield 27, 3) := dq_181 (dq_w dwc_74 12 rfl) (dq_w dwc_74 13 rfl) (dq_w dwc_74 14 rfl) rfl
theorem dX3_find_127 : decode cX3_find 127 = .ok (.aload_n 0, 1) := dq_42 (dq_w dwc_74 15 rfl)
theorem dX3_find_128 : decode cX3_find 128 = .ok (.iload 4, 2) := dq_21 (dq_w dwc_75 0 rfl) (dq_w dwc_75 1 rfl) rfl
theorem dX3_find_130 : decode cX3_find 130 = .ok (.iload_n 3, 1) := dq_29 (dq_w dwc_75 2 rfl)
theorem dX3_find_131 : decode cX3_find 131 = .ok (.invokestatic 41, 3) := dq_184 (dq_w dwc_75 3 rfl) (dq_w dwc_75 4 rfl) (dq_w dwc_75 5 rfl) rfl
theorem dX3_find_134 : decode cX3_find 134 = .ok (.putfield 31, 3) := dq_181 (dq_w dwc_75 6 rfl) (dq_w dwc_75 7 rfl) (dq_w dwc_75 8 rfl) rfl
theorem dX3_find_137 : decode cX3_find 137 = .ok (.return_, 1) := dq_177 (dq_w dwc_75 9 rfl)
theorem dwc_76 : (cX3_shortestAt.data.toList.drop 0).take 16 = [16, 247, 54, 5, 3, 54, 6, 21, 6, 4, 28, 120, 162, 0, 75, 21] := by decide +kernel
theorem dwc_77 : (cX3_shortestAt.data.toList.drop 16).take 16 = [6, 184, 0, 44, 27, 160, 0, 60, 42, 180, 0, 11, 21, 4, 46, 21] := by decide +kernel
theorem dwc_78 : (cX3_shortestAt.data.toList.drop 32).take 16 = [6, 2, 130, 126, 153, 0, 6, 167, 0, 42, 42, 21, 6, 182, 0, 50] := by decide +kernel
theorem dwc_79 : (cX3_shortestAt.data.toList.drop 48).take 16 = [29, 21, 4, 184, 0, 54, 54, 7, 21, 7, 16, 247, 159, 0, 21, 21] := by decide +kernel
theorem dwc_80 : (cX3_shortestAt.data.toList.drop 64).take 16 = [5, 16, 247, 159, 0, 10, 21, 7, 21, 5, 162, 0, 7, 21, 7, 54] := by decide +kernel
theorem dwc_81 : (cX3_shortestAt.data.toList.drop 80).take 16 = [5, 132, 6, 1, 167, 255, 179, 21, 5, 172] := by decide +kernel
theorem dX3_shortestAt_0 : decode cX3_shortestAt 0 = .ok (.bipush (-9), 2) := dq_16 (dq_w dwc_76 0 rfl) (dq_w dwc_76 1 rfl) rfl
theorem dX3_shortestAt_2 : decode cX3_shortestAt 2 = .ok (.istore 5, 2) := dq_54 (dq_w dwc_76 2 rfl) (dq_w dwc_76 3 rfl) rfl
theorem dX3_shortestAt_4 : decode cX3_shortestAt 4 = .ok (.iconst 0, 1) := dq_3 (dq_w dwc_76 4 rfl)
theorem dX3_shortestAt_5 : decode cX3_shortestAt 5 = .ok (.istore 6, 2) := dq_54 (dq_w dwc_76 5 rfl) (dq_w dwc_76 6 rfl) rfl
theorem dX3_shortestAt_7 : decode cX3_shortestAt 7 = .ok (.iload 6, 2) := dq_21 (dq_w dwc_76 7 rfl) (dq_w dwc_76 8 rfl) rfl
theorem dX3_shortestAt_9 : decode cX3_shortestAt 9 = .ok (.iconst 1, 1) := dq_4 (dq_w dwc_76 9 rfl)
theorem dX3_shortestAt_10 : decode cX3_shortestAt 10 = .ok (.iload_n 2, 1) := dq_28 (dq_w dwc_76 10 rfl)
theorem dX3_shortestAt_11 : decode cX3_shortestAt 11 = .ok (.ishl, 1) := dq_120 (dq_w dwc_76 11 rfl)
theorem dX3_shortestAt_12 : decode cX3_shortestAt 12 = .ok (.if_icmp .ge 75, 3) := dq_162 (dq_w dwc_76 12 rfl) (dq_w dwc_76 13 rfl) (dq_w dwc_76 14 rfl) (dq_p (n := 75) rfl rfl)
theorem dX3_shortestAt_15 : decode cX3_shortestAt 15 = .ok (.iload 6, 2) := dq_21 (dq_w dwc_76 15 rfl) (dq_w dwc_77 0 rfl) rfl
theorem dX3_shortestAt_17 : decode cX3_shortestAt 17 = .ok (.invokestatic 44, 3) := dq_184 (dq_w dwc_77 1 rfl) (dq_w dwc_77 2 rfl) (dq_w dwc_77 3 rfl) rfl
theorem dX3_shortestAt_20 : decode cX3_shortestAt 20 = .ok (.iload_n 1, 1) := dq_27 (dq_w dwc_77 4 rfl)
theorem dX3_shortestAt_21 : decode cX3_shortestAt 21 = .ok (.if_icmp .ne 60, 3) := dq_160 (dq_w dwc_77 5 rfl) (dq_w dwc_77 6 rfl) (dq_w dwc_77 7 rfl) (dq_p (n := 60) rfl rfl)
theorem dX3_shortestAt_24 : decode cX3_shortestAt 24 = .ok (.aload_n 0, 1) := dq_42 (dq_w dwc_77 8 rfl)
theorem dX3_shortestAt_25 : decode cX3_shortestAt 25 = .ok (.getfield 11, 3) := dq_180 (dq_w dwc_77 9 rfl) (dq_w dwc_77 10 rfl) (dq_w dwc_77 11 rfl) rfl
theorem dX3_shortestAt_28 : decode cX3_shortestAt 28 = .ok (.iload 4, 2) := dq_21 (dq_w dwc_77 12 rfl) (dq_w dwc_77 13 rfl) rfl
theorem dX3_shortestAt_30 : decode cX3_shortestAt 30 = .ok (.iaload, 1) := dq_46 (dq_w dwc_77 14 rfl)
theorem dX3_shortestAt_31 : decode cX3_shortestAt 31 = .ok (.iload 6, 2) := dq_21 (dq_w dwc_77 15 rfl) (dq_w dwc_78 0 rfl) rfl
theorem dX3_shortestAt_33 : decode cX3_shortestAt 33 = .ok (.iconst (-1), 1) := dq_2 (dq_w dwc_78 1 rfl)
theorem dX3_shortestAt_34 : decode cX3_shortestAt 34 = .ok (.ixor, 1) := dq_130 (dq_w dwc_78 2 rfl)
theorem dX3_shortestAt_35 : decode cX3_shortestAt 35 = .ok (.iand, 1) := dq_126 (dq_w dwc_78 3 rfl)
theorem dX3_shortestAt_36 : decode cX3_shortestAt 36 = .ok (.ifCond .eq 6, 3) := dq_153 (dq_w dwc_78 4 rfl) (dq_w dwc_78 5 rfl) (dq_w dwc_78 6 rfl) (dq_p (n := 6) rfl rfl)
theorem dX3_shortestAt_39 : decode cX3_shortestAt 39 = .ok (.goto 42, 3) := dq_167 (dq_w dwc_78 7 rfl) (dq_w dwc_78 8 rfl) (dq_w dwc_78 9 rfl) (dq_p (n := 42) rfl rfl)
theorem dX3_shortestAt_42 : decode cX3_shortestAt 42 = .ok (.aload_n 0, 1) := dq_42 (dq_w dwc_78 10 rfl)
theorem dX3_shortestAt_43 : decode cX3_shortestAt 43 = .ok (.iload 6, 2) := dq_21 (dq_w dwc_78 11 rfl) (dq_w dwc_78 12 rfl) rfl
theorem dX3_shortestAt_45 : decode cX3_shortestAt 45 = .ok (.invokevirtual 50, 3) := dq_182 (dq_w dwc_78 13 rfl) (dq_w dwc_78 14 rfl) (dq_w dwc_78 15 rfl) rfl
theorem dX3_shortestAt_48 : decode cX3_shortestAt 48 = .ok (.iload_n 3, 1) := dq_29 (dq_w dwc_79 0 rfl)
theorem dX3_shortestAt_49 : decode cX3_shortestAt 49 = .ok (.iload 4, 2) := dq_21 (dq_w dwc_79 1 rfl) (dq_w dwc_79 2 rfl) rfl
theorem dX3_shortestAt_51 : decode cX3_shortestAt 51 = .ok (.invokestatic 54, 3) := dq_184 (dq_w dwc_79 3 rfl) (dq_w dwc_79 4 rfl) (dq_w dwc_79 5 rfl) rfl
theorem dX3_shortestAt_54 : decode cX3_shortestAt 54 = .ok (.istore 7, 2) := dq_54 (dq_w dwc_79 6 rfl) (dq_w dwc_79 7 rfl) rfl
theorem dX3_shortestAt_56 : decode cX3_shortestAt 56 = .ok (.iload 7, 2) := dq_21 (dq_w dwc_79 8 rfl) (dq_w dwc_79 9 rfl) rfl
theorem dX3_shortestAt_58 : decode cX3_shortestAt 58 = .ok (.bipush (-9), 2) := dq_16 (dq_w dwc_79 10 rfl) (dq_w dwc_79 11 rfl) rfl
theorem dX3_shortestAt_60 : decode cX3_shortestAt 60 = .ok (.if_icmp .eq 21, 3) := dq_159 (dq_w dwc_79 12 rfl) (dq_w dwc_79 13 rfl) (dq_w dwc_79 14 rfl) (dq_p (n := 21) rfl rfl)
theorem dX3_shortestAt_63 : decode cX3_shortestAt 63 = .ok (.iload 5, 2) := dq_21 (dq_w dwc_79 15 rfl) (dq_w dwc_80 0 rfl) rfl
theorem dX3_shortestAt_65 : decode cX3_shortestAt 65 = .ok (.bipush (-9), 2) := dq_16 (dq_w dwc_80 1 rfl) (dq_w dwc_80 2 rfl) rfl
theorem dX3_shortestAt_67 : decode cX3_shortestAt 67 = .ok (.if_icmp .eq 10, 3) := dq_159 (dq_w dwc_80 3 rfl) (dq_w dwc_80 4 rfl) (dq_w dwc_80 5 rfl) (dq_p (n := 10) rfl rfl)
theorem dX3_shortestAt_70 : decode cX3_shortestAt 70 = .ok (.iload 7, 2) := dq_21 (dq_w dwc_80 6 rfl) (dq_w dwc_80 7 rfl) rfl
theorem dX3_shortestAt_72 : decode cX3_shortestAt 72 = .ok (.iload 5, 2) := dq_21 (dq_w dwc_80 8 rfl) (dq_w dwc_80 9 rfl) rfl
theorem dX3_shortestAt_74 : decode cX3_shortestAt 74 = .ok (.if_icmp .ge 7, 3) := dq_162 (dq_w dwc_80 10 rfl) (dq_w dwc_80 11 rfl) (dq_w dwc_80 12 rfl) (dq_p (n := 7) rfl rfl)
theorem dX3_shortestAt_77 : decode cX3_shortestAt 77 = .ok (.iload 7, 2) := dq_21 (dq_w dwc_80 13 rfl) (dq_w dwc_80 14 rfl) rfl
theorem dX3_shortestAt_79 : decode cX3_shortestAt 79 = .ok (.istore 5, 2) := dq_54 (dq_w dwc_80 15 rfl) (dq_w dwc_81 0 rfl) rfl
theorem dX3_shortestAt_81 : decode cX3_shortestAt 81 = .ok (.iinc 6 1, 3) := dq_132 (dq_w dwc_81 1 rfl) (dq_w dwc_81 2 rfl) rfl (dq_w dwc_81 3 rfl) rfl
theorem dX3_shortestAt_84 : decode cX3_shortestAt 84 = .ok (.goto (-77), 3) := dq_167 (dq_w dwc_81 4 rfl) (dq_w dwc_81 5 rfl) (dq_w dwc_81 6 rfl) (dq_n (m := 77) rfl rfl)
theorem dX3_shortestAt_87 : decode cX3_shortestAt 87 = .ok (.iload 5, 2) := dq_21 (dq_w dwc_81 7 rfl) (dq_w dwc_81 8 rfl) rfl
theorem dX3_shortestAt_89 : decode cX3_shortestAt 89 = .ok (.ireturn, 1) := dq_172 (dq_w dwc_81 9 rfl)
theorem dwc_82 : (cX3_openCells.data.toList.drop 0).take 16 = [9, 65, 3, 54, 4, 21, 4, 16, 49, 162, 0, 30, 42, 180, 0, 11] := by decide +kernel
theorem dwc_83 : (cX3_openCells.data.toList.drop 16).take 16 = [21, 4, 46, 27, 2, 130, 126, 154, 0, 10, 32, 10, 21, 4, 121, 129] := by decide +kernel
theorem dwc_84 : (cX3_openCells.data.toList.drop 32).take 16 = [65, 132, 4, 1, 167, 255, 225, 32, 173] := by decide +kernel
theorem dX3_openCells_0 : decode cX3_openCells 0 = .ok (.lconst 0, 1) := dq_9 (dq_w dwc_82 0 rfl)
theorem dX3_openCells_1 : decode cX3_openCells 1 = .ok (.lstore_n 2, 1) := dq_65 (dq_w dwc_82 1 rfl)
theorem dX3_openCells_2 : decode cX3_openCells 2 = .ok (.iconst 0, 1) := dq_3 (dq_w dwc_82 2 rfl)
theorem dX3_openCells_3 : decode cX3_openCells 3 = .ok (.istore 4, 2) := dq_54 (dq_w dwc_82 3 rfl) (dq_w dwc_82 4 rfl) rfl
theorem dX3_openCells_5 : decode cX3_openCells 5 = .ok (.iload 4, 2) := dq_21 (dq_w dwc_82 5 rfl) (dq_w dwc_82 6 rfl) rfl
theorem dX3_openCells_7 : decode cX3_openCells 7 = .ok (.bipush 49, 2) := dq_16 (dq_w dwc_82 7 rfl) (dq_w dwc_82 8 rfl) rfl
theorem dX3_openCells_9 : decode cX3_openCells 9 = .ok (.if_icmp .ge 30, 3) := dq_162 (dq_w dwc_82 9 rfl) (dq_w dwc_82 10 rfl) (dq_w dwc_82 11 rfl) (dq_p (n := 30) rfl rfl)
theorem dX3_openCells_12 : decode cX3_openCells 12 = .ok (.aload_n 0, 1) := dq_42 (dq_w dwc_82 12 rfl)
theorem dX3_openCells_13 : decode cX3_openCells 13 = .ok (.getfield 11, 3) := dq_180 (dq_w dwc_82 13 rfl) (dq_w dwc_82 14 rfl) (dq_w dwc_82 15 rfl) rfl
theorem dX3_openCells_16 : decode cX3_openCells 16 = .ok (.iload 4, 2) := dq_21 (dq_w dwc_83 0 rfl) (dq_w dwc_83 1 rfl) rfl
theorem dX3_openCells_18 : decode cX3_openCells 18 = .ok (.iaload, 1) := dq_46 (dq_w dwc_83 2 rfl)
theorem dX3_openCells_19 : decode cX3_openCells 19 = .ok (.iload_n 1, 1) := dq_27 (dq_w dwc_83 3 rfl)
theorem dX3_openCells_20 : decode cX3_openCells 20 = .ok (.iconst (-1), 1) := dq_2 (dq_w dwc_83 4 rfl)
theorem dX3_openCells_21 : decode cX3_openCells 21 = .ok (.ixor, 1) := dq_130 (dq_w dwc_83 5 rfl)
theorem dX3_openCells_22 : decode cX3_openCells 22 = .ok (.iand, 1) := dq_126 (dq_w dwc_83 6 rfl)
theorem dX3_openCells_23 : decode cX3_openCells 23 = .ok (.ifCond .ne 10, 3) := dq_154 (dq_w dwc_83 7 rfl) (dq_w dwc_83 8 rfl) (dq_w dwc_83 9 rfl) (dq_p (n := 10) rfl rfl)
theorem dX3_openCells_26 : decode cX3_openCells 26 = .ok (.lload_n 2, 1) := dq_32 (dq_w dwc_83 10 rfl)
theorem dX3_openCells_27 : decode cX3_openCells 27 = .ok (.lconst 1, 1) := dq_10 (dq_w dwc_83 11 rfl)
theorem dX3_openCells_28 : decode cX3_openCells 28 = .ok (.iload 4, 2) := dq_21 (dq_w dwc_83 12 rfl) (dq_w dwc_83 13 rfl) rfl
theorem dX3_openCells_30 : decode cX3_openCells 30 = .ok (.lshl, 1) := dq_121 (dq_w dwc_83 14 rfl)
theorem dX3_openCells_31 : decode cX3_openCells 31 = .ok (.lor, 1) := dq_129 (dq_w dwc_83 15 rfl)
theorem dX3_openCells_32 : decode cX3_openCells 32 = .ok (.lstore_n 2, 1) := dq_65 (dq_w dwc_84 0 rfl)
theorem dX3_openCells_33 : decode cX3_openCells 33 = .ok (.iinc 4 1, 3) := dq_132 (dq_w dwc_84 1 rfl) (dq_w dwc_84 2 rfl) rfl (dq_w dwc_84 3 rfl) rfl
theorem dX3_openCells_36 : decode cX3_openCells 36 = .ok (.goto (-31), 3) := dq_167 (dq_w dwc_84 4 rfl) (dq_w dwc_84 5 rfl) (dq_w dwc_84 6 rfl) (dq_n (m := 31) rfl rfl)
theorem dX3_openCells_39 : decode cX3_openCells 39 = .ok (.lload_n 2, 1) := dq_32 (dq_w dwc_84 7 rfl)
theorem dX3_openCells_40 : decode cX3_openCells 40 = .ok (.lreturn, 1) := dq_173 (dq_w dwc_84 8 rfl)
theorem dwc_85 : (cX3_shortestOver.data.toList.drop 0).take 16 = [28, 29, 184, 0, 41, 16, 12, 96, 54, 4, 10, 28, 121, 55, 5, 4] := by decide +kernel
theorem dwc_86 : (cX3_shortestOver.data.toList.drop 16).take 16 = [54, 7, 21, 7, 21, 4, 163, 0, 63, 22, 5, 20, 0, 58, 127, 4] := by decide +kernel
theorem dwc_87 : (cX3_shortestOver.data.toList.drop 32).take 16 = [121, 22, 5, 20, 0, 60, 127, 4, 125, 129, 55, 8, 22, 5, 22, 5] := by decide +kernel
theorem dwc_88 : (cX3_shortestOver.data.toList.drop 48).take 16 = [16, 7, 121, 129, 22, 5, 16, 7, 125, 129, 22, 8, 129, 30, 127, 55] := by decide +kernel
theorem dwc_89 : (cX3_shortestOver.data.toList.drop 64).take 16 = [5, 22, 5, 29, 125, 10, 127, 9, 148, 153, 0, 6, 21, 7, 172, 132] := by decide +kernel
theorem dwc_90 : (cX3_shortestOver.data.toList.drop 80).take 16 = [7, 1, 167, 255, 192, 16, 247, 172] := by decide +kernel
theorem dX3_shortestOver_0 : decode cX3_shortestOver 0 = .ok (.iload_n 2, 1) := dq_28 (dq_w dwc_85 0 rfl)
theorem dX3_shortestOver_1 : decode cX3_shortestOver 1 = .ok (.iload_n 3, 1) := dq_29 (dq_w dwc_85 1 rfl)
theorem dX3_shortestOver_2 : decode cX3_shortestOver 2 = .ok (.invokestatic 41, 3) := dq_184 (dq_w dwc_85 2 rfl) (dq_w dwc_85 3 rfl) (dq_w dwc_85 4 rfl) rfl
theorem dX3_shortestOver_5 : decode cX3_shortestOver 5 = .ok (.bipush 12, 2) := dq_16 (dq_w dwc_85 5 rfl) (dq_w dwc_85 6 rfl) rfl
theorem dX3_shortestOver_7 : decode cX3_shortestOver 7 = .ok (.iadd, 1) := dq_96 (dq_w dwc_85 7 rfl)
theorem dX3_shortestOver_8 : decode cX3_shortestOver 8 = .ok (.istore 4, 2) := dq_54 (dq_w dwc_85 8 rfl) (dq_w dwc_85 9 rfl) rfl
theorem dX3_shortestOver_10 : decode cX3_shortestOver 10 = .ok (.lconst 1, 1) := dq_10 (dq_w dwc_85 10 rfl)
theorem dX3_shortestOver_11 : decode cX3_shortestOver 11 = .ok (.iload_n 2, 1) := dq_28 (dq_w dwc_85 11 rfl)
theorem dX3_shortestOver_12 : decode cX3_shortestOver 12 = .ok (.lshl, 1) := dq_121 (dq_w dwc_85 12 rfl)
theorem dX3_shortestOver_13 : decode cX3_shortestOver 13 = .ok (.lstore 5, 2) := dq_55 (dq_w dwc_85 13 rfl) (dq_w dwc_85 14 rfl) rfl
theorem dX3_shortestOver_15 : decode cX3_shortestOver 15 = .ok (.iconst 1, 1) := dq_4 (dq_w dwc_85 15 rfl)
theorem dX3_shortestOver_16 : decode cX3_shortestOver 16 = .ok (.istore 7, 2) := dq_54 (dq_w dwc_86 0 rfl) (dq_w dwc_86 1 rfl) rfl
theorem dX3_shortestOver_18 : decode cX3_shortestOver 18 = .ok (.iload 7, 2) := dq_21 (dq_w dwc_86 2 rfl) (dq_w dwc_86 3 rfl) rfl
theorem dX3_shortestOver_20 : decode cX3_shortestOver 20 = .ok (.iload 4, 2) := dq_21 (dq_w dwc_86 4 rfl) (dq_w dwc_86 5 rfl) rfl
theorem dX3_shortestOver_22 : decode cX3_shortestOver 22 = .ok (.if_icmp .gt 63, 3) := dq_163 (dq_w dwc_86 6 rfl) (dq_w dwc_86 7 rfl) (dq_w dwc_86 8 rfl) (dq_p (n := 63) rfl rfl)
theorem dX3_shortestOver_25 : decode cX3_shortestOver 25 = .ok (.lload 5, 2) := dq_22 (dq_w dwc_86 9 rfl) (dq_w dwc_86 10 rfl) rfl
theorem dX3_shortestOver_27 : decode cX3_shortestOver 27 = .ok (.ldc2_w 58, 3) := dq_20 (dq_w dwc_86 11 rfl) (dq_w dwc_86 12 rfl) (dq_w dwc_86 13 rfl) rfl
theorem dX3_shortestOver_30 : decode cX3_shortestOver 30 = .ok (.land, 1) := dq_127 (dq_w dwc_86 14 rfl)
theorem dX3_shortestOver_31 : decode cX3_shortestOver 31 = .ok (.iconst 1, 1) := dq_4 (dq_w dwc_86 15 rfl)
theorem dX3_shortestOver_32 : decode cX3_shortestOver 32 = .ok (.lshl, 1) := dq_121 (dq_w dwc_87 0 rfl)
theorem dX3_shortestOver_33 : decode cX3_shortestOver 33 = .ok (.lload 5, 2) := dq_22 (dq_w dwc_87 1 rfl) (dq_w dwc_87 2 rfl) rfl
theorem dX3_shortestOver_35 : decode cX3_shortestOver 35 = .ok (.ldc2_w 60, 3) := dq_20 (dq_w dwc_87 3 rfl) (dq_w dwc_87 4 rfl) (dq_w dwc_87 5 rfl) rfl
theorem dX3_shortestOver_38 : decode cX3_shortestOver 38 = .ok (.land, 1) := dq_127 (dq_w dwc_87 6 rfl)
theorem dX3_shortestOver_39 : decode cX3_shortestOver 39 = .ok (.iconst 1, 1) := dq_4 (dq_w dwc_87 7 rfl)
theorem dX3_shortestOver_40 : decode cX3_shortestOver 40 = .ok (.lushr, 1) := dq_125 (dq_w dwc_87 8 rfl)
theorem dX3_shortestOver_41 : decode cX3_shortestOver 41 = .ok (.lor, 1) := dq_129 (dq_w dwc_87 9 rfl)
theorem dX3_shortestOver_42 : decode cX3_shortestOver 42 = .ok (.lstore 8, 2) := dq_55 (dq_w dwc_87 10 rfl) (dq_w dwc_87 11 rfl) rfl
theorem dX3_shortestOver_44 : decode cX3_shortestOver 44 = .ok (.lload 5, 2) := dq_22 (dq_w dwc_87 12 rfl) (dq_w dwc_87 13 rfl) rfl
theorem dX3_shortestOver_46 : decode cX3_shortestOver 46 = .ok (.lload 5, 2) := dq_22 (dq_w dwc_87 14 rfl) (dq_w dwc_87 15 rfl) rfl
theorem dX3_shortestOver_48 : decode cX3_shortestOver 48 = .ok (.bipush 7, 2) := dq_16 (dq_w dwc_88 0 rfl) (dq_w dwc_88 1 rfl) rfl
theorem dX3_shortestOver_50 : decode cX3_shortestOver 50 = .ok (.lshl, 1) := dq_121 (dq_w dwc_88 2 rfl)
theorem dX3_shortestOver_51 : decode cX3_shortestOver 51 = .ok (.lor, 1) := dq_129 (dq_w dwc_88 3 rfl)
theorem dX3_shortestOver_52 : decode cX3_shortestOver 52 = .ok (.lload 5, 2) := dq_22 (dq_w dwc_88 4 rfl) (dq_w dwc_88 5 rfl) rfl
theorem dX3_shortestOver_54 : decode cX3_shortestOver 54 = .ok (.bipush 7, 2) := dq_16 (dq_w dwc_88 6 rfl) (dq_w dwc_88 7 rfl) rfl
theorem dX3_shortestOver_56 : decode cX3_shortestOver 56 = .ok (.lushr, 1) := dq_125 (dq_w dwc_88 8 rfl)
theorem dX3_shortestOver_57 : decode cX3_shortestOver 57 = .ok (.lor, 1) := dq_129 (dq_w dwc_88 9 rfl)
theorem dX3_shortestOver_58 : decode cX3_shortestOver 58 = .ok (.lload 8, 2) := dq_22 (dq_w dwc_88 10 rfl) (dq_w dwc_88 11 rfl) rfl
theorem dX3_shortestOver_60 : decode cX3_shortestOver 60 = .ok (.lor, 1) := dq_129 (dq_w dwc_88 12 rfl)
theorem dX3_shortestOver_61 : decode cX3_shortestOver 61 = .ok (.lload_n 0, 1) := dq_30 (dq_w dwc_88 13 rfl)
theorem dX3_shortestOver_62 : decode cX3_shortestOver 62 = .ok (.land, 1) := dq_127 (dq_w dwc_88 14 rfl)
theorem dX3_shortestOver_63 : decode cX3_shortestOver 63 = .ok (.lstore 5, 2) := dq_55 (dq_w dwc_88 15 rfl) (dq_w dwc_89 0 rfl) rfl
theorem dX3_shortestOver_65 : decode cX3_shortestOver 65 = .ok (.lload 5, 2) := dq_22 (dq_w dwc_89 1 rfl) (dq_w dwc_89 2 rfl) rfl
theorem dX3_shortestOver_67 : decode cX3_shortestOver 67 = .ok (.iload_n 3, 1) := dq_29 (dq_w dwc_89 3 rfl)
theorem dX3_shortestOver_68 : decode cX3_shortestOver 68 = .ok (.lushr, 1) := dq_125 (dq_w dwc_89 4 rfl)
theorem dX3_shortestOver_69 : decode cX3_shortestOver 69 = .ok (.lconst 1, 1) := dq_10 (dq_w dwc_89 5 rfl)
theorem dX3_shortestOver_70 : decode cX3_shortestOver 70 = .ok (.land, 1) := dq_127 (dq_w dwc_89 6 rfl)
theorem dX3_shortestOver_71 : decode cX3_shortestOver 71 = .ok (.lconst 0, 1) := dq_9 (dq_w dwc_89 7 rfl)
theorem dX3_shortestOver_72 : decode cX3_shortestOver 72 = .ok (.lcmp, 1) := dq_148 (dq_w dwc_89 8 rfl)
theorem dX3_shortestOver_73 : decode cX3_shortestOver 73 = .ok (.ifCond .eq 6, 3) := dq_153 (dq_w dwc_89 9 rfl) (dq_w dwc_89 10 rfl) (dq_w dwc_89 11 rfl) (dq_p (n := 6) rfl rfl)
theorem dX3_shortestOver_76 : decode cX3_shortestOver 76 = .ok (.iload 7, 2) := dq_21 (dq_w dwc_89 12 rfl) (dq_w dwc_89 13 rfl) rfl
theorem dX3_shortestOver_78 : decode cX3_shortestOver 78 = .ok (.ireturn, 1) := dq_172 (dq_w dwc_89 14 rfl)
theorem dX3_shortestOver_79 : decode cX3_shortestOver 79 = .ok (.iinc 7 1, 3) := dq_132 (dq_w dwc_89 15 rfl) (dq_w dwc_90 0 rfl) rfl (dq_w dwc_90 1 rfl) rfl
theorem dX3_shortestOver_82 : decode cX3_shortestOver 82 = .ok (.goto (-64), 3) := dq_167 (dq_w dwc_90 2 rfl) (dq_w dwc_90 3 rfl) (dq_w dwc_90 4 rfl) (dq_n (m := 64) rfl rfl)
theorem dX3_shortestOver_85 : decode cX3_shortestOver 85 = .ok (.bipush (-9), 2) := dq_16 (dq_w dwc_90 5 rfl) (dq_w dwc_90 6 rfl) rfl
theorem dX3_shortestOver_87 : decode cX3_shortestOver 87 = .ok (.ireturn, 1) := dq_172 (dq_w dwc_90 7 rfl)
theorem dwc_91 : (cX4_init.data.toList.drop 0).take 16 = [42, 183, 0, 3, 42, 16, 8, 188, 10, 181, 0, 9, 42, 16, 8, 188] := by decide +kernel
theorem dwc_92 : (cX4_init.data.toList.drop 16).take 16 = [10, 181, 0, 15, 42, 16, 8, 188, 10, 181, 0, 18, 42, 16, 6, 188] := by decide +kernel
theorem dwc_93 : (cX4_init.data.toList.drop 32).take 16 = [10, 181, 0, 21, 42, 16, 6, 188, 10, 181, 0, 24, 42, 16, 6, 188] := by decide +kernel
theorem dwc_94 : (cX4_init.data.toList.drop 48).take 16 = [10, 181, 0, 27, 42, 16, 48, 188, 10, 181, 0, 30, 42, 180, 0, 30] := by decide +kernel
theorem dwc_95 : (cX4_init.data.toList.drop 64).take 16 = [2, 184, 0, 33, 177] := by decide +kernel
theorem dX4_init_0 : decode cX4_init 0 = .ok (.aload_n 0, 1) := dq_42 (dq_w dwc_91 0 rfl)
theorem dX4_init_1 : decode cX4_init 1 = .ok (.invokespecial 3, 3) := dq_183 (dq_w dwc_91 1 rfl) (dq_w dwc_91 2 rfl) (dq_w dwc_91 3 rfl) rfl
theorem dX4_init_4 : decode cX4_init 4 = .ok (.aload_n 0, 1) := dq_42 (dq_w dwc_91 4 rfl)
theorem dX4_init_5 : decode cX4_init 5 = .ok (.bipush 8, 2) := dq_16 (dq_w dwc_91 5 rfl) (dq_w dwc_91 6 rfl) rfl
theorem dX4_init_7 : decode cX4_init 7 = .ok (.newarray .int, 2) := by decide +kernel
theorem dX4_init_9 : decode cX4_init 9 = .ok (.putfield 9, 3) := dq_181 (dq_w dwc_91 9 rfl) (dq_w dwc_91 10 rfl) (dq_w dwc_91 11 rfl) rfl
theorem dX4_init_12 : decode cX4_init 12 = .ok (.aload_n 0, 1) := dq_42 (dq_w dwc_91 12 rfl)
theorem dX4_init_13 : decode cX4_init 13 = .ok (.bipush 8, 2) := dq_16 (dq_w dwc_91 13 rfl) (dq_w dwc_91 14 rfl) rfl
theorem dX4_init_15 : decode cX4_init 15 = .ok (.newarray .int, 2) := by decide +kernel
theorem dX4_init_17 : decode cX4_init 17 = .ok (.putfield 15, 3) := dq_181 (dq_w dwc_92 1 rfl) (dq_w dwc_92 2 rfl) (dq_w dwc_92 3 rfl) rfl
theorem dX4_init_20 : decode cX4_init 20 = .ok (.aload_n 0, 1) := dq_42 (dq_w dwc_92 4 rfl)
theorem dX4_init_21 : decode cX4_init 21 = .ok (.bipush 8, 2) := dq_16 (dq_w dwc_92 5 rfl) (dq_w dwc_92 6 rfl) rfl
theorem dX4_init_23 : decode cX4_init 23 = .ok (.newarray .int, 2) := by decide +kernel
theorem dX4_init_25 : decode cX4_init 25 = .ok (.putfield 18, 3) := dq_181 (dq_w dwc_92 9 rfl) (dq_w dwc_92 10 rfl) (dq_w dwc_92 11 rfl) rfl
theorem dX4_init_28 : decode cX4_init 28 = .ok (.aload_n 0, 1) := dq_42 (dq_w dwc_92 12 rfl)
theorem dX4_init_29 : decode cX4_init 29 = .ok (.bipush 6, 2) := dq_16 (dq_w dwc_92 13 rfl) (dq_w dwc_92 14 rfl) rfl
theorem dX4_init_31 : decode cX4_init 31 = .ok (.newarray .int, 2) := by decide +kernel
theorem dX4_init_33 : decode cX4_init 33 = .ok (.putfield 21, 3) := dq_181 (dq_w dwc_93 1 rfl) (dq_w dwc_93 2 rfl) (dq_w dwc_93 3 rfl) rfl
theorem dX4_init_36 : decode cX4_init 36 = .ok (.aload_n 0, 1) := dq_42 (dq_w dwc_93 4 rfl)
theorem dX4_init_37 : decode cX4_init 37 = .ok (.bipush 6, 2) := dq_16 (dq_w dwc_93 5 rfl) (dq_w dwc_93 6 rfl) rfl
theorem dX4_init_39 : decode cX4_init 39 = .ok (.newarray .int, 2) := by decide +kernel
theorem dX4_init_41 : decode cX4_init 41 = .ok (.putfield 24, 3) := dq_181 (dq_w dwc_93 9 rfl) (dq_w dwc_93 10 rfl) (dq_w dwc_93 11 rfl) rfl
theorem dX4_init_44 : decode cX4_init 44 = .ok (.aload_n 0, 1) := dq_42 (dq_w dwc_93 12 rfl)
theorem dX4_init_45 : decode cX4_init 45 = .ok (.bipush 6, 2) := dq_16 (dq_w dwc_93 13 rfl) (dq_w dwc_93 14 rfl) rfl
theorem dX4_init_47 : decode cX4_init 47 = .ok (.newarray .int, 2) := by decide +kernel
theorem dX4_init_49 : decode cX4_init 49 = .ok (.putfield 27, 3) := dq_181 (dq_w dwc_94 1 rfl) (dq_w dwc_94 2 rfl) (dq_w dwc_94 3 rfl) rfl
theorem dX4_init_52 : decode cX4_init 52 = .ok (.aload_n 0, 1) := dq_42 (dq_w dwc_94 4 rfl)
theorem dX4_init_53 : decode cX4_init 53 = .ok (.bipush 48, 2) := dq_16 (dq_w dwc_94 5 rfl) (dq_w dwc_94 6 rfl) rfl
theorem dX4_init_55 : decode cX4_init 55 = .ok (.newarray .int, 2) := by decide +kernel
theorem dX4_init_57 : decode cX4_init 57 = .ok (.putfield 30, 3) := dq_181 (dq_w dwc_94 9 rfl) (dq_w dwc_94 10 rfl) (dq_w dwc_94 11 rfl) rfl
theorem dX4_init_60 : decode cX4_init 60 = .ok (.aload_n 0, 1) := dq_42 (dq_w dwc_94 12 rfl)
theorem dX4_init_61 : decode cX4_init 61 = .ok (.getfield 30, 3) := dq_180 (dq_w dwc_94 13 rfl) (dq_w dwc_94 14 rfl) (dq_w dwc_94 15 rfl) rfl
theorem dX4_init_64 : decode cX4_init 64 = .ok (.iconst (-1), 1) := dq_2 (dq_w dwc_95 0 rfl)
theorem dX4_init_65 : decode cX4_init 65 = .ok (.invokestatic 33, 3) := dq_184 (dq_w dwc_95 1 rfl) (dq_w dwc_95 2 rfl) (dq_w dwc_95 3 rfl) rfl
theorem dX4_init_68 : decode cX4_init 68 = .ok (.return_, 1) := dq_177 (dq_w dwc_95 4 rfl)
theorem dwc_96 : (cX4_become.data.toList.drop 0).take 16 = [42, 43, 180, 0, 39, 181, 0, 39, 43, 180, 0, 9, 3, 42, 180, 0] := by decide +kernel
theorem dwc_97 : (cX4_become.data.toList.drop 16).take 16 = [9, 3, 16, 8, 184, 0, 43, 43, 180, 0, 15, 3, 42, 180, 0, 15] := by decide +kernel
theorem dwc_98 : (cX4_become.data.toList.drop 32).take 16 = [3, 16, 8, 184, 0, 43, 43, 180, 0, 18, 3, 42, 180, 0, 18, 3] := by decide +kernel
theorem dwc_99 : (cX4_become.data.toList.drop 48).take 16 = [16, 8, 184, 0, 43, 42, 43, 180, 0, 49, 181, 0, 49, 42, 43, 180] := by decide +kernel
theorem dwc_100 : (cX4_become.data.toList.drop 64).take 16 = [0, 52, 181, 0, 52, 43, 180, 0, 21, 3, 42, 180, 0, 21, 3, 16] := by decide +kernel
theorem dwc_101 : (cX4_become.data.toList.drop 80).take 16 = [6, 184, 0, 43, 43, 180, 0, 24, 3, 42, 180, 0, 24, 3, 16, 6] := by decide +kernel
theorem dwc_102 : (cX4_become.data.toList.drop 96).take 16 = [184, 0, 43, 43, 180, 0, 27, 3, 42, 180, 0, 27, 3, 16, 6, 184] := by decide +kernel
theorem dwc_103 : (cX4_become.data.toList.drop 112).take 16 = [0, 43, 43, 180, 0, 30, 3, 42, 180, 0, 30, 3, 16, 48, 184, 0] := by decide +kernel
theorem dwc_104 : (cX4_become.data.toList.drop 128).take 16 = [43, 42, 43, 180, 0, 55, 181, 0, 55, 177] := by decide +kernel
theorem dX4_become_0 : decode cX4_become 0 = .ok (.aload_n 0, 1) := dq_42 (dq_w dwc_96 0 rfl)
theorem dX4_become_1 : decode cX4_become 1 = .ok (.aload_n 1, 1) := dq_43 (dq_w dwc_96 1 rfl)
theorem dX4_become_2 : decode cX4_become 2 = .ok (.getfield 39, 3) := dq_180 (dq_w dwc_96 2 rfl) (dq_w dwc_96 3 rfl) (dq_w dwc_96 4 rfl) rfl
theorem dX4_become_5 : decode cX4_become 5 = .ok (.putfield 39, 3) := dq_181 (dq_w dwc_96 5 rfl) (dq_w dwc_96 6 rfl) (dq_w dwc_96 7 rfl) rfl
theorem dX4_become_8 : decode cX4_become 8 = .ok (.aload_n 1, 1) := dq_43 (dq_w dwc_96 8 rfl)
theorem dX4_become_9 : decode cX4_become 9 = .ok (.getfield 9, 3) := dq_180 (dq_w dwc_96 9 rfl) (dq_w dwc_96 10 rfl) (dq_w dwc_96 11 rfl) rfl
theorem dX4_become_12 : decode cX4_become 12 = .ok (.iconst 0, 1) := dq_3 (dq_w dwc_96 12 rfl)
theorem dX4_become_13 : decode cX4_become 13 = .ok (.aload_n 0, 1) := dq_42 (dq_w dwc_96 13 rfl)
theorem dX4_become_14 : decode cX4_become 14 = .ok (.getfield 9, 3) := dq_180 (dq_w dwc_96 14 rfl) (dq_w dwc_96 15 rfl) (dq_w dwc_97 0 rfl) rfl
theorem dX4_become_17 : decode cX4_become 17 = .ok (.iconst 0, 1) := dq_3 (dq_w dwc_97 1 rfl)
theorem dX4_become_18 : decode cX4_become 18 = .ok (.bipush 8, 2) := dq_16 (dq_w dwc_97 2 rfl) (dq_w dwc_97 3 rfl) rfl
theorem dX4_become_20 : decode cX4_become 20 = .ok (.invokestatic 43, 3) := dq_184 (dq_w dwc_97 4 rfl) (dq_w dwc_97 5 rfl) (dq_w dwc_97 6 rfl) rfl
theorem dX4_become_23 : decode cX4_become 23 = .ok (.aload_n 1, 1) := dq_43 (dq_w dwc_97 7 rfl)
theorem dX4_become_24 : decode cX4_become 24 = .ok (.getfield 15, 3) := dq_180 (dq_w dwc_97 8 rfl) (dq_w dwc_97 9 rfl) (dq_w dwc_97 10 rfl) rfl
theorem dX4_become_27 : decode cX4_become 27 = .ok (.iconst 0, 1) := dq_3 (dq_w dwc_97 11 rfl)
theorem dX4_become_28 : decode cX4_become 28 = .ok (.aload_n 0, 1) := dq_42 (dq_w dwc_97 12 rfl)
theorem dX4_become_29 : decode cX4_become 29 = .ok (.getfield 15, 3) := dq_180 (dq_w dwc_97 13 rfl) (dq_w dwc_97 14 rfl) (dq_w dwc_97 15 rfl) rfl
theorem dX4_become_32 : decode cX4_become 32 = .ok (.iconst 0, 1) := dq_3 (dq_w dwc_98 0 rfl)
theorem dX4_become_33 : decode cX4_become 33 = .ok (.bipush 8, 2) := dq_16 (dq_w dwc_98 1 rfl) (dq_w dwc_98 2 rfl) rfl
theorem dX4_become_35 : decode cX4_become 35 = .ok (.invokestatic 43, 3) := dq_184 (dq_w dwc_98 3 rfl) (dq_w dwc_98 4 rfl) (dq_w dwc_98 5 rfl) rfl
theorem dX4_become_38 : decode cX4_become 38 = .ok (.aload_n 1, 1) := dq_43 (dq_w dwc_98 6 rfl)
theorem dX4_become_39 : decode cX4_become 39 = .ok (.getfield 18, 3) := dq_180 (dq_w dwc_98 7 rfl) (dq_w dwc_98 8 rfl) (dq_w dwc_98 9 rfl) rfl
theorem dX4_become_42 : decode cX4_become 42 = .ok (.iconst 0, 1) := dq_3 (dq_w dwc_98 10 rfl)
theorem dX4_become_43 : decode cX4_become 43 = .ok (.aload_n 0, 1) := dq_42 (dq_w dwc_98 11 rfl)
theorem dX4_become_44 : decode cX4_become 44 = .ok (.getfield 18, 3) := dq_180 (dq_w dwc_98 12 rfl) (dq_w dwc_98 13 rfl) (dq_w dwc_98 14 rfl) rfl
theorem dX4_become_47 : decode cX4_become 47 = .ok (.iconst 0, 1) := dq_3 (dq_w dwc_98 15 rfl)
theorem dX4_become_48 : decode cX4_become 48 = .ok (.bipush 8, 2) := dq_16 (dq_w dwc_99 0 rfl) (dq_w dwc_99 1 rfl) rfl
theorem dX4_become_50 : decode cX4_become 50 = .ok (.invokestatic 43, 3) := dq_184 (dq_w dwc_99 2 rfl) (dq_w dwc_99 3 rfl) (dq_w dwc_99 4 rfl) rfl
theorem dX4_become_53 : decode cX4_become 53 = .ok (.aload_n 0, 1) := dq_42 (dq_w dwc_99 5 rfl)
theorem dX4_become_54 : decode cX4_become 54 = .ok (.aload_n 1, 1) := dq_43 (dq_w dwc_99 6 rfl)
theorem dX4_become_55 : decode cX4_become 55 = .ok (.getfield 49, 3) := dq_180 (dq_w dwc_99 7 rfl) (dq_w dwc_99 8 rfl) (dq_w dwc_99 9 rfl) rfl
theorem dX4_become_58 : decode cX4_become 58 = .ok (.putfield 49, 3) := dq_181 (dq_w dwc_99 10 rfl) (dq_w dwc_99 11 rfl) (dq_w dwc_99 12 rfl) rfl
theorem dX4_become_61 : decode cX4_become 61 = .ok (.aload_n 0, 1) := dq_42 (dq_w dwc_99 13 rfl)
theorem dX4_become_62 : decode cX4_become 62 = .ok (.aload_n 1, 1) := dq_43 (dq_w dwc_99 14 rfl)
theorem dX4_become_63 : decode cX4_become 63 = .ok (.getfield 52, 3) := dq_180 (dq_w dwc_99 15 rfl) (dq_w dwc_100 0 rfl) (dq_w dwc_100 1 rfl) rfl
theorem dX4_become_66 : decode cX4_become 66 = .ok (.putfield 52, 3) := dq_181 (dq_w dwc_100 2 rfl) (dq_w dwc_100 3 rfl) (dq_w dwc_100 4 rfl) rfl
theorem dX4_become_69 : decode cX4_become 69 = .ok (.aload_n 1, 1) := dq_43 (dq_w dwc_100 5 rfl)
theorem dX4_become_70 : decode cX4_become 70 = .ok (.getfield 21, 3) := dq_180 (dq_w dwc_100 6 rfl) (dq_w dwc_100 7 rfl) (dq_w dwc_100 8 rfl) rfl
theorem dX4_become_73 : decode cX4_become 73 = .ok (.iconst 0, 1) := dq_3 (dq_w dwc_100 9 rfl)
theorem dX4_become_74 : decode cX4_become 74 = .ok (.aload_n 0, 1) := dq_42 (dq_w dwc_100 10 rfl)
theorem dX4_become_75 : decode cX4_become 75 = .ok (.getfield 21, 3) := dq_180 (dq_w dwc_100 11 rfl) (dq_w dwc_100 12 rfl) (dq_w dwc_100 13 rfl) rfl
theorem dX4_become_78 : decode cX4_become 78 = .ok (.iconst 0, 1) := dq_3 (dq_w dwc_100 14 rfl)
theorem dX4_become_79 : decode cX4_become 79 = .ok (.bipush 6, 2) := dq_16 (dq_w dwc_100 15 rfl) (dq_w dwc_101 0 rfl) rfl
theorem dX4_become_81 : decode cX4_become 81 = .ok (.invokestatic 43, 3) := dq_184 (dq_w dwc_101 1 rfl) (dq_w dwc_101 2 rfl) (dq_w dwc_101 3 rfl) rfl
theorem dX4_become_84 : decode cX4_become 84 = .ok (.aload_n 1, 1) := dq_43 (dq_w dwc_101 4 rfl)
theorem dX4_become_85 : decode cX4_become 85 = .ok (.getfield 24, 3) := dq_180 (dq_w dwc_101 5 rfl) (dq_w dwc_101 6 rfl) (dq_w dwc_101 7 rfl) rfl
theorem dX4_become_88 : decode cX4_become 88 = .ok (.iconst 0, 1) := dq_3 (dq_w dwc_101 8 rfl)
theorem dX4_become_89 : decode cX4_become 89 = .ok (.aload_n 0, 1) := dq_42 (dq_w dwc_101 9 rfl)
theorem dX4_become_90 : decode cX4_become 90 = .ok (.getfield 24, 3) := dq_180 (dq_w dwc_101 10 rfl) (dq_w dwc_101 11 rfl) (dq_w dwc_101 12 rfl) rfl
theorem dX4_become_93 : decode cX4_become 93 = .ok (.iconst 0, 1) := dq_3 (dq_w dwc_101 13 rfl)
theorem dX4_become_94 : decode cX4_become 94 = .ok (.bipush 6, 2) := dq_16 (dq_w dwc_101 14 rfl) (dq_w dwc_101 15 rfl) rfl
theorem dX4_become_96 : decode cX4_become 96 = .ok (.invokestatic 43, 3) := dq_184 (dq_w dwc_102 0 rfl) (dq_w dwc_102 1 rfl) (dq_w dwc_102 2 rfl) rfl
theorem dX4_become_99 : decode cX4_become 99 = .ok (.aload_n 1, 1) := dq_43 (dq_w dwc_102 3 rfl)
theorem dX4_become_100 : decode cX4_become 100 = .ok (.getfield 27, 3) := dq_180 (dq_w dwc_102 4 rfl) (dq_w dwc_102 5 rfl) (dq_w dwc_102 6 rfl) rfl
theorem dX4_become_103 : decode cX4_become 103 = .ok (.iconst 0, 1) := dq_3 (dq_w dwc_102 7 rfl)
theorem dX4_become_104 : decode cX4_become 104 = .ok (.aload_n 0, 1) := dq_42 (dq_w dwc_102 8 rfl)
theorem dX4_become_105 : decode cX4_become 105 = .ok (.getfield 27, 3) := dq_180 (dq_w dwc_102 9 rfl) (dq_w dwc_102 10 rfl) (dq_w dwc_102 11 rfl) rfl
theorem dX4_become_108 : decode cX4_become 108 = .ok (.iconst 0, 1) := dq_3 (dq_w dwc_102 12 rfl)
theorem dX4_become_109 : decode cX4_become 109 = .ok (.bipush 6, 2) := dq_16 (dq_w dwc_102 13 rfl) (dq_w dwc_102 14 rfl) rfl
theorem dX4_become_111 : decode cX4_become 111 = .ok (.invokestatic 43, 3) := dq_184 (dq_w dwc_102 15 rfl) (dq_w dwc_103 0 rfl) (dq_w dwc_103 1 rfl) rfl
theorem dX4_become_114 : decode cX4_become 114 = .ok (.aload_n 1, 1) := dq_43 (dq_w dwc_103 2 rfl)
theorem dX4_become_115 : decode cX4_become 115 = .ok (.getfield 30, 3) := dq_180 (dq_w dwc_103 3 rfl) (dq_w dwc_103 4 rfl) (dq_w dwc_103 5 rfl) rfl
theorem dX4_become_118 : decode cX4_become 118 = .ok (.iconst 0, 1) := dq_3 (dq_w dwc_103 6 rfl)
theorem dX4_become_119 : decode cX4_become 119 = .ok (.aload_n 0, 1) := dq_42 (dq_w dwc_103 7 rfl)
theorem dX4_become_120 : decode cX4_become 120 = .ok (.getfield 30, 3) := dq_180 (dq_w dwc_103 8 rfl) (dq_w dwc_103 9 rfl) (dq_w dwc_103 10 rfl) rfl
theorem dX4_become_123 : decode cX4_become 123 = .ok (.iconst 0, 1) := dq_3 (dq_w dwc_103 11 rfl)
theorem dX4_become_124 : decode cX4_become 124 = .ok (.bipush 48, 2) := dq_16 (dq_w dwc_103 12 rfl) (dq_w dwc_103 13 rfl) rfl
theorem dX4_become_126 : decode cX4_become 126 = .ok (.invokestatic 43, 3) := dq_184 (dq_w dwc_103 14 rfl) (dq_w dwc_103 15 rfl) (dq_w dwc_104 0 rfl) rfl
theorem dX4_become_129 : decode cX4_become 129 = .ok (.aload_n 0, 1) := dq_42 (dq_w dwc_104 1 rfl)
theorem dX4_become_130 : decode cX4_become 130 = .ok (.aload_n 1, 1) := dq_43 (dq_w dwc_104 2 rfl)
theorem dX4_become_131 : decode cX4_become 131 = .ok (.getfield 55, 3) := dq_180 (dq_w dwc_104 3 rfl) (dq_w dwc_104 4 rfl) (dq_w dwc_104 5 rfl) rfl
theorem dX4_become_134 : decode cX4_become 134 = .ok (.putfield 55, 3) := dq_181 (dq_w dwc_104 6 rfl) (dq_w dwc_104 7 rfl) (dq_w dwc_104 8 rfl) rfl
theorem dX4_become_137 : decode cX4_become 137 = .ok (.return_, 1) := dq_177 (dq_w dwc_104 9 rfl)
theorem dwc_105 : (cX4_hasHouse.data.toList.drop 0).take 16 = [27, 155, 0, 15, 27, 42, 180, 0, 39, 162, 0, 7, 4, 167, 0, 4] := by decide +kernel
theorem dwc_106 : (cX4_hasHouse.data.toList.drop 16).take 16 = [3, 172] := by decide +kernel
theorem dX4_hasHouse_0 : decode cX4_hasHouse 0 = .ok (.iload_n 1, 1) := dq_27 (dq_w dwc_105 0 rfl)
theorem dX4_hasHouse_1 : decode cX4_hasHouse 1 = .ok (.ifCond .lt 15, 3) := dq_155 (dq_w dwc_105 1 rfl) (dq_w dwc_105 2 rfl) (dq_w dwc_105 3 rfl) (dq_p (n := 15) rfl rfl)
theorem dX4_hasHouse_4 : decode cX4_hasHouse 4 = .ok (.iload_n 1, 1) := dq_27 (dq_w dwc_105 4 rfl)
theorem dX4_hasHouse_5 : decode cX4_hasHouse 5 = .ok (.aload_n 0, 1) := dq_42 (dq_w dwc_105 5 rfl)
theorem dX4_hasHouse_6 : decode cX4_hasHouse 6 = .ok (.getfield 39, 3) := dq_180 (dq_w dwc_105 6 rfl) (dq_w dwc_105 7 rfl) (dq_w dwc_105 8 rfl) rfl
theorem dX4_hasHouse_9 : decode cX4_hasHouse 9 = .ok (.if_icmp .ge 7, 3) := dq_162 (dq_w dwc_105 9 rfl) (dq_w dwc_105 10 rfl) (dq_w dwc_105 11 rfl) (dq_p (n := 7) rfl rfl)
theorem dX4_hasHouse_12 : decode cX4_hasHouse 12 = .ok (.iconst 1, 1) := dq_4 (dq_w dwc_105 12 rfl)
theorem dX4_hasHouse_13 : decode cX4_hasHouse 13 = .ok (.goto 4, 3) := dq_167 (dq_w dwc_105 13 rfl) (dq_w dwc_105 14 rfl) (dq_w dwc_105 15 rfl) (dq_p (n := 4) rfl rfl)
theorem dX4_hasHouse_16 : decode cX4_hasHouse 16 = .ok (.iconst 0, 1) := dq_3 (dq_w dwc_106 0 rfl)
theorem dX4_hasHouse_17 : decode cX4_hasHouse 17 = .ok (.ireturn, 1) := dq_172 (dq_w dwc_106 1 rfl)
theorem dwc_107 : (cX4_hasWalker.data.toList.drop 0).take 16 = [27, 155, 0, 15, 27, 42, 180, 0, 52, 162, 0, 7, 4, 167, 0, 4] := by decide +kernel
theorem dwc_108 : (cX4_hasWalker.data.toList.drop 16).take 16 = [3, 172] := by decide +kernel
theorem dX4_hasWalker_0 : decode cX4_hasWalker 0 = .ok (.iload_n 1, 1) := dq_27 (dq_w dwc_107 0 rfl)
theorem dX4_hasWalker_1 : decode cX4_hasWalker 1 = .ok (.ifCond .lt 15, 3) := dq_155 (dq_w dwc_107 1 rfl) (dq_w dwc_107 2 rfl) (dq_w dwc_107 3 rfl) (dq_p (n := 15) rfl rfl)
theorem dX4_hasWalker_4 : decode cX4_hasWalker 4 = .ok (.iload_n 1, 1) := dq_27 (dq_w dwc_107 4 rfl)
theorem dX4_hasWalker_5 : decode cX4_hasWalker 5 = .ok (.aload_n 0, 1) := dq_42 (dq_w dwc_107 5 rfl)
theorem dX4_hasWalker_6 : decode cX4_hasWalker 6 = .ok (.getfield 52, 3) := dq_180 (dq_w dwc_107 6 rfl) (dq_w dwc_107 7 rfl) (dq_w dwc_107 8 rfl) rfl
theorem dX4_hasWalker_9 : decode cX4_hasWalker 9 = .ok (.if_icmp .ge 7, 3) := dq_162 (dq_w dwc_107 9 rfl) (dq_w dwc_107 10 rfl) (dq_w dwc_107 11 rfl) (dq_p (n := 7) rfl rfl)
theorem dX4_hasWalker_12 : decode cX4_hasWalker 12 = .ok (.iconst 1, 1) := dq_4 (dq_w dwc_107 12 rfl)
theorem dX4_hasWalker_13 : decode cX4_hasWalker 13 = .ok (.goto 4, 3) := dq_167 (dq_w dwc_107 13 rfl) (dq_w dwc_107 14 rfl) (dq_w dwc_107 15 rfl) (dq_p (n := 4) rfl rfl)
theorem dX4_hasWalker_16 : decode cX4_hasWalker 16 = .ok (.iconst 0, 1) := dq_3 (dq_w dwc_108 0 rfl)
theorem dX4_hasWalker_17 : decode cX4_hasWalker 17 = .ok (.ireturn, 1) := dq_172 (dq_w dwc_108 1 rfl)
theorem dwc_109 : (cX4_isLit.data.toList.drop 0).take 16 = [42, 180, 0, 49, 27, 122, 4, 126, 153, 0, 7, 4, 167, 0, 4, 3] := by decide +kernel
theorem dwc_110 : (cX4_isLit.data.toList.drop 16).take 16 = [172] := by decide +kernel
theorem dX4_isLit_0 : decode cX4_isLit 0 = .ok (.aload_n 0, 1) := dq_42 (dq_w dwc_109 0 rfl)
theorem dX4_isLit_1 : decode cX4_isLit 1 = .ok (.getfield 49, 3) := dq_180 (dq_w dwc_109 1 rfl) (dq_w dwc_109 2 rfl) (dq_w dwc_109 3 rfl) rfl
theorem dX4_isLit_4 : decode cX4_isLit 4 = .ok (.iload_n 1, 1) := dq_27 (dq_w dwc_109 4 rfl)
theorem dX4_isLit_5 : decode cX4_isLit 5 = .ok (.ishr, 1) := dq_122 (dq_w dwc_109 5 rfl)
theorem dX4_isLit_6 : decode cX4_isLit 6 = .ok (.iconst 1, 1) := dq_4 (dq_w dwc_109 6 rfl)
theorem dX4_isLit_7 : decode cX4_isLit 7 = .ok (.iand, 1) := dq_126 (dq_w dwc_109 7 rfl)
theorem dX4_isLit_8 : decode cX4_isLit 8 = .ok (.ifCond .eq 7, 3) := dq_153 (dq_w dwc_109 8 rfl) (dq_w dwc_109 9 rfl) (dq_w dwc_109 10 rfl) (dq_p (n := 7) rfl rfl)
theorem dX4_isLit_11 : decode cX4_isLit 11 = .ok (.iconst 1, 1) := dq_4 (dq_w dwc_109 11 rfl)
theorem dX4_isLit_12 : decode cX4_isLit 12 = .ok (.goto 4, 3) := dq_167 (dq_w dwc_109 12 rfl) (dq_w dwc_109 13 rfl) (dq_w dwc_109 14 rfl) (dq_p (n := 4) rfl rfl)
theorem dX4_isLit_15 : decode cX4_isLit 15 = .ok (.iconst 0, 1) := dq_3 (dq_w dwc_109 15 rfl)
theorem dX4_isLit_16 : decode cX4_isLit 16 = .ok (.ireturn, 1) := dq_172 (dq_w dwc_110 0 rfl)
theorem dwc_111 : (cX4_addHouse.data.toList.drop 0).take 16 = [27, 155, 0, 19, 27, 16, 6, 162, 0, 13, 28, 155, 0, 9, 28, 16] := by decide +kernel
theorem dwc_112 : (cX4_addHouse.data.toList.drop 16).take 16 = [10, 161, 0, 5, 3, 172, 29, 184, 0, 58, 153, 0, 12, 42, 180, 0] := by decide +kernel
theorem dwc_113 : (cX4_addHouse.data.toList.drop 32).take 16 = [39, 16, 7, 161, 0, 5, 3, 172, 42, 180, 0, 9, 42, 180, 0, 39] := by decide +kernel
theorem dwc_114 : (cX4_addHouse.data.toList.drop 48).take 16 = [27, 79, 42, 180, 0, 15, 42, 180, 0, 39, 28, 79, 42, 180, 0, 18] := by decide +kernel
theorem dwc_115 : (cX4_addHouse.data.toList.drop 64).take 16 = [42, 180, 0, 39, 29, 79, 42, 89, 180, 0, 49, 4, 42, 180, 0, 39] := by decide +kernel
theorem dwc_116 : (cX4_addHouse.data.toList.drop 80).take 16 = [120, 128, 181, 0, 49, 42, 89, 180, 0, 39, 4, 96, 181, 0, 39, 4] := by decide +kernel
theorem dwc_117 : (cX4_addHouse.data.toList.drop 96).take 16 = [172] := by decide +kernel
theorem dX4_addHouse_0 : decode cX4_addHouse 0 = .ok (.iload_n 1, 1) := dq_27 (dq_w dwc_111 0 rfl)
theorem dX4_addHouse_1 : decode cX4_addHouse 1 = .ok (.ifCond .lt 19, 3) := dq_155 (dq_w dwc_111 1 rfl) (dq_w dwc_111 2 rfl) (dq_w dwc_111 3 rfl) (dq_p (n := 19) rfl rfl)
theorem dX4_addHouse_4 : decode cX4_addHouse 4 = .ok (.iload_n 1, 1) := dq_27 (dq_w dwc_111 4 rfl)
theorem dX4_addHouse_5 : decode cX4_addHouse 5 = .ok (.bipush 6, 2) := dq_16 (dq_w dwc_111 5 rfl) (dq_w dwc_111 6 rfl) rfl
theorem dX4_addHouse_7 : decode cX4_addHouse 7 = .ok (.if_icmp .ge 13, 3) := dq_162 (dq_w dwc_111 7 rfl) (dq_w dwc_111 8 rfl) (dq_w dwc_111 9 rfl) (dq_p (n := 13) rfl rfl)
theorem dX4_addHouse_10 : decode cX4_addHouse 10 = .ok (.iload_n 2, 1) := dq_28 (dq_w dwc_111 10 rfl)
theorem dX4_addHouse_11 : decode cX4_addHouse 11 = .ok (.ifCond .lt 9, 3) := dq_155 (dq_w dwc_111 11 rfl) (dq_w dwc_111 12 rfl) (dq_w dwc_111 13 rfl) (dq_p (n := 9) rfl rfl)
theorem dX4_addHouse_14 : decode cX4_addHouse 14 = .ok (.iload_n 2, 1) := dq_28 (dq_w dwc_111 14 rfl)
theorem dX4_addHouse_15 : decode cX4_addHouse 15 = .ok (.bipush 10, 2) := dq_16 (dq_w dwc_111 15 rfl) (dq_w dwc_112 0 rfl) rfl
theorem dX4_addHouse_17 : decode cX4_addHouse 17 = .ok (.if_icmp .lt 5, 3) := dq_161 (dq_w dwc_112 1 rfl) (dq_w dwc_112 2 rfl) (dq_w dwc_112 3 rfl) (dq_p (n := 5) rfl rfl)
theorem dX4_addHouse_20 : decode cX4_addHouse 20 = .ok (.iconst 0, 1) := dq_3 (dq_w dwc_112 4 rfl)
theorem dX4_addHouse_21 : decode cX4_addHouse 21 = .ok (.ireturn, 1) := dq_172 (dq_w dwc_112 5 rfl)
theorem dX4_addHouse_22 : decode cX4_addHouse 22 = .ok (.iload_n 3, 1) := dq_29 (dq_w dwc_112 6 rfl)
theorem dX4_addHouse_23 : decode cX4_addHouse 23 = .ok (.invokestatic 58, 3) := dq_184 (dq_w dwc_112 7 rfl) (dq_w dwc_112 8 rfl) (dq_w dwc_112 9 rfl) rfl
theorem dX4_addHouse_26 : decode cX4_addHouse 26 = .ok (.ifCond .eq 12, 3) := dq_153 (dq_w dwc_112 10 rfl) (dq_w dwc_112 11 rfl) (dq_w dwc_112 12 rfl) (dq_p (n := 12) rfl rfl)
theorem dX4_addHouse_29 : decode cX4_addHouse 29 = .ok (.aload_n 0, 1) := dq_42 (dq_w dwc_112 13 rfl)
theorem dX4_addHouse_30 : decode cX4_addHouse 30 = .ok (.getfield 39, 3) := dq_180 (dq_w dwc_112 14 rfl) (dq_w dwc_112 15 rfl) (dq_w dwc_113 0 rfl) rfl
theorem dX4_addHouse_33 : decode cX4_addHouse 33 = .ok (.bipush 7, 2) := dq_16 (dq_w dwc_113 1 rfl) (dq_w dwc_113 2 rfl) rfl
theorem dX4_addHouse_35 : decode cX4_addHouse 35 = .ok (.if_icmp .lt 5, 3) := dq_161 (dq_w dwc_113 3 rfl) (dq_w dwc_113 4 rfl) (dq_w dwc_113 5 rfl) (dq_p (n := 5) rfl rfl)
theorem dX4_addHouse_38 : decode cX4_addHouse 38 = .ok (.iconst 0, 1) := dq_3 (dq_w dwc_113 6 rfl)
theorem dX4_addHouse_39 : decode cX4_addHouse 39 = .ok (.ireturn, 1) := dq_172 (dq_w dwc_113 7 rfl)
theorem dX4_addHouse_40 : decode cX4_addHouse 40 = .ok (.aload_n 0, 1) := dq_42 (dq_w dwc_113 8 rfl)
theorem dX4_addHouse_41 : decode cX4_addHouse 41 = .ok (.getfield 9, 3) := dq_180 (dq_w dwc_113 9 rfl) (dq_w dwc_113 10 rfl) (dq_w dwc_113 11 rfl) rfl
theorem dX4_addHouse_44 : decode cX4_addHouse 44 = .ok (.aload_n 0, 1) := dq_42 (dq_w dwc_113 12 rfl)
theorem dX4_addHouse_45 : decode cX4_addHouse 45 = .ok (.getfield 39, 3) := dq_180 (dq_w dwc_113 13 rfl) (dq_w dwc_113 14 rfl) (dq_w dwc_113 15 rfl) rfl
theorem dX4_addHouse_48 : decode cX4_addHouse 48 = .ok (.iload_n 1, 1) := dq_27 (dq_w dwc_114 0 rfl)
theorem dX4_addHouse_49 : decode cX4_addHouse 49 = .ok (.iastore, 1) := dq_79 (dq_w dwc_114 1 rfl)
theorem dX4_addHouse_50 : decode cX4_addHouse 50 = .ok (.aload_n 0, 1) := dq_42 (dq_w dwc_114 2 rfl)
theorem dX4_addHouse_51 : decode cX4_addHouse 51 = .ok (.getfield 15, 3) := dq_180 (dq_w dwc_114 3 rfl) (dq_w dwc_114 4 rfl) (dq_w dwc_114 5 rfl) rfl
theorem dX4_addHouse_54 : decode cX4_addHouse 54 = .ok (.aload_n 0, 1) := dq_42 (dq_w dwc_114 6 rfl)
theorem dX4_addHouse_55 : decode cX4_addHouse 55 = .ok (.getfield 39, 3) := dq_180 (dq_w dwc_114 7 rfl) (dq_w dwc_114 8 rfl) (dq_w dwc_114 9 rfl) rfl
theorem dX4_addHouse_58 : decode cX4_addHouse 58 = .ok (.iload_n 2, 1) := dq_28 (dq_w dwc_114 10 rfl)
theorem dX4_addHouse_59 : decode cX4_addHouse 59 = .ok (.iastore, 1) := dq_79 (dq_w dwc_114 11 rfl)
theorem dX4_addHouse_60 : decode cX4_addHouse 60 = .ok (.aload_n 0, 1) := dq_42 (dq_w dwc_114 12 rfl)
theorem dX4_addHouse_61 : decode cX4_addHouse 61 = .ok (.getfield 18, 3) := dq_180 (dq_w dwc_114 13 rfl) (dq_w dwc_114 14 rfl) (dq_w dwc_114 15 rfl) rfl
theorem dX4_addHouse_64 : decode cX4_addHouse 64 = .ok (.aload_n 0, 1) := dq_42 (dq_w dwc_115 0 rfl)
theorem dX4_addHouse_65 : decode cX4_addHouse 65 = .ok (.getfield 39, 3) := dq_180 (dq_w dwc_115 1 rfl) (dq_w dwc_115 2 rfl) (dq_w dwc_115 3 rfl) rfl
theorem dX4_addHouse_68 : decode cX4_addHouse 68 = .ok (.iload_n 3, 1) := dq_29 (dq_w dwc_115 4 rfl)
theorem dX4_addHouse_69 : decode cX4_addHouse 69 = .ok (.iastore, 1) := dq_79 (dq_w dwc_115 5 rfl)
theorem dX4_addHouse_70 : decode cX4_addHouse 70 = .ok (.aload_n 0, 1) := dq_42 (dq_w dwc_115 6 rfl)
theorem dX4_addHouse_71 : decode cX4_addHouse 71 = .ok (.dup, 1) := dq_89 (dq_w dwc_115 7 rfl)
theorem dX4_addHouse_72 : decode cX4_addHouse 72 = .ok (.getfield 49, 3) := dq_180 (dq_w dwc_115 8 rfl) (dq_w dwc_115 9 rfl) (dq_w dwc_115 10 rfl) rfl
theorem dX4_addHouse_75 : decode cX4_addHouse 75 = .ok (.iconst 1, 1) := dq_4 (dq_w dwc_115 11 rfl)
theorem dX4_addHouse_76 : decode cX4_addHouse 76 = .ok (.aload_n 0, 1) := dq_42 (dq_w dwc_115 12 rfl)
theorem dX4_addHouse_77 : decode cX4_addHouse 77 = .ok (.getfield 39, 3) := dq_180 (dq_w dwc_115 13 rfl) (dq_w dwc_115 14 rfl) (dq_w dwc_115 15 rfl) rfl
theorem dX4_addHouse_80 : decode cX4_addHouse 80 = .ok (.ishl, 1) := dq_120 (dq_w dwc_116 0 rfl)
theorem dX4_addHouse_81 : decode cX4_addHouse 81 = .ok (.ior, 1) := dq_128 (dq_w dwc_116 1 rfl)
theorem dX4_addHouse_82 : decode cX4_addHouse 82 = .ok (.putfield 49, 3) := dq_181 (dq_w dwc_116 2 rfl) (dq_w dwc_116 3 rfl) (dq_w dwc_116 4 rfl) rfl
theorem dX4_addHouse_85 : decode cX4_addHouse 85 = .ok (.aload_n 0, 1) := dq_42 (dq_w dwc_116 5 rfl)
theorem dX4_addHouse_86 : decode cX4_addHouse 86 = .ok (.dup, 1) := dq_89 (dq_w dwc_116 6 rfl)
theorem dX4_addHouse_87 : decode cX4_addHouse 87 = .ok (.getfield 39, 3) := dq_180 (dq_w dwc_116 7 rfl) (dq_w dwc_116 8 rfl) (dq_w dwc_116 9 rfl) rfl
theorem dX4_addHouse_90 : decode cX4_addHouse 90 = .ok (.iconst 1, 1) := dq_4 (dq_w dwc_116 10 rfl)
theorem dX4_addHouse_91 : decode cX4_addHouse 91 = .ok (.iadd, 1) := dq_96 (dq_w dwc_116 11 rfl)
theorem dX4_addHouse_92 : decode cX4_addHouse 92 = .ok (.putfield 39, 3) := dq_181 (dq_w dwc_116 12 rfl) (dq_w dwc_116 13 rfl) (dq_w dwc_116 14 rfl) rfl
theorem dX4_addHouse_95 : decode cX4_addHouse 95 = .ok (.iconst 1, 1) := dq_4 (dq_w dwc_116 15 rfl)
theorem dX4_addHouse_96 : decode cX4_addHouse 96 = .ok (.ireturn, 1) := dq_172 (dq_w dwc_117 0 rfl)
theorem dwc_118 : (cX4_setCandle.data.toList.drop 0).take 16 = [42, 180, 0, 9, 42, 180, 0, 39, 3, 79, 42, 180, 0, 15, 42, 180] := by decide +kernel
theorem dwc_119 : (cX4_setCandle.data.toList.drop 16).take 16 = [0, 39, 3, 79, 42, 89, 180, 0, 49, 4, 42, 180, 0, 39, 120, 128] := by decide +kernel
theorem dwc_120 : (cX4_setCandle.data.toList.drop 32).take 16 = [181, 0, 49, 42, 180, 0, 39, 172] := by decide +kernel
theorem dX4_setCandle_0 : decode cX4_setCandle 0 = .ok (.aload_n 0, 1) := dq_42 (dq_w dwc_118 0 rfl)
theorem dX4_setCandle_1 : decode cX4_setCandle 1 = .ok (.getfield 9, 3) := dq_180 (dq_w dwc_118 1 rfl) (dq_w dwc_118 2 rfl) (dq_w dwc_118 3 rfl) rfl
theorem dX4_setCandle_4 : decode cX4_setCandle 4 = .ok (.aload_n 0, 1) := dq_42 (dq_w dwc_118 4 rfl)
theorem dX4_setCandle_5 : decode cX4_setCandle 5 = .ok (.getfield 39, 3) := dq_180 (dq_w dwc_118 5 rfl) (dq_w dwc_118 6 rfl) (dq_w dwc_118 7 rfl) rfl
theorem dX4_setCandle_8 : decode cX4_setCandle 8 = .ok (.iconst 0, 1) := dq_3 (dq_w dwc_118 8 rfl)
theorem dX4_setCandle_9 : decode cX4_setCandle 9 = .ok (.iastore, 1) := dq_79 (dq_w dwc_118 9 rfl)
theorem dX4_setCandle_10 : decode cX4_setCandle 10 = .ok (.aload_n 0, 1) := dq_42 (dq_w dwc_118 10 rfl)
theorem dX4_setCandle_11 : decode cX4_setCandle 11 = .ok (.getfield 15, 3) := dq_180 (dq_w dwc_118 11 rfl) (dq_w dwc_118 12 rfl) (dq_w dwc_118 13 rfl) rfl
theorem dX4_setCandle_14 : decode cX4_setCandle 14 = .ok (.aload_n 0, 1) := dq_42 (dq_w dwc_118 14 rfl)
theorem dX4_setCandle_15 : decode cX4_setCandle 15 = .ok (.getfield 39, 3) := dq_180 (dq_w dwc_118 15 rfl) (dq_w dwc_119 0 rfl) (dq_w dwc_119 1 rfl) rfl
theorem dX4_setCandle_18 : decode cX4_setCandle 18 = .ok (.iconst 0, 1) := dq_3 (dq_w dwc_119 2 rfl)
theorem dX4_setCandle_19 : decode cX4_setCandle 19 = .ok (.iastore, 1) := dq_79 (dq_w dwc_119 3 rfl)
theorem dX4_setCandle_20 : decode cX4_setCandle 20 = .ok (.aload_n 0, 1) := dq_42 (dq_w dwc_119 4 rfl)
theorem dX4_setCandle_21 : decode cX4_setCandle 21 = .ok (.dup, 1) := dq_89 (dq_w dwc_119 5 rfl)
theorem dX4_setCandle_22 : decode cX4_setCandle 22 = .ok (.getfield 49, 3) := dq_180 (dq_w dwc_119 6 rfl) (dq_w dwc_119 7 rfl) (dq_w dwc_119 8 rfl) rfl
theorem dX4_setCandle_25 : decode cX4_setCandle 25 = .ok (.iconst 1, 1) := dq_4 (dq_w dwc_119 9 rfl)
theorem dX4_setCandle_26 : decode cX4_setCandle 26 = .ok (.aload_n 0, 1) := dq_42 (dq_w dwc_119 10 rfl)
theorem dX4_setCandle_27 : decode cX4_setCandle 27 = .ok (.getfield 39, 3) := dq_180 (dq_w dwc_119 11 rfl) (dq_w dwc_119 12 rfl) (dq_w dwc_119 13 rfl) rfl
theorem dX4_setCandle_30 : decode cX4_setCandle 30 = .ok (.ishl, 1) := dq_120 (dq_w dwc_119 14 rfl)
theorem dX4_setCandle_31 : decode cX4_setCandle 31 = .ok (.ior, 1) := dq_128 (dq_w dwc_119 15 rfl)
theorem dX4_setCandle_32 : decode cX4_setCandle 32 = .ok (.putfield 49, 3) := dq_181 (dq_w dwc_120 0 rfl) (dq_w dwc_120 1 rfl) (dq_w dwc_120 2 rfl) rfl
theorem dX4_setCandle_35 : decode cX4_setCandle 35 = .ok (.aload_n 0, 1) := dq_42 (dq_w dwc_120 3 rfl)
theorem dX4_setCandle_36 : decode cX4_setCandle 36 = .ok (.getfield 39, 3) := dq_180 (dq_w dwc_120 4 rfl) (dq_w dwc_120 5 rfl) (dq_w dwc_120 6 rfl) rfl
theorem dX4_setCandle_39 : decode cX4_setCandle 39 = .ok (.ireturn, 1) := dq_172 (dq_w dwc_120 7 rfl)
theorem dwc_121 : (cX4_addWalker.data.toList.drop 0).take 16 = [27, 184, 0, 58, 153, 0, 10, 28, 184, 0, 58, 154, 0, 5, 3, 172] := by decide +kernel
theorem dwc_122 : (cX4_addWalker.data.toList.drop 16).take 16 = [29, 155, 0, 17, 29, 5, 163, 0, 12, 42, 180, 0, 52, 16, 6, 161] := by decide +kernel
theorem dwc_123 : (cX4_addWalker.data.toList.drop 32).take 16 = [0, 5, 3, 172, 42, 180, 0, 21, 42, 180, 0, 52, 27, 79, 42, 180] := by decide +kernel
theorem dwc_124 : (cX4_addWalker.data.toList.drop 48).take 16 = [0, 24, 42, 180, 0, 52, 28, 79, 42, 180, 0, 27, 42, 180, 0, 52] := by decide +kernel
theorem dwc_125 : (cX4_addWalker.data.toList.drop 64).take 16 = [29, 79, 42, 89, 180, 0, 52, 4, 96, 181, 0, 52, 4, 172] := by decide +kernel
theorem dX4_addWalker_0 : decode cX4_addWalker 0 = .ok (.iload_n 1, 1) := dq_27 (dq_w dwc_121 0 rfl)
theorem dX4_addWalker_1 : decode cX4_addWalker 1 = .ok (.invokestatic 58, 3) := dq_184 (dq_w dwc_121 1 rfl) (dq_w dwc_121 2 rfl) (dq_w dwc_121 3 rfl) rfl
theorem dX4_addWalker_4 : decode cX4_addWalker 4 = .ok (.ifCond .eq 10, 3) := dq_153 (dq_w dwc_121 4 rfl) (dq_w dwc_121 5 rfl) (dq_w dwc_121 6 rfl) (dq_p (n := 10) rfl rfl)
theorem dX4_addWalker_7 : decode cX4_addWalker 7 = .ok (.iload_n 2, 1) := dq_28 (dq_w dwc_121 7 rfl)
theorem dX4_addWalker_8 : decode cX4_addWalker 8 = .ok (.invokestatic 58, 3) := dq_184 (dq_w dwc_121 8 rfl) (dq_w dwc_121 9 rfl) (dq_w dwc_121 10 rfl) rfl
theorem dX4_addWalker_11 : decode cX4_addWalker 11 = .ok (.ifCond .ne 5, 3) := dq_154 (dq_w dwc_121 11 rfl) (dq_w dwc_121 12 rfl) (dq_w dwc_121 13 rfl) (dq_p (n := 5) rfl rfl)
theorem dX4_addWalker_14 : decode cX4_addWalker 14 = .ok (.iconst 0, 1) := dq_3 (dq_w dwc_121 14 rfl)
theorem dX4_addWalker_15 : decode cX4_addWalker 15 = .ok (.ireturn, 1) := dq_172 (dq_w dwc_121 15 rfl)
theorem dX4_addWalker_16 : decode cX4_addWalker 16 = .ok (.iload_n 3, 1) := dq_29 (dq_w dwc_122 0 rfl)
theorem dX4_addWalker_17 : decode cX4_addWalker 17 = .ok (.ifCond .lt 17, 3) := dq_155 (dq_w dwc_122 1 rfl) (dq_w dwc_122 2 rfl) (dq_w dwc_122 3 rfl) (dq_p (n := 17) rfl rfl)
theorem dX4_addWalker_20 : decode cX4_addWalker 20 = .ok (.iload_n 3, 1) := dq_29 (dq_w dwc_122 4 rfl)
theorem dX4_addWalker_21 : decode cX4_addWalker 21 = .ok (.iconst 2, 1) := dq_5 (dq_w dwc_122 5 rfl)
theorem dX4_addWalker_22 : decode cX4_addWalker 22 = .ok (.if_icmp .gt 12, 3) := dq_163 (dq_w dwc_122 6 rfl) (dq_w dwc_122 7 rfl) (dq_w dwc_122 8 rfl) (dq_p (n := 12) rfl rfl)
theorem dX4_addWalker_25 : decode cX4_addWalker 25 = .ok (.aload_n 0, 1) := dq_42 (dq_w dwc_122 9 rfl)
theorem dX4_addWalker_26 : decode cX4_addWalker 26 = .ok (.getfield 52, 3) := dq_180 (dq_w dwc_122 10 rfl) (dq_w dwc_122 11 rfl) (dq_w dwc_122 12 rfl) rfl
theorem dX4_addWalker_29 : decode cX4_addWalker 29 = .ok (.bipush 6, 2) := dq_16 (dq_w dwc_122 13 rfl) (dq_w dwc_122 14 rfl) rfl
theorem dX4_addWalker_31 : decode cX4_addWalker 31 = .ok (.if_icmp .lt 5, 3) := dq_161 (dq_w dwc_122 15 rfl) (dq_w dwc_123 0 rfl) (dq_w dwc_123 1 rfl) (dq_p (n := 5) rfl rfl)
theorem dX4_addWalker_34 : decode cX4_addWalker 34 = .ok (.iconst 0, 1) := dq_3 (dq_w dwc_123 2 rfl)
theorem dX4_addWalker_35 : decode cX4_addWalker 35 = .ok (.ireturn, 1) := dq_172 (dq_w dwc_123 3 rfl)
theorem dX4_addWalker_36 : decode cX4_addWalker 36 = .ok (.aload_n 0, 1) := dq_42 (dq_w dwc_123 4 rfl)
theorem dX4_addWalker_37 : decode cX4_addWalker 37 = .ok (.getfield 21, 3) := dq_180 (dq_w dwc_123 5 rfl) (dq_w dwc_123 6 rfl) (dq_w dwc_123 7 rfl) rfl
theorem dX4_addWalker_40 : decode cX4_addWalker 40 = .ok (.aload_n 0, 1) := dq_42 (dq_w dwc_123 8 rfl)
theorem dX4_addWalker_41 : decode cX4_addWalker 41 = .ok (.getfield 52, 3) := dq_180 (dq_w dwc_123 9 rfl) (dq_w dwc_123 10 rfl) (dq_w dwc_123 11 rfl) rfl
theorem dX4_addWalker_44 : decode cX4_addWalker 44 = .ok (.iload_n 1, 1) := dq_27 (dq_w dwc_123 12 rfl)
theorem dX4_addWalker_45 : decode cX4_addWalker 45 = .ok (.iastore, 1) := dq_79 (dq_w dwc_123 13 rfl)
theorem dX4_addWalker_46 : decode cX4_addWalker 46 = .ok (.aload_n 0, 1) := dq_42 (dq_w dwc_123 14 rfl)
theorem dX4_addWalker_47 : decode cX4_addWalker 47 = .ok (.getfield 24, 3) := dq_180 (dq_w dwc_123 15 rfl) (dq_w dwc_124 0 rfl) (dq_w dwc_124 1 rfl) rfl
theorem dX4_addWalker_50 : decode cX4_addWalker 50 = .ok (.aload_n 0, 1) := dq_42 (dq_w dwc_124 2 rfl)
theorem dX4_addWalker_51 : decode cX4_addWalker 51 = .ok (.getfield 52, 3) := dq_180 (dq_w dwc_124 3 rfl) (dq_w dwc_124 4 rfl) (dq_w dwc_124 5 rfl) rfl
theorem dX4_addWalker_54 : decode cX4_addWalker 54 = .ok (.iload_n 2, 1) := dq_28 (dq_w dwc_124 6 rfl)
theorem dX4_addWalker_55 : decode cX4_addWalker 55 = .ok (.iastore, 1) := dq_79 (dq_w dwc_124 7 rfl)
theorem dX4_addWalker_56 : decode cX4_addWalker 56 = .ok (.aload_n 0, 1) := dq_42 (dq_w dwc_124 8 rfl)
theorem dX4_addWalker_57 : decode cX4_addWalker 57 = .ok (.getfield 27, 3) := dq_180 (dq_w dwc_124 9 rfl) (dq_w dwc_124 10 rfl) (dq_w dwc_124 11 rfl) rfl
theorem dX4_addWalker_60 : decode cX4_addWalker 60 = .ok (.aload_n 0, 1) := dq_42 (dq_w dwc_124 12 rfl)
theorem dX4_addWalker_61 : decode cX4_addWalker 61 = .ok (.getfield 52, 3) := dq_180 (dq_w dwc_124 13 rfl) (dq_w dwc_124 14 rfl) (dq_w dwc_124 15 rfl) rfl
theorem dX4_addWalker_64 : decode cX4_addWalker 64 = .ok (.iload_n 3, 1) := dq_29 (dq_w dwc_125 0 rfl)
theorem dX4_addWalker_65 : decode cX4_addWalker 65 = .ok (.iastore, 1) := dq_79 (dq_w dwc_125 1 rfl)
theorem dX4_addWalker_66 : decode cX4_addWalker 66 = .ok (.aload_n 0, 1) := dq_42 (dq_w dwc_125 2 rfl)
theorem dX4_addWalker_67 : decode cX4_addWalker 67 = .ok (.dup, 1) := dq_89 (dq_w dwc_125 3 rfl)
theorem dX4_addWalker_68 : decode cX4_addWalker 68 = .ok (.getfield 52, 3) := dq_180 (dq_w dwc_125 4 rfl) (dq_w dwc_125 5 rfl) (dq_w dwc_125 6 rfl) rfl
theorem dX4_addWalker_71 : decode cX4_addWalker 71 = .ok (.iconst 1, 1) := dq_4 (dq_w dwc_125 7 rfl)
theorem dX4_addWalker_72 : decode cX4_addWalker 72 = .ok (.iadd, 1) := dq_96 (dq_w dwc_125 8 rfl)
theorem dX4_addWalker_73 : decode cX4_addWalker 73 = .ok (.putfield 52, 3) := dq_181 (dq_w dwc_125 9 rfl) (dq_w dwc_125 10 rfl) (dq_w dwc_125 11 rfl) rfl
theorem dX4_addWalker_76 : decode cX4_addWalker 76 = .ok (.iconst 1, 1) := dq_4 (dq_w dwc_125 12 rfl)
theorem dX4_addWalker_77 : decode cX4_addWalker 77 = .ok (.ireturn, 1) := dq_172 (dq_w dwc_125 13 rfl)
theorem dwc_126 : (cX4_turn.data.toList.drop 0).take 16 = [42, 27, 182, 0, 62, 154, 0, 5, 3, 172, 42, 89, 180, 0, 49, 4] := by decide +kernel
theorem dwc_127 : (cX4_turn.data.toList.drop 16).take 16 = [27, 120, 130, 181, 0, 49, 4, 172] := by decide +kernel
theorem dX4_turn_0 : decode cX4_turn 0 = .ok (.aload_n 0, 1) := dq_42 (dq_w dwc_126 0 rfl)
theorem dX4_turn_1 : decode cX4_turn 1 = .ok (.iload_n 1, 1) := dq_27 (dq_w dwc_126 1 rfl)
theorem dX4_turn_2 : decode cX4_turn 2 = .ok (.invokevirtual 62, 3) := dq_182 (dq_w dwc_126 2 rfl) (dq_w dwc_126 3 rfl) (dq_w dwc_126 4 rfl) rfl
theorem dX4_turn_5 : decode cX4_turn 5 = .ok (.ifCond .ne 5, 3) := dq_154 (dq_w dwc_126 5 rfl) (dq_w dwc_126 6 rfl) (dq_w dwc_126 7 rfl) (dq_p (n := 5) rfl rfl)
theorem dX4_turn_8 : decode cX4_turn 8 = .ok (.iconst 0, 1) := dq_3 (dq_w dwc_126 8 rfl)
theorem dX4_turn_9 : decode cX4_turn 9 = .ok (.ireturn, 1) := dq_172 (dq_w dwc_126 9 rfl)
theorem dX4_turn_10 : decode cX4_turn 10 = .ok (.aload_n 0, 1) := dq_42 (dq_w dwc_126 10 rfl)
theorem dX4_turn_11 : decode cX4_turn 11 = .ok (.dup, 1) := dq_89 (dq_w dwc_126 11 rfl)
theorem dX4_turn_12 : decode cX4_turn 12 = .ok (.getfield 49, 3) := dq_180 (dq_w dwc_126 12 rfl) (dq_w dwc_126 13 rfl) (dq_w dwc_126 14 rfl) rfl
theorem dX4_turn_15 : decode cX4_turn 15 = .ok (.iconst 1, 1) := dq_4 (dq_w dwc_126 15 rfl)
theorem dX4_turn_16 : decode cX4_turn 16 = .ok (.iload_n 1, 1) := dq_27 (dq_w dwc_127 0 rfl)
theorem dX4_turn_17 : decode cX4_turn 17 = .ok (.ishl, 1) := dq_120 (dq_w dwc_127 1 rfl)
theorem dX4_turn_18 : decode cX4_turn 18 = .ok (.ixor, 1) := dq_130 (dq_w dwc_127 2 rfl)
theorem dX4_turn_19 : decode cX4_turn 19 = .ok (.putfield 49, 3) := dq_181 (dq_w dwc_127 3 rfl) (dq_w dwc_127 4 rfl) (dq_w dwc_127 5 rfl) rfl
theorem dX4_turn_22 : decode cX4_turn 22 = .ok (.iconst 1, 1) := dq_4 (dq_w dwc_127 6 rfl)
theorem dX4_turn_23 : decode cX4_turn 23 = .ok (.ireturn, 1) := dq_172 (dq_w dwc_127 7 rfl)
theorem dwc_128 : (cX4_aim.data.toList.drop 0).take 16 = [42, 27, 182, 0, 65, 153, 0, 10, 28, 184, 0, 58, 154, 0, 5, 3] := by decide +kernel
theorem dwc_129 : (cX4_aim.data.toList.drop 16).take 16 = [172, 42, 180, 0, 24, 27, 28, 79, 4, 172] := by decide +kernel
theorem dX4_aim_0 : decode cX4_aim 0 = .ok (.aload_n 0, 1) := dq_42 (dq_w dwc_128 0 rfl)
theorem dX4_aim_1 : decode cX4_aim 1 = .ok (.iload_n 1, 1) := dq_27 (dq_w dwc_128 1 rfl)
theorem dX4_aim_2 : decode cX4_aim 2 = .ok (.invokevirtual 65, 3) := dq_182 (dq_w dwc_128 2 rfl) (dq_w dwc_128 3 rfl) (dq_w dwc_128 4 rfl) rfl
theorem dX4_aim_5 : decode cX4_aim 5 = .ok (.ifCond .eq 10, 3) := dq_153 (dq_w dwc_128 5 rfl) (dq_w dwc_128 6 rfl) (dq_w dwc_128 7 rfl) (dq_p (n := 10) rfl rfl)
theorem dX4_aim_8 : decode cX4_aim 8 = .ok (.iload_n 2, 1) := dq_28 (dq_w dwc_128 8 rfl)
theorem dX4_aim_9 : decode cX4_aim 9 = .ok (.invokestatic 58, 3) := dq_184 (dq_w dwc_128 9 rfl) (dq_w dwc_128 10 rfl) (dq_w dwc_128 11 rfl) rfl
theorem dX4_aim_12 : decode cX4_aim 12 = .ok (.ifCond .ne 5, 3) := dq_154 (dq_w dwc_128 12 rfl) (dq_w dwc_128 13 rfl) (dq_w dwc_128 14 rfl) (dq_p (n := 5) rfl rfl)
theorem dX4_aim_15 : decode cX4_aim 15 = .ok (.iconst 0, 1) := dq_3 (dq_w dwc_128 15 rfl)
theorem dX4_aim_16 : decode cX4_aim 16 = .ok (.ireturn, 1) := dq_172 (dq_w dwc_129 0 rfl)
theorem dX4_aim_17 : decode cX4_aim 17 = .ok (.aload_n 0, 1) := dq_42 (dq_w dwc_129 1 rfl)
theorem dX4_aim_18 : decode cX4_aim 18 = .ok (.getfield 24, 3) := dq_180 (dq_w dwc_129 2 rfl) (dq_w dwc_129 3 rfl) (dq_w dwc_129 4 rfl) rfl
theorem dX4_aim_21 : decode cX4_aim 21 = .ok (.iload_n 1, 1) := dq_27 (dq_w dwc_129 5 rfl)
theorem dX4_aim_22 : decode cX4_aim 22 = .ok (.iload_n 2, 1) := dq_28 (dq_w dwc_129 6 rfl)
theorem dX4_aim_23 : decode cX4_aim 23 = .ok (.iastore, 1) := dq_79 (dq_w dwc_129 7 rfl)
theorem dX4_aim_24 : decode cX4_aim 24 = .ok (.iconst 1, 1) := dq_4 (dq_w dwc_129 8 rfl)
theorem dX4_aim_25 : decode cX4_aim 25 = .ok (.ireturn, 1) := dq_172 (dq_w dwc_129 9 rfl)
theorem dwc_130 : (cX4_addDebt.data.toList.drop 0).take 16 = [42, 27, 182, 0, 65, 153, 0, 11, 42, 28, 182, 0, 62, 154, 0, 5] := by decide +kernel
theorem dwc_131 : (cX4_addDebt.data.toList.drop 16).take 16 = [3, 172, 42, 27, 28, 182, 0, 68, 154, 0, 10, 42, 27, 28, 3, 182] := by decide +kernel
theorem dwc_132 : (cX4_addDebt.data.toList.drop 32).take 16 = [0, 72, 4, 172] := by decide +kernel
theorem dX4_addDebt_0 : decode cX4_addDebt 0 = .ok (.aload_n 0, 1) := dq_42 (dq_w dwc_130 0 rfl)
theorem dX4_addDebt_1 : decode cX4_addDebt 1 = .ok (.iload_n 1, 1) := dq_27 (dq_w dwc_130 1 rfl)
theorem dX4_addDebt_2 : decode cX4_addDebt 2 = .ok (.invokevirtual 65, 3) := dq_182 (dq_w dwc_130 2 rfl) (dq_w dwc_130 3 rfl) (dq_w dwc_130 4 rfl) rfl
theorem dX4_addDebt_5 : decode cX4_addDebt 5 = .ok (.ifCond .eq 11, 3) := dq_153 (dq_w dwc_130 5 rfl) (dq_w dwc_130 6 rfl) (dq_w dwc_130 7 rfl) (dq_p (n := 11) rfl rfl)
theorem dX4_addDebt_8 : decode cX4_addDebt 8 = .ok (.aload_n 0, 1) := dq_42 (dq_w dwc_130 8 rfl)
theorem dX4_addDebt_9 : decode cX4_addDebt 9 = .ok (.iload_n 2, 1) := dq_28 (dq_w dwc_130 9 rfl)
theorem dX4_addDebt_10 : decode cX4_addDebt 10 = .ok (.invokevirtual 62, 3) := dq_182 (dq_w dwc_130 10 rfl) (dq_w dwc_130 11 rfl) (dq_w dwc_130 12 rfl) rfl
theorem dX4_addDebt_13 : decode cX4_addDebt 13 = .ok (.ifCond .ne 5, 3) := dq_154 (dq_w dwc_130 13 rfl) (dq_w dwc_130 14 rfl) (dq_w dwc_130 15 rfl) (dq_p (n := 5) rfl rfl)
theorem dX4_addDebt_16 : decode cX4_addDebt 16 = .ok (.iconst 0, 1) := dq_3 (dq_w dwc_131 0 rfl)
theorem dX4_addDebt_17 : decode cX4_addDebt 17 = .ok (.ireturn, 1) := dq_172 (dq_w dwc_131 1 rfl)
theorem dX4_addDebt_18 : decode cX4_addDebt 18 = .ok (.aload_n 0, 1) := dq_42 (dq_w dwc_131 2 rfl)
theorem dX4_addDebt_19 : decode cX4_addDebt 19 = .ok (.iload_n 1, 1) := dq_27 (dq_w dwc_131 3 rfl)
theorem dX4_addDebt_20 : decode cX4_addDebt 20 = .ok (.iload_n 2, 1) := dq_28 (dq_w dwc_131 4 rfl)
theorem dX4_addDebt_21 : decode cX4_addDebt 21 = .ok (.invokevirtual 68, 3) := dq_182 (dq_w dwc_131 5 rfl) (dq_w dwc_131 6 rfl) (dq_w dwc_131 7 rfl) rfl
theorem dX4_addDebt_24 : decode cX4_addDebt 24 = .ok (.ifCond .ne 10, 3) := dq_154 (dq_w dwc_131 8 rfl) (dq_w dwc_131 9 rfl) (dq_w dwc_131 10 rfl) (dq_p (n := 10) rfl rfl)
theorem dX4_addDebt_27 : decode cX4_addDebt 27 = .ok (.aload_n 0, 1) := dq_42 (dq_w dwc_131 11 rfl)
theorem dX4_addDebt_28 : decode cX4_addDebt 28 = .ok (.iload_n 1, 1) := dq_27 (dq_w dwc_131 12 rfl)
theorem dX4_addDebt_29 : decode cX4_addDebt 29 = .ok (.iload_n 2, 1) := dq_28 (dq_w dwc_131 13 rfl)
theorem dX4_addDebt_30 : decode cX4_addDebt 30 = .ok (.iconst 0, 1) := dq_3 (dq_w dwc_131 14 rfl)
theorem dX4_addDebt_31 : decode cX4_addDebt 31 = .ok (.invokevirtual 72, 3) := dq_182 (dq_w dwc_131 15 rfl) (dq_w dwc_132 0 rfl) (dq_w dwc_132 1 rfl) rfl
theorem dX4_addDebt_34 : decode cX4_addDebt 34 = .ok (.iconst 1, 1) := dq_4 (dq_w dwc_132 2 rfl)
theorem dX4_addDebt_35 : decode cX4_addDebt 35 = .ok (.ireturn, 1) := dq_172 (dq_w dwc_132 3 rfl)
theorem dwc_133 : (cX4_pass.data.toList.drop 0).take 16 = [27, 4, 161, 0, 21, 27, 16, 60, 163, 0, 15, 42, 180, 0, 55, 27] := by decide +kernel
theorem dwc_134 : (cX4_pass.data.toList.drop 16).take 16 = [96, 17, 3, 231, 164, 0, 5, 3, 172, 3, 61, 28, 42, 180, 0, 52] := by decide +kernel
theorem dwc_135 : (cX4_pass.data.toList.drop 32).take 16 = [162, 0, 50, 3, 62, 29, 42, 180, 0, 39, 162, 0, 22, 42, 28, 29] := by decide +kernel
theorem dwc_136 : (cX4_pass.data.toList.drop 48).take 16 = [42, 28, 29, 27, 182, 0, 76, 182, 0, 72, 132, 3, 1, 167, 255, 232] := by decide +kernel
theorem dwc_137 : (cX4_pass.data.toList.drop 64).take 16 = [42, 180, 0, 21, 28, 42, 28, 27, 182, 0, 80, 79, 132, 2, 1, 167] := by decide +kernel
theorem dwc_138 : (cX4_pass.data.toList.drop 80).take 16 = [255, 204, 42, 89, 180, 0, 55, 27, 96, 181, 0, 55, 4, 172] := by decide +kernel
theorem dX4_pass_0 : decode cX4_pass 0 = .ok (.iload_n 1, 1) := dq_27 (dq_w dwc_133 0 rfl)
theorem dX4_pass_1 : decode cX4_pass 1 = .ok (.iconst 1, 1) := dq_4 (dq_w dwc_133 1 rfl)
theorem dX4_pass_2 : decode cX4_pass 2 = .ok (.if_icmp .lt 21, 3) := dq_161 (dq_w dwc_133 2 rfl) (dq_w dwc_133 3 rfl) (dq_w dwc_133 4 rfl) (dq_p (n := 21) rfl rfl)
theorem dX4_pass_5 : decode cX4_pass 5 = .ok (.iload_n 1, 1) := dq_27 (dq_w dwc_133 5 rfl)
theorem dX4_pass_6 : decode cX4_pass 6 = .ok (.bipush 60, 2) := dq_16 (dq_w dwc_133 6 rfl) (dq_w dwc_133 7 rfl) rfl
theorem dX4_pass_8 : decode cX4_pass 8 = .ok (.if_icmp .gt 15, 3) := dq_163 (dq_w dwc_133 8 rfl) (dq_w dwc_133 9 rfl) (dq_w dwc_133 10 rfl) (dq_p (n := 15) rfl rfl)
theorem dX4_pass_11 : decode cX4_pass 11 = .ok (.aload_n 0, 1) := dq_42 (dq_w dwc_133 11 rfl)
theorem dX4_pass_12 : decode cX4_pass 12 = .ok (.getfield 55, 3) := dq_180 (dq_w dwc_133 12 rfl) (dq_w dwc_133 13 rfl) (dq_w dwc_133 14 rfl) rfl
theorem dX4_pass_15 : decode cX4_pass 15 = .ok (.iload_n 1, 1) := dq_27 (dq_w dwc_133 15 rfl)
theorem dX4_pass_16 : decode cX4_pass 16 = .ok (.iadd, 1) := dq_96 (dq_w dwc_134 0 rfl)
theorem dX4_pass_17 : decode cX4_pass 17 = .ok (.sipush 999, 3) := dq_17 (dq_w dwc_134 1 rfl) (dq_w dwc_134 2 rfl) (dq_w dwc_134 3 rfl) (dq_p (n := 999) rfl rfl)
theorem dX4_pass_20 : decode cX4_pass 20 = .ok (.if_icmp .le 5, 3) := dq_164 (dq_w dwc_134 4 rfl) (dq_w dwc_134 5 rfl) (dq_w dwc_134 6 rfl) (dq_p (n := 5) rfl rfl)
theorem dX4_pass_23 : decode cX4_pass 23 = .ok (.iconst 0, 1) := dq_3 (dq_w dwc_134 7 rfl)
theorem dX4_pass_24 : decode cX4_pass 24 = .ok (.ireturn, 1) := dq_172 (dq_w dwc_134 8 rfl)
theorem dX4_pass_25 : decode cX4_pass 25 = .ok (.iconst 0, 1) := dq_3 (dq_w dwc_134 9 rfl)
theorem dX4_pass_26 : decode cX4_pass 26 = .ok (.istore_n 2, 1) := dq_61 (dq_w dwc_134 10 rfl)
theorem dX4_pass_27 : decode cX4_pass 27 = .ok (.iload_n 2, 1) := dq_28 (dq_w dwc_134 11 rfl)
theorem dX4_pass_28 : decode cX4_pass 28 = .ok (.aload_n 0, 1) := dq_42 (dq_w dwc_134 12 rfl)
theorem dX4_pass_29 : decode cX4_pass 29 = .ok (.getfield 52, 3) := dq_180 (dq_w dwc_134 13 rfl) (dq_w dwc_134 14 rfl) (dq_w dwc_134 15 rfl) rfl
theorem dX4_pass_32 : decode cX4_pass 32 = .ok (.if_icmp .ge 50, 3) := dq_162 (dq_w dwc_135 0 rfl) (dq_w dwc_135 1 rfl) (dq_w dwc_135 2 rfl) (dq_p (n := 50) rfl rfl)
theorem dX4_pass_35 : decode cX4_pass 35 = .ok (.iconst 0, 1) := dq_3 (dq_w dwc_135 3 rfl)
theorem dX4_pass_36 : decode cX4_pass 36 = .ok (.istore_n 3, 1) := dq_62 (dq_w dwc_135 4 rfl)
theorem dX4_pass_37 : decode cX4_pass 37 = .ok (.iload_n 3, 1) := dq_29 (dq_w dwc_135 5 rfl)
theorem dX4_pass_38 : decode cX4_pass 38 = .ok (.aload_n 0, 1) := dq_42 (dq_w dwc_135 6 rfl)
theorem dX4_pass_39 : decode cX4_pass 39 = .ok (.getfield 39, 3) := dq_180 (dq_w dwc_135 7 rfl) (dq_w dwc_135 8 rfl) (dq_w dwc_135 9 rfl) rfl
theorem dX4_pass_42 : decode cX4_pass 42 = .ok (.if_icmp .ge 22, 3) := dq_162 (dq_w dwc_135 10 rfl) (dq_w dwc_135 11 rfl) (dq_w dwc_135 12 rfl) (dq_p (n := 22) rfl rfl)
theorem dX4_pass_45 : decode cX4_pass 45 = .ok (.aload_n 0, 1) := dq_42 (dq_w dwc_135 13 rfl)
theorem dX4_pass_46 : decode cX4_pass 46 = .ok (.iload_n 2, 1) := dq_28 (dq_w dwc_135 14 rfl)
theorem dX4_pass_47 : decode cX4_pass 47 = .ok (.iload_n 3, 1) := dq_29 (dq_w dwc_135 15 rfl)
theorem dX4_pass_48 : decode cX4_pass 48 = .ok (.aload_n 0, 1) := dq_42 (dq_w dwc_136 0 rfl)
theorem dX4_pass_49 : decode cX4_pass 49 = .ok (.iload_n 2, 1) := dq_28 (dq_w dwc_136 1 rfl)
theorem dX4_pass_50 : decode cX4_pass 50 = .ok (.iload_n 3, 1) := dq_29 (dq_w dwc_136 2 rfl)
theorem dX4_pass_51 : decode cX4_pass 51 = .ok (.iload_n 1, 1) := dq_27 (dq_w dwc_136 3 rfl)
theorem dX4_pass_52 : decode cX4_pass 52 = .ok (.invokevirtual 76, 3) := dq_182 (dq_w dwc_136 4 rfl) (dq_w dwc_136 5 rfl) (dq_w dwc_136 6 rfl) rfl
theorem dX4_pass_55 : decode cX4_pass 55 = .ok (.invokevirtual 72, 3) := dq_182 (dq_w dwc_136 7 rfl) (dq_w dwc_136 8 rfl) (dq_w dwc_136 9 rfl) rfl
theorem dX4_pass_58 : decode cX4_pass 58 = .ok (.iinc 3 1, 3) := dq_132 (dq_w dwc_136 10 rfl) (dq_w dwc_136 11 rfl) rfl (dq_w dwc_136 12 rfl) rfl
theorem dX4_pass_61 : decode cX4_pass 61 = .ok (.goto (-24), 3) := dq_167 (dq_w dwc_136 13 rfl) (dq_w dwc_136 14 rfl) (dq_w dwc_136 15 rfl) (dq_n (m := 24) rfl rfl)
theorem dX4_pass_64 : decode cX4_pass 64 = .ok (.aload_n 0, 1) := dq_42 (dq_w dwc_137 0 rfl)
theorem dX4_pass_65 : decode cX4_pass 65 = .ok (.getfield 21, 3) := dq_180 (dq_w dwc_137 1 rfl) (dq_w dwc_137 2 rfl) (dq_w dwc_137 3 rfl) rfl
theorem dX4_pass_68 : decode cX4_pass 68 = .ok (.iload_n 2, 1) := dq_28 (dq_w dwc_137 4 rfl)
theorem dX4_pass_69 : decode cX4_pass 69 = .ok (.aload_n 0, 1) := dq_42 (dq_w dwc_137 5 rfl)
theorem dX4_pass_70 : decode cX4_pass 70 = .ok (.iload_n 2, 1) := dq_28 (dq_w dwc_137 6 rfl)
theorem dX4_pass_71 : decode cX4_pass 71 = .ok (.iload_n 1, 1) := dq_27 (dq_w dwc_137 7 rfl)
theorem dX4_pass_72 : decode cX4_pass 72 = .ok (.invokevirtual 80, 3) := dq_182 (dq_w dwc_137 8 rfl) (dq_w dwc_137 9 rfl) (dq_w dwc_137 10 rfl) rfl
theorem dX4_pass_75 : decode cX4_pass 75 = .ok (.iastore, 1) := dq_79 (dq_w dwc_137 11 rfl)
theorem dX4_pass_76 : decode cX4_pass 76 = .ok (.iinc 2 1, 3) := dq_132 (dq_w dwc_137 12 rfl) (dq_w dwc_137 13 rfl) rfl (dq_w dwc_137 14 rfl) rfl
theorem dX4_pass_79 : decode cX4_pass 79 = .ok (.goto (-52), 3) := dq_167 (dq_w dwc_137 15 rfl) (dq_w dwc_138 0 rfl) (dq_w dwc_138 1 rfl) (dq_n (m := 52) rfl rfl)
theorem dX4_pass_82 : decode cX4_pass 82 = .ok (.aload_n 0, 1) := dq_42 (dq_w dwc_138 2 rfl)
theorem dX4_pass_83 : decode cX4_pass 83 = .ok (.dup, 1) := dq_89 (dq_w dwc_138 3 rfl)
theorem dX4_pass_84 : decode cX4_pass 84 = .ok (.getfield 55, 3) := dq_180 (dq_w dwc_138 4 rfl) (dq_w dwc_138 5 rfl) (dq_w dwc_138 6 rfl) rfl
theorem dX4_pass_87 : decode cX4_pass 87 = .ok (.iload_n 1, 1) := dq_27 (dq_w dwc_138 7 rfl)
theorem dX4_pass_88 : decode cX4_pass 88 = .ok (.iadd, 1) := dq_96 (dq_w dwc_138 8 rfl)
theorem dX4_pass_89 : decode cX4_pass 89 = .ok (.putfield 55, 3) := dq_181 (dq_w dwc_138 9 rfl) (dq_w dwc_138 10 rfl) (dq_w dwc_138 11 rfl) rfl
theorem dX4_pass_92 : decode cX4_pass 92 = .ok (.iconst 1, 1) := dq_4 (dq_w dwc_138 12 rfl)
theorem dX4_pass_93 : decode cX4_pass 93 = .ok (.ireturn, 1) := dq_172 (dq_w dwc_138 13 rfl)
theorem dwc_139 : (cX4_setDebt.data.toList.drop 0).take 16 = [42, 180, 0, 30, 27, 16, 8, 104, 28, 96, 29, 79, 177] := by decide +kernel
theorem dX4_setDebt_0 : decode cX4_setDebt 0 = .ok (.aload_n 0, 1) := dq_42 (dq_w dwc_139 0 rfl)
theorem dX4_setDebt_1 : decode cX4_setDebt 1 = .ok (.getfield 30, 3) := dq_180 (dq_w dwc_139 1 rfl) (dq_w dwc_139 2 rfl) (dq_w dwc_139 3 rfl) rfl
theorem dX4_setDebt_4 : decode cX4_setDebt 4 = .ok (.iload_n 1, 1) := dq_27 (dq_w dwc_139 4 rfl)
theorem dX4_setDebt_5 : decode cX4_setDebt 5 = .ok (.bipush 8, 2) := dq_16 (dq_w dwc_139 5 rfl) (dq_w dwc_139 6 rfl) rfl
theorem dX4_setDebt_7 : decode cX4_setDebt 7 = .ok (.imul, 1) := dq_104 (dq_w dwc_139 7 rfl)
theorem dX4_setDebt_8 : decode cX4_setDebt 8 = .ok (.iload_n 2, 1) := dq_28 (dq_w dwc_139 8 rfl)
theorem dX4_setDebt_9 : decode cX4_setDebt 9 = .ok (.iadd, 1) := dq_96 (dq_w dwc_139 9 rfl)
theorem dX4_setDebt_10 : decode cX4_setDebt 10 = .ok (.iload_n 3, 1) := dq_29 (dq_w dwc_139 10 rfl)
theorem dX4_setDebt_11 : decode cX4_setDebt 11 = .ok (.iastore, 1) := dq_79 (dq_w dwc_139 11 rfl)
theorem dX4_setDebt_12 : decode cX4_setDebt 12 = .ok (.return_, 1) := dq_177 (dq_w dwc_139 12 rfl)
theorem dwc_140 : (cX4_owes.data.toList.drop 0).take 16 = [42, 180, 0, 30, 27, 16, 8, 104, 28, 96, 46, 2, 159, 0, 7, 4] := by decide +kernel
theorem dwc_141 : (cX4_owes.data.toList.drop 16).take 16 = [167, 0, 4, 3, 172] := by decide +kernel
theorem dX4_owes_0 : decode cX4_owes 0 = .ok (.aload_n 0, 1) := dq_42 (dq_w dwc_140 0 rfl)
theorem dX4_owes_1 : decode cX4_owes 1 = .ok (.getfield 30, 3) := dq_180 (dq_w dwc_140 1 rfl) (dq_w dwc_140 2 rfl) (dq_w dwc_140 3 rfl) rfl
theorem dX4_owes_4 : decode cX4_owes 4 = .ok (.iload_n 1, 1) := dq_27 (dq_w dwc_140 4 rfl)
theorem dX4_owes_5 : decode cX4_owes 5 = .ok (.bipush 8, 2) := dq_16 (dq_w dwc_140 5 rfl) (dq_w dwc_140 6 rfl) rfl
theorem dX4_owes_7 : decode cX4_owes 7 = .ok (.imul, 1) := dq_104 (dq_w dwc_140 7 rfl)
theorem dX4_owes_8 : decode cX4_owes 8 = .ok (.iload_n 2, 1) := dq_28 (dq_w dwc_140 8 rfl)
theorem dX4_owes_9 : decode cX4_owes 9 = .ok (.iadd, 1) := dq_96 (dq_w dwc_140 9 rfl)
theorem dX4_owes_10 : decode cX4_owes 10 = .ok (.iaload, 1) := dq_46 (dq_w dwc_140 10 rfl)
theorem dX4_owes_11 : decode cX4_owes 11 = .ok (.iconst (-1), 1) := dq_2 (dq_w dwc_140 11 rfl)
theorem dX4_owes_12 : decode cX4_owes 12 = .ok (.if_icmp .eq 7, 3) := dq_159 (dq_w dwc_140 12 rfl) (dq_w dwc_140 13 rfl) (dq_w dwc_140 14 rfl) (dq_p (n := 7) rfl rfl)
theorem dX4_owes_15 : decode cX4_owes 15 = .ok (.iconst 1, 1) := dq_4 (dq_w dwc_140 15 rfl)
theorem dX4_owes_16 : decode cX4_owes 16 = .ok (.goto 4, 3) := dq_167 (dq_w dwc_141 0 rfl) (dq_w dwc_141 1 rfl) (dq_w dwc_141 2 rfl) (dq_p (n := 4) rfl rfl)
theorem dX4_owes_19 : decode cX4_owes 19 = .ok (.iconst 0, 1) := dq_3 (dq_w dwc_141 3 rfl)
theorem dX4_owes_20 : decode cX4_owes 20 = .ok (.ireturn, 1) := dq_172 (dq_w dwc_141 4 rfl)
theorem dwc_142 : (cX4_minutesOf.data.toList.drop 0).take 16 = [42, 180, 0, 9, 27, 46, 42, 180, 0, 15, 27, 46, 28, 184, 0, 84] := by decide +kernel
theorem dwc_143 : (cX4_minutesOf.data.toList.drop 16).take 16 = [172] := by decide +kernel
theorem dX4_minutesOf_0 : decode cX4_minutesOf 0 = .ok (.aload_n 0, 1) := dq_42 (dq_w dwc_142 0 rfl)
theorem dX4_minutesOf_1 : decode cX4_minutesOf 1 = .ok (.getfield 9, 3) := dq_180 (dq_w dwc_142 1 rfl) (dq_w dwc_142 2 rfl) (dq_w dwc_142 3 rfl) rfl
theorem dX4_minutesOf_4 : decode cX4_minutesOf 4 = .ok (.iload_n 1, 1) := dq_27 (dq_w dwc_142 4 rfl)
theorem dX4_minutesOf_5 : decode cX4_minutesOf 5 = .ok (.iaload, 1) := dq_46 (dq_w dwc_142 5 rfl)
theorem dX4_minutesOf_6 : decode cX4_minutesOf 6 = .ok (.aload_n 0, 1) := dq_42 (dq_w dwc_142 6 rfl)
theorem dX4_minutesOf_7 : decode cX4_minutesOf 7 = .ok (.getfield 15, 3) := dq_180 (dq_w dwc_142 7 rfl) (dq_w dwc_142 8 rfl) (dq_w dwc_142 9 rfl) rfl
theorem dX4_minutesOf_10 : decode cX4_minutesOf 10 = .ok (.iload_n 1, 1) := dq_27 (dq_w dwc_142 10 rfl)
theorem dX4_minutesOf_11 : decode cX4_minutesOf 11 = .ok (.iaload, 1) := dq_46 (dq_w dwc_142 11 rfl)
theorem dX4_minutesOf_12 : decode cX4_minutesOf 12 = .ok (.iload_n 2, 1) := dq_28 (dq_w dwc_142 12 rfl)
theorem dX4_minutesOf_13 : decode cX4_minutesOf 13 = .ok (.invokestatic 84, 3) := dq_184 (dq_w dwc_142 13 rfl) (dq_w dwc_142 14 rfl) (dq_w dwc_142 15 rfl) rfl
theorem dX4_minutesOf_16 : decode cX4_minutesOf 16 = .ok (.ireturn, 1) := dq_172 (dq_w dwc_143 0 rfl)
theorem dwc_144 : (cX4_rangeOf.data.toList.drop 0).take 16 = [42, 28, 182, 0, 87, 154, 0, 5, 2, 172, 42, 180, 0, 9, 28, 46] := by decide +kernel
theorem dwc_145 : (cX4_rangeOf.data.toList.drop 16).take 16 = [42, 180, 0, 15, 28, 46, 184, 0, 90, 62, 42, 180, 0, 27, 27, 46] := by decide +kernel
theorem dwc_146 : (cX4_rangeOf.data.toList.drop 32).take 16 = [5, 160, 0, 5, 29, 172, 42, 180, 0, 27, 27, 46, 4, 160, 0, 9] := by decide +kernel
theorem dwc_147 : (cX4_rangeOf.data.toList.drop 48).take 16 = [29, 5, 108, 167, 0, 4, 2, 172] := by decide +kernel
theorem dX4_rangeOf_0 : decode cX4_rangeOf 0 = .ok (.aload_n 0, 1) := dq_42 (dq_w dwc_144 0 rfl)
theorem dX4_rangeOf_1 : decode cX4_rangeOf 1 = .ok (.iload_n 2, 1) := dq_28 (dq_w dwc_144 1 rfl)
theorem dX4_rangeOf_2 : decode cX4_rangeOf 2 = .ok (.invokevirtual 87, 3) := dq_182 (dq_w dwc_144 2 rfl) (dq_w dwc_144 3 rfl) (dq_w dwc_144 4 rfl) rfl
theorem dX4_rangeOf_5 : decode cX4_rangeOf 5 = .ok (.ifCond .ne 5, 3) := dq_154 (dq_w dwc_144 5 rfl) (dq_w dwc_144 6 rfl) (dq_w dwc_144 7 rfl) (dq_p (n := 5) rfl rfl)
theorem dX4_rangeOf_8 : decode cX4_rangeOf 8 = .ok (.iconst (-1), 1) := dq_2 (dq_w dwc_144 8 rfl)
theorem dX4_rangeOf_9 : decode cX4_rangeOf 9 = .ok (.ireturn, 1) := dq_172 (dq_w dwc_144 9 rfl)
theorem dX4_rangeOf_10 : decode cX4_rangeOf 10 = .ok (.aload_n 0, 1) := dq_42 (dq_w dwc_144 10 rfl)
theorem dX4_rangeOf_11 : decode cX4_rangeOf 11 = .ok (.getfield 9, 3) := dq_180 (dq_w dwc_144 11 rfl) (dq_w dwc_144 12 rfl) (dq_w dwc_144 13 rfl) rfl
theorem dX4_rangeOf_14 : decode cX4_rangeOf 14 = .ok (.iload_n 2, 1) := dq_28 (dq_w dwc_144 14 rfl)
theorem dX4_rangeOf_15 : decode cX4_rangeOf 15 = .ok (.iaload, 1) := dq_46 (dq_w dwc_144 15 rfl)
theorem dX4_rangeOf_16 : decode cX4_rangeOf 16 = .ok (.aload_n 0, 1) := dq_42 (dq_w dwc_145 0 rfl)
theorem dX4_rangeOf_17 : decode cX4_rangeOf 17 = .ok (.getfield 15, 3) := dq_180 (dq_w dwc_145 1 rfl) (dq_w dwc_145 2 rfl) (dq_w dwc_145 3 rfl) rfl
theorem dX4_rangeOf_20 : decode cX4_rangeOf 20 = .ok (.iload_n 2, 1) := dq_28 (dq_w dwc_145 4 rfl)
theorem dX4_rangeOf_21 : decode cX4_rangeOf 21 = .ok (.iaload, 1) := dq_46 (dq_w dwc_145 5 rfl)
theorem dX4_rangeOf_22 : decode cX4_rangeOf 22 = .ok (.invokestatic 90, 3) := dq_184 (dq_w dwc_145 6 rfl) (dq_w dwc_145 7 rfl) (dq_w dwc_145 8 rfl) rfl
theorem dX4_rangeOf_25 : decode cX4_rangeOf 25 = .ok (.istore_n 3, 1) := dq_62 (dq_w dwc_145 9 rfl)
theorem dX4_rangeOf_26 : decode cX4_rangeOf 26 = .ok (.aload_n 0, 1) := dq_42 (dq_w dwc_145 10 rfl)
theorem dX4_rangeOf_27 : decode cX4_rangeOf 27 = .ok (.getfield 27, 3) := dq_180 (dq_w dwc_145 11 rfl) (dq_w dwc_145 12 rfl) (dq_w dwc_145 13 rfl) rfl
theorem dX4_rangeOf_30 : decode cX4_rangeOf 30 = .ok (.iload_n 1, 1) := dq_27 (dq_w dwc_145 14 rfl)
theorem dX4_rangeOf_31 : decode cX4_rangeOf 31 = .ok (.iaload, 1) := dq_46 (dq_w dwc_145 15 rfl)
theorem dX4_rangeOf_32 : decode cX4_rangeOf 32 = .ok (.iconst 2, 1) := dq_5 (dq_w dwc_146 0 rfl)
theorem dX4_rangeOf_33 : decode cX4_rangeOf 33 = .ok (.if_icmp .ne 5, 3) := dq_160 (dq_w dwc_146 1 rfl) (dq_w dwc_146 2 rfl) (dq_w dwc_146 3 rfl) (dq_p (n := 5) rfl rfl)
theorem dX4_rangeOf_36 : decode cX4_rangeOf 36 = .ok (.iload_n 3, 1) := dq_29 (dq_w dwc_146 4 rfl)
theorem dX4_rangeOf_37 : decode cX4_rangeOf 37 = .ok (.ireturn, 1) := dq_172 (dq_w dwc_146 5 rfl)
theorem dX4_rangeOf_38 : decode cX4_rangeOf 38 = .ok (.aload_n 0, 1) := dq_42 (dq_w dwc_146 6 rfl)
theorem dX4_rangeOf_39 : decode cX4_rangeOf 39 = .ok (.getfield 27, 3) := dq_180 (dq_w dwc_146 7 rfl) (dq_w dwc_146 8 rfl) (dq_w dwc_146 9 rfl) rfl
theorem dX4_rangeOf_42 : decode cX4_rangeOf 42 = .ok (.iload_n 1, 1) := dq_27 (dq_w dwc_146 10 rfl)
theorem dX4_rangeOf_43 : decode cX4_rangeOf 43 = .ok (.iaload, 1) := dq_46 (dq_w dwc_146 11 rfl)
theorem dX4_rangeOf_44 : decode cX4_rangeOf 44 = .ok (.iconst 1, 1) := dq_4 (dq_w dwc_146 12 rfl)
theorem dX4_rangeOf_45 : decode cX4_rangeOf 45 = .ok (.if_icmp .ne 9, 3) := dq_160 (dq_w dwc_146 13 rfl) (dq_w dwc_146 14 rfl) (dq_w dwc_146 15 rfl) (dq_p (n := 9) rfl rfl)
theorem dX4_rangeOf_48 : decode cX4_rangeOf 48 = .ok (.iload_n 3, 1) := dq_29 (dq_w dwc_147 0 rfl)
theorem dX4_rangeOf_49 : decode cX4_rangeOf 49 = .ok (.iconst 2, 1) := dq_5 (dq_w dwc_147 1 rfl)
theorem dX4_rangeOf_50 : decode cX4_rangeOf 50 = .ok (.idiv, 1) := dq_108 (dq_w dwc_147 2 rfl)
theorem dX4_rangeOf_51 : decode cX4_rangeOf 51 = .ok (.goto 4, 3) := dq_167 (dq_w dwc_147 3 rfl) (dq_w dwc_147 4 rfl) (dq_w dwc_147 5 rfl) (dq_p (n := 4) rfl rfl)
theorem dX4_rangeOf_54 : decode cX4_rangeOf 54 = .ok (.iconst (-1), 1) := dq_2 (dq_w dwc_147 6 rfl)
theorem dX4_rangeOf_55 : decode cX4_rangeOf 55 = .ok (.ireturn, 1) := dq_172 (dq_w dwc_147 7 rfl)
theorem dwc_148 : (cX4_seesFrom.data.toList.drop 0).take 16 = [3, 62, 3, 54, 4, 21, 4, 42, 180, 0, 39, 162, 0, 37, 28, 42] := by decide +kernel
theorem dwc_149 : (cX4_seesFrom.data.toList.drop 16).take 16 = [180, 0, 18, 21, 4, 46, 184, 0, 93, 42, 27, 21, 4, 182, 0, 96] := by decide +kernel
theorem dwc_150 : (cX4_seesFrom.data.toList.drop 32).take 16 = [163, 0, 10, 29, 4, 21, 4, 120, 128, 62, 132, 4, 1, 167, 255, 216] := by decide +kernel
theorem dwc_151 : (cX4_seesFrom.data.toList.drop 48).take 16 = [29, 172] := by decide +kernel
theorem dX4_seesFrom_0 : decode cX4_seesFrom 0 = .ok (.iconst 0, 1) := dq_3 (dq_w dwc_148 0 rfl)
theorem dX4_seesFrom_1 : decode cX4_seesFrom 1 = .ok (.istore_n 3, 1) := dq_62 (dq_w dwc_148 1 rfl)
theorem dX4_seesFrom_2 : decode cX4_seesFrom 2 = .ok (.iconst 0, 1) := dq_3 (dq_w dwc_148 2 rfl)
theorem dX4_seesFrom_3 : decode cX4_seesFrom 3 = .ok (.istore 4, 2) := dq_54 (dq_w dwc_148 3 rfl) (dq_w dwc_148 4 rfl) rfl
theorem dX4_seesFrom_5 : decode cX4_seesFrom 5 = .ok (.iload 4, 2) := dq_21 (dq_w dwc_148 5 rfl) (dq_w dwc_148 6 rfl) rfl
theorem dX4_seesFrom_7 : decode cX4_seesFrom 7 = .ok (.aload_n 0, 1) := dq_42 (dq_w dwc_148 7 rfl)
theorem dX4_seesFrom_8 : decode cX4_seesFrom 8 = .ok (.getfield 39, 3) := dq_180 (dq_w dwc_148 8 rfl) (dq_w dwc_148 9 rfl) (dq_w dwc_148 10 rfl) rfl
theorem dX4_seesFrom_11 : decode cX4_seesFrom 11 = .ok (.if_icmp .ge 37, 3) := dq_162 (dq_w dwc_148 11 rfl) (dq_w dwc_148 12 rfl) (dq_w dwc_148 13 rfl) (dq_p (n := 37) rfl rfl)
theorem dX4_seesFrom_14 : decode cX4_seesFrom 14 = .ok (.iload_n 2, 1) := dq_28 (dq_w dwc_148 14 rfl)
theorem dX4_seesFrom_15 : decode cX4_seesFrom 15 = .ok (.aload_n 0, 1) := dq_42 (dq_w dwc_148 15 rfl)
theorem dX4_seesFrom_16 : decode cX4_seesFrom 16 = .ok (.getfield 18, 3) := dq_180 (dq_w dwc_149 0 rfl) (dq_w dwc_149 1 rfl) (dq_w dwc_149 2 rfl) rfl
theorem dX4_seesFrom_19 : decode cX4_seesFrom 19 = .ok (.iload 4, 2) := dq_21 (dq_w dwc_149 3 rfl) (dq_w dwc_149 4 rfl) rfl
theorem dX4_seesFrom_21 : decode cX4_seesFrom 21 = .ok (.iaload, 1) := dq_46 (dq_w dwc_149 5 rfl)
theorem dX4_seesFrom_22 : decode cX4_seesFrom 22 = .ok (.invokestatic 93, 3) := dq_184 (dq_w dwc_149 6 rfl) (dq_w dwc_149 7 rfl) (dq_w dwc_149 8 rfl) rfl
theorem dX4_seesFrom_25 : decode cX4_seesFrom 25 = .ok (.aload_n 0, 1) := dq_42 (dq_w dwc_149 9 rfl)
theorem dX4_seesFrom_26 : decode cX4_seesFrom 26 = .ok (.iload_n 1, 1) := dq_27 (dq_w dwc_149 10 rfl)
theorem dX4_seesFrom_27 : decode cX4_seesFrom 27 = .ok (.iload 4, 2) := dq_21 (dq_w dwc_149 11 rfl) (dq_w dwc_149 12 rfl) rfl
theorem dX4_seesFrom_29 : decode cX4_seesFrom 29 = .ok (.invokevirtual 96, 3) := dq_182 (dq_w dwc_149 13 rfl) (dq_w dwc_149 14 rfl) (dq_w dwc_149 15 rfl) rfl
theorem dX4_seesFrom_32 : decode cX4_seesFrom 32 = .ok (.if_icmp .gt 10, 3) := dq_163 (dq_w dwc_150 0 rfl) (dq_w dwc_150 1 rfl) (dq_w dwc_150 2 rfl) (dq_p (n := 10) rfl rfl)
theorem dX4_seesFrom_35 : decode cX4_seesFrom 35 = .ok (.iload_n 3, 1) := dq_29 (dq_w dwc_150 3 rfl)
theorem dX4_seesFrom_36 : decode cX4_seesFrom 36 = .ok (.iconst 1, 1) := dq_4 (dq_w dwc_150 4 rfl)
theorem dX4_seesFrom_37 : decode cX4_seesFrom 37 = .ok (.iload 4, 2) := dq_21 (dq_w dwc_150 5 rfl) (dq_w dwc_150 6 rfl) rfl
theorem dX4_seesFrom_39 : decode cX4_seesFrom 39 = .ok (.ishl, 1) := dq_120 (dq_w dwc_150 7 rfl)
theorem dX4_seesFrom_40 : decode cX4_seesFrom 40 = .ok (.ior, 1) := dq_128 (dq_w dwc_150 8 rfl)
theorem dX4_seesFrom_41 : decode cX4_seesFrom 41 = .ok (.istore_n 3, 1) := dq_62 (dq_w dwc_150 9 rfl)
theorem dX4_seesFrom_42 : decode cX4_seesFrom 42 = .ok (.iinc 4 1, 3) := dq_132 (dq_w dwc_150 10 rfl) (dq_w dwc_150 11 rfl) rfl (dq_w dwc_150 12 rfl) rfl
theorem dX4_seesFrom_45 : decode cX4_seesFrom 45 = .ok (.goto (-40), 3) := dq_167 (dq_w dwc_150 13 rfl) (dq_w dwc_150 14 rfl) (dq_w dwc_150 15 rfl) (dq_n (m := 40) rfl rfl)
theorem dX4_seesFrom_48 : decode cX4_seesFrom 48 = .ok (.iload_n 3, 1) := dq_29 (dq_w dwc_151 0 rfl)
theorem dX4_seesFrom_49 : decode cX4_seesFrom 49 = .ok (.ireturn, 1) := dq_172 (dq_w dwc_151 1 rfl)
theorem dwc_152 : (cX4_seenBy.data.toList.drop 0).take 16 = [3, 61, 3, 62, 29, 42, 180, 0, 52, 162, 0, 39, 42, 180, 0, 21] := by decide +kernel
theorem dwc_153 : (cX4_seenBy.data.toList.drop 16).take 16 = [29, 46, 42, 180, 0, 18, 27, 46, 184, 0, 93, 42, 29, 27, 182, 0] := by decide +kernel
theorem dwc_154 : (cX4_seenBy.data.toList.drop 32).take 16 = [96, 163, 0, 9, 28, 4, 29, 120, 128, 61, 132, 3, 1, 167, 255, 215] := by decide +kernel
theorem dwc_155 : (cX4_seenBy.data.toList.drop 48).take 16 = [28, 172] := by decide +kernel
theorem dX4_seenBy_0 : decode cX4_seenBy 0 = .ok (.iconst 0, 1) := dq_3 (dq_w dwc_152 0 rfl)
theorem dX4_seenBy_1 : decode cX4_seenBy 1 = .ok (.istore_n 2, 1) := dq_61 (dq_w dwc_152 1 rfl)
theorem dX4_seenBy_2 : decode cX4_seenBy 2 = .ok (.iconst 0, 1) := dq_3 (dq_w dwc_152 2 rfl)
theorem dX4_seenBy_3 : decode cX4_seenBy 3 = .ok (.istore_n 3, 1) := dq_62 (dq_w dwc_152 3 rfl)
theorem dX4_seenBy_4 : decode cX4_seenBy 4 = .ok (.iload_n 3, 1) := dq_29 (dq_w dwc_152 4 rfl)
theorem dX4_seenBy_5 : decode cX4_seenBy 5 = .ok (.aload_n 0, 1) := dq_42 (dq_w dwc_152 5 rfl)
theorem dX4_seenBy_6 : decode cX4_seenBy 6 = .ok (.getfield 52, 3) := dq_180 (dq_w dwc_152 6 rfl) (dq_w dwc_152 7 rfl) (dq_w dwc_152 8 rfl) rfl
theorem dX4_seenBy_9 : decode cX4_seenBy 9 = .ok (.if_icmp .ge 39, 3) := dq_162 (dq_w dwc_152 9 rfl) (dq_w dwc_152 10 rfl) (dq_w dwc_152 11 rfl) (dq_p (n := 39) rfl rfl)
theorem dX4_seenBy_12 : decode cX4_seenBy 12 = .ok (.aload_n 0, 1) := dq_42 (dq_w dwc_152 12 rfl)
theorem dX4_seenBy_13 : decode cX4_seenBy 13 = .ok (.getfield 21, 3) := dq_180 (dq_w dwc_152 13 rfl) (dq_w dwc_152 14 rfl) (dq_w dwc_152 15 rfl) rfl
theorem dX4_seenBy_16 : decode cX4_seenBy 16 = .ok (.iload_n 3, 1) := dq_29 (dq_w dwc_153 0 rfl)
theorem dX4_seenBy_17 : decode cX4_seenBy 17 = .ok (.iaload, 1) := dq_46 (dq_w dwc_153 1 rfl)
theorem dX4_seenBy_18 : decode cX4_seenBy 18 = .ok (.aload_n 0, 1) := dq_42 (dq_w dwc_153 2 rfl)
theorem dX4_seenBy_19 : decode cX4_seenBy 19 = .ok (.getfield 18, 3) := dq_180 (dq_w dwc_153 3 rfl) (dq_w dwc_153 4 rfl) (dq_w dwc_153 5 rfl) rfl
theorem dX4_seenBy_22 : decode cX4_seenBy 22 = .ok (.iload_n 1, 1) := dq_27 (dq_w dwc_153 6 rfl)
theorem dX4_seenBy_23 : decode cX4_seenBy 23 = .ok (.iaload, 1) := dq_46 (dq_w dwc_153 7 rfl)
theorem dX4_seenBy_24 : decode cX4_seenBy 24 = .ok (.invokestatic 93, 3) := dq_184 (dq_w dwc_153 8 rfl) (dq_w dwc_153 9 rfl) (dq_w dwc_153 10 rfl) rfl
theorem dX4_seenBy_27 : decode cX4_seenBy 27 = .ok (.aload_n 0, 1) := dq_42 (dq_w dwc_153 11 rfl)
theorem dX4_seenBy_28 : decode cX4_seenBy 28 = .ok (.iload_n 3, 1) := dq_29 (dq_w dwc_153 12 rfl)
theorem dX4_seenBy_29 : decode cX4_seenBy 29 = .ok (.iload_n 1, 1) := dq_27 (dq_w dwc_153 13 rfl)
theorem dX4_seenBy_30 : decode cX4_seenBy 30 = .ok (.invokevirtual 96, 3) := dq_182 (dq_w dwc_153 14 rfl) (dq_w dwc_153 15 rfl) (dq_w dwc_154 0 rfl) rfl
theorem dX4_seenBy_33 : decode cX4_seenBy 33 = .ok (.if_icmp .gt 9, 3) := dq_163 (dq_w dwc_154 1 rfl) (dq_w dwc_154 2 rfl) (dq_w dwc_154 3 rfl) (dq_p (n := 9) rfl rfl)
theorem dX4_seenBy_36 : decode cX4_seenBy 36 = .ok (.iload_n 2, 1) := dq_28 (dq_w dwc_154 4 rfl)
theorem dX4_seenBy_37 : decode cX4_seenBy 37 = .ok (.iconst 1, 1) := dq_4 (dq_w dwc_154 5 rfl)
theorem dX4_seenBy_38 : decode cX4_seenBy 38 = .ok (.iload_n 3, 1) := dq_29 (dq_w dwc_154 6 rfl)
theorem dX4_seenBy_39 : decode cX4_seenBy 39 = .ok (.ishl, 1) := dq_120 (dq_w dwc_154 7 rfl)
theorem dX4_seenBy_40 : decode cX4_seenBy 40 = .ok (.ior, 1) := dq_128 (dq_w dwc_154 8 rfl)
theorem dX4_seenBy_41 : decode cX4_seenBy 41 = .ok (.istore_n 2, 1) := dq_61 (dq_w dwc_154 9 rfl)
theorem dX4_seenBy_42 : decode cX4_seenBy 42 = .ok (.iinc 3 1, 3) := dq_132 (dq_w dwc_154 10 rfl) (dq_w dwc_154 11 rfl) rfl (dq_w dwc_154 12 rfl) rfl
theorem dX4_seenBy_45 : decode cX4_seenBy 45 = .ok (.goto (-41), 3) := dq_167 (dq_w dwc_154 13 rfl) (dq_w dwc_154 14 rfl) (dq_w dwc_154 15 rfl) (dq_n (m := 41) rfl rfl)
theorem dX4_seenBy_48 : decode cX4_seenBy 48 = .ok (.iload_n 2, 1) := dq_28 (dq_w dwc_155 0 rfl)
theorem dX4_seenBy_49 : decode cX4_seenBy 49 = .ok (.ireturn, 1) := dq_172 (dq_w dwc_155 1 rfl)
theorem dwc_156 : (cX4_placeBehind.data.toList.drop 0).take 16 = [42, 180, 0, 21, 27, 46, 62, 4, 54, 4, 21, 4, 28, 163, 0, 30] := by decide +kernel
theorem dwc_157 : (cX4_placeBehind.data.toList.drop 16).take 16 = [29, 42, 180, 0, 24, 27, 46, 159, 0, 20, 29, 42, 180, 0, 24, 27] := by decide +kernel
theorem dwc_158 : (cX4_placeBehind.data.toList.drop 32).take 16 = [46, 184, 0, 99, 62, 132, 4, 1, 167, 255, 226, 29, 172] := by decide +kernel
theorem dX4_placeBehind_0 : decode cX4_placeBehind 0 = .ok (.aload_n 0, 1) := dq_42 (dq_w dwc_156 0 rfl)
theorem dX4_placeBehind_1 : decode cX4_placeBehind 1 = .ok (.getfield 21, 3) := dq_180 (dq_w dwc_156 1 rfl) (dq_w dwc_156 2 rfl) (dq_w dwc_156 3 rfl) rfl
theorem dX4_placeBehind_4 : decode cX4_placeBehind 4 = .ok (.iload_n 1, 1) := dq_27 (dq_w dwc_156 4 rfl)
theorem dX4_placeBehind_5 : decode cX4_placeBehind 5 = .ok (.iaload, 1) := dq_46 (dq_w dwc_156 5 rfl)
theorem dX4_placeBehind_6 : decode cX4_placeBehind 6 = .ok (.istore_n 3, 1) := dq_62 (dq_w dwc_156 6 rfl)
theorem dX4_placeBehind_7 : decode cX4_placeBehind 7 = .ok (.iconst 1, 1) := dq_4 (dq_w dwc_156 7 rfl)
theorem dX4_placeBehind_8 : decode cX4_placeBehind 8 = .ok (.istore 4, 2) := dq_54 (dq_w dwc_156 8 rfl) (dq_w dwc_156 9 rfl) rfl
theorem dX4_placeBehind_10 : decode cX4_placeBehind 10 = .ok (.iload 4, 2) := dq_21 (dq_w dwc_156 10 rfl) (dq_w dwc_156 11 rfl) rfl
theorem dX4_placeBehind_12 : decode cX4_placeBehind 12 = .ok (.iload_n 2, 1) := dq_28 (dq_w dwc_156 12 rfl)
theorem dX4_placeBehind_13 : decode cX4_placeBehind 13 = .ok (.if_icmp .gt 30, 3) := dq_163 (dq_w dwc_156 13 rfl) (dq_w dwc_156 14 rfl) (dq_w dwc_156 15 rfl) (dq_p (n := 30) rfl rfl)
theorem dX4_placeBehind_16 : decode cX4_placeBehind 16 = .ok (.iload_n 3, 1) := dq_29 (dq_w dwc_157 0 rfl)
theorem dX4_placeBehind_17 : decode cX4_placeBehind 17 = .ok (.aload_n 0, 1) := dq_42 (dq_w dwc_157 1 rfl)
theorem dX4_placeBehind_18 : decode cX4_placeBehind 18 = .ok (.getfield 24, 3) := dq_180 (dq_w dwc_157 2 rfl) (dq_w dwc_157 3 rfl) (dq_w dwc_157 4 rfl) rfl
theorem dX4_placeBehind_21 : decode cX4_placeBehind 21 = .ok (.iload_n 1, 1) := dq_27 (dq_w dwc_157 5 rfl)
theorem dX4_placeBehind_22 : decode cX4_placeBehind 22 = .ok (.iaload, 1) := dq_46 (dq_w dwc_157 6 rfl)
theorem dX4_placeBehind_23 : decode cX4_placeBehind 23 = .ok (.if_icmp .eq 20, 3) := dq_159 (dq_w dwc_157 7 rfl) (dq_w dwc_157 8 rfl) (dq_w dwc_157 9 rfl) (dq_p (n := 20) rfl rfl)
theorem dX4_placeBehind_26 : decode cX4_placeBehind 26 = .ok (.iload_n 3, 1) := dq_29 (dq_w dwc_157 10 rfl)
theorem dX4_placeBehind_27 : decode cX4_placeBehind 27 = .ok (.aload_n 0, 1) := dq_42 (dq_w dwc_157 11 rfl)
theorem dX4_placeBehind_28 : decode cX4_placeBehind 28 = .ok (.getfield 24, 3) := dq_180 (dq_w dwc_157 12 rfl) (dq_w dwc_157 13 rfl) (dq_w dwc_157 14 rfl) rfl
theorem dX4_placeBehind_31 : decode cX4_placeBehind 31 = .ok (.iload_n 1, 1) := dq_27 (dq_w dwc_157 15 rfl)
theorem dX4_placeBehind_32 : decode cX4_placeBehind 32 = .ok (.iaload, 1) := dq_46 (dq_w dwc_158 0 rfl)
theorem dX4_placeBehind_33 : decode cX4_placeBehind 33 = .ok (.invokestatic 99, 3) := dq_184 (dq_w dwc_158 1 rfl) (dq_w dwc_158 2 rfl) (dq_w dwc_158 3 rfl) rfl
theorem dX4_placeBehind_36 : decode cX4_placeBehind 36 = .ok (.istore_n 3, 1) := dq_62 (dq_w dwc_158 4 rfl)
theorem dX4_placeBehind_37 : decode cX4_placeBehind 37 = .ok (.iinc 4 1, 3) := dq_132 (dq_w dwc_158 5 rfl) (dq_w dwc_158 6 rfl) rfl (dq_w dwc_158 7 rfl) rfl
theorem dX4_placeBehind_40 : decode cX4_placeBehind 40 = .ok (.goto (-30), 3) := dq_167 (dq_w dwc_158 8 rfl) (dq_w dwc_158 9 rfl) (dq_w dwc_158 10 rfl) (dq_n (m := 30) rfl rfl)
theorem dX4_placeBehind_43 : decode cX4_placeBehind 43 = .ok (.iload_n 3, 1) := dq_29 (dq_w dwc_158 11 rfl)
theorem dX4_placeBehind_44 : decode cX4_placeBehind 44 = .ok (.ireturn, 1) := dq_172 (dq_w dwc_158 12 rfl)
theorem dwc_159 : (cX4_firstSighting.data.toList.drop 0).take 16 = [42, 27, 28, 182, 0, 96, 54, 4, 21, 4, 156, 0, 6, 16, 247, 172] := by decide +kernel
theorem dwc_160 : (cX4_firstSighting.data.toList.drop 16).take 16 = [42, 180, 0, 21, 27, 46, 54, 5, 4, 54, 6, 21, 6, 29, 163, 0] := by decide +kernel
theorem dwc_161 : (cX4_firstSighting.data.toList.drop 32).take 16 = [55, 21, 5, 42, 180, 0, 24, 27, 46, 184, 0, 99, 54, 5, 21, 5] := by decide +kernel
theorem dwc_162 : (cX4_firstSighting.data.toList.drop 48).take 16 = [42, 180, 0, 18, 28, 46, 184, 0, 93, 21, 4, 163, 0, 6, 21, 6] := by decide +kernel
theorem dwc_163 : (cX4_firstSighting.data.toList.drop 64).take 16 = [172, 21, 5, 42, 180, 0, 24, 27, 46, 160, 0, 6, 16, 247, 172, 132] := by decide +kernel
theorem dwc_164 : (cX4_firstSighting.data.toList.drop 80).take 16 = [6, 1, 167, 255, 201, 16, 247, 172] := by decide +kernel
theorem dX4_firstSighting_0 : decode cX4_firstSighting 0 = .ok (.aload_n 0, 1) := dq_42 (dq_w dwc_159 0 rfl)
theorem dX4_firstSighting_1 : decode cX4_firstSighting 1 = .ok (.iload_n 1, 1) := dq_27 (dq_w dwc_159 1 rfl)
theorem dX4_firstSighting_2 : decode cX4_firstSighting 2 = .ok (.iload_n 2, 1) := dq_28 (dq_w dwc_159 2 rfl)
theorem dX4_firstSighting_3 : decode cX4_firstSighting 3 = .ok (.invokevirtual 96, 3) := dq_182 (dq_w dwc_159 3 rfl) (dq_w dwc_159 4 rfl) (dq_w dwc_159 5 rfl) rfl
theorem dX4_firstSighting_6 : decode cX4_firstSighting 6 = .ok (.istore 4, 2) := dq_54 (dq_w dwc_159 6 rfl) (dq_w dwc_159 7 rfl) rfl
theorem dX4_firstSighting_8 : decode cX4_firstSighting 8 = .ok (.iload 4, 2) := dq_21 (dq_w dwc_159 8 rfl) (dq_w dwc_159 9 rfl) rfl
theorem dX4_firstSighting_10 : decode cX4_firstSighting 10 = .ok (.ifCond .ge 6, 3) := dq_156 (dq_w dwc_159 10 rfl) (dq_w dwc_159 11 rfl) (dq_w dwc_159 12 rfl) (dq_p (n := 6) rfl rfl)
theorem dX4_firstSighting_13 : decode cX4_firstSighting 13 = .ok (.bipush (-9), 2) := dq_16 (dq_w dwc_159 13 rfl) (dq_w dwc_159 14 rfl) rfl
theorem dX4_firstSighting_15 : decode cX4_firstSighting 15 = .ok (.ireturn, 1) := dq_172 (dq_w dwc_159 15 rfl)
theorem dX4_firstSighting_16 : decode cX4_firstSighting 16 = .ok (.aload_n 0, 1) := dq_42 (dq_w dwc_160 0 rfl)
theorem dX4_firstSighting_17 : decode cX4_firstSighting 17 = .ok (.getfield 21, 3) := dq_180 (dq_w dwc_160 1 rfl) (dq_w dwc_160 2 rfl) (dq_w dwc_160 3 rfl) rfl
theorem dX4_firstSighting_20 : decode cX4_firstSighting 20 = .ok (.iload_n 1, 1) := dq_27 (dq_w dwc_160 4 rfl)
theorem dX4_firstSighting_21 : decode cX4_firstSighting 21 = .ok (.iaload, 1) := dq_46 (dq_w dwc_160 5 rfl)
theorem dX4_firstSighting_22 : decode cX4_firstSighting 22 = .ok (.istore 5, 2) := dq_54 (dq_w dwc_160 6 rfl) (dq_w dwc_160 7 rfl) rfl
theorem dX4_firstSighting_24 : decode cX4_firstSighting 24 = .ok (.iconst 1, 1) := dq_4 (dq_w dwc_160 8 rfl)
theorem dX4_firstSighting_25 : decode cX4_firstSighting 25 = .ok (.istore 6, 2) := dq_54 (dq_w dwc_160 9 rfl) (dq_w dwc_160 10 rfl) rfl
theorem dX4_firstSighting_27 : decode cX4_firstSighting 27 = .ok (.iload 6, 2) := dq_21 (dq_w dwc_160 11 rfl) (dq_w dwc_160 12 rfl) rfl
theorem dX4_firstSighting_29 : decode cX4_firstSighting 29 = .ok (.iload_n 3, 1) := dq_29 (dq_w dwc_160 13 rfl)
theorem dX4_firstSighting_30 : decode cX4_firstSighting 30 = .ok (.if_icmp .gt 55, 3) := dq_163 (dq_w dwc_160 14 rfl) (dq_w dwc_160 15 rfl) (dq_w dwc_161 0 rfl) (dq_p (n := 55) rfl rfl)
theorem dX4_firstSighting_33 : decode cX4_firstSighting 33 = .ok (.iload 5, 2) := dq_21 (dq_w dwc_161 1 rfl) (dq_w dwc_161 2 rfl) rfl
theorem dX4_firstSighting_35 : decode cX4_firstSighting 35 = .ok (.aload_n 0, 1) := dq_42 (dq_w dwc_161 3 rfl)
theorem dX4_firstSighting_36 : decode cX4_firstSighting 36 = .ok (.getfield 24, 3) := dq_180 (dq_w dwc_161 4 rfl) (dq_w dwc_161 5 rfl) (dq_w dwc_161 6 rfl) rfl
theorem dX4_firstSighting_39 : decode cX4_firstSighting 39 = .ok (.iload_n 1, 1) := dq_27 (dq_w dwc_161 7 rfl)
theorem dX4_firstSighting_40 : decode cX4_firstSighting 40 = .ok (.iaload, 1) := dq_46 (dq_w dwc_161 8 rfl)
theorem dX4_firstSighting_41 : decode cX4_firstSighting 41 = .ok (.invokestatic 99, 3) := dq_184 (dq_w dwc_161 9 rfl) (dq_w dwc_161 10 rfl) (dq_w dwc_161 11 rfl) rfl
theorem dX4_firstSighting_44 : decode cX4_firstSighting 44 = .ok (.istore 5, 2) := dq_54 (dq_w dwc_161 12 rfl) (dq_w dwc_161 13 rfl) rfl
theorem dX4_firstSighting_46 : decode cX4_firstSighting 46 = .ok (.iload 5, 2) := dq_21 (dq_w dwc_161 14 rfl) (dq_w dwc_161 15 rfl) rfl
theorem dX4_firstSighting_48 : decode cX4_firstSighting 48 = .ok (.aload_n 0, 1) := dq_42 (dq_w dwc_162 0 rfl)
theorem dX4_firstSighting_49 : decode cX4_firstSighting 49 = .ok (.getfield 18, 3) := dq_180 (dq_w dwc_162 1 rfl) (dq_w dwc_162 2 rfl) (dq_w dwc_162 3 rfl) rfl
theorem dX4_firstSighting_52 : decode cX4_firstSighting 52 = .ok (.iload_n 2, 1) := dq_28 (dq_w dwc_162 4 rfl)
theorem dX4_firstSighting_53 : decode cX4_firstSighting 53 = .ok (.iaload, 1) := dq_46 (dq_w dwc_162 5 rfl)
theorem dX4_firstSighting_54 : decode cX4_firstSighting 54 = .ok (.invokestatic 93, 3) := dq_184 (dq_w dwc_162 6 rfl) (dq_w dwc_162 7 rfl) (dq_w dwc_162 8 rfl) rfl
theorem dX4_firstSighting_57 : decode cX4_firstSighting 57 = .ok (.iload 4, 2) := dq_21 (dq_w dwc_162 9 rfl) (dq_w dwc_162 10 rfl) rfl
theorem dX4_firstSighting_59 : decode cX4_firstSighting 59 = .ok (.if_icmp .gt 6, 3) := dq_163 (dq_w dwc_162 11 rfl) (dq_w dwc_162 12 rfl) (dq_w dwc_162 13 rfl) (dq_p (n := 6) rfl rfl)
theorem dX4_firstSighting_62 : decode cX4_firstSighting 62 = .ok (.iload 6, 2) := dq_21 (dq_w dwc_162 14 rfl) (dq_w dwc_162 15 rfl) rfl
theorem dX4_firstSighting_64 : decode cX4_firstSighting 64 = .ok (.ireturn, 1) := dq_172 (dq_w dwc_163 0 rfl)
theorem dX4_firstSighting_65 : decode cX4_firstSighting 65 = .ok (.iload 5, 2) := dq_21 (dq_w dwc_163 1 rfl) (dq_w dwc_163 2 rfl) rfl
theorem dX4_firstSighting_67 : decode cX4_firstSighting 67 = .ok (.aload_n 0, 1) := dq_42 (dq_w dwc_163 3 rfl)
theorem dX4_firstSighting_68 : decode cX4_firstSighting 68 = .ok (.getfield 24, 3) := dq_180 (dq_w dwc_163 4 rfl) (dq_w dwc_163 5 rfl) (dq_w dwc_163 6 rfl) rfl
theorem dX4_firstSighting_71 : decode cX4_firstSighting 71 = .ok (.iload_n 1, 1) := dq_27 (dq_w dwc_163 7 rfl)
theorem dX4_firstSighting_72 : decode cX4_firstSighting 72 = .ok (.iaload, 1) := dq_46 (dq_w dwc_163 8 rfl)
theorem dX4_firstSighting_73 : decode cX4_firstSighting 73 = .ok (.if_icmp .ne 6, 3) := dq_160 (dq_w dwc_163 9 rfl) (dq_w dwc_163 10 rfl) (dq_w dwc_163 11 rfl) (dq_p (n := 6) rfl rfl)
theorem dX4_firstSighting_76 : decode cX4_firstSighting 76 = .ok (.bipush (-9), 2) := dq_16 (dq_w dwc_163 12 rfl) (dq_w dwc_163 13 rfl) rfl
theorem dX4_firstSighting_78 : decode cX4_firstSighting 78 = .ok (.ireturn, 1) := dq_172 (dq_w dwc_163 14 rfl)
theorem dX4_firstSighting_79 : decode cX4_firstSighting 79 = .ok (.iinc 6 1, 3) := dq_132 (dq_w dwc_163 15 rfl) (dq_w dwc_164 0 rfl) rfl (dq_w dwc_164 1 rfl) rfl
theorem dX4_firstSighting_82 : decode cX4_firstSighting 82 = .ok (.goto (-55), 3) := dq_167 (dq_w dwc_164 2 rfl) (dq_w dwc_164 3 rfl) (dq_w dwc_164 4 rfl) (dq_n (m := 55) rfl rfl)
theorem dX4_firstSighting_85 : decode cX4_firstSighting 85 = .ok (.bipush (-9), 2) := dq_16 (dq_w dwc_164 5 rfl) (dq_w dwc_164 6 rfl) rfl
theorem dX4_firstSighting_87 : decode cX4_firstSighting 87 = .ok (.ireturn, 1) := dq_172 (dq_w dwc_164 7 rfl)
theorem dwc_165 : (cX4_sightings.data.toList.drop 0).take 16 = [3, 54, 4, 4, 54, 5, 21, 5, 29, 163, 0, 37, 42, 27, 21, 5] := by decide +kernel
theorem dwc_166 : (cX4_sightings.data.toList.drop 16).take 16 = [182, 0, 80, 42, 180, 0, 18, 28, 46, 184, 0, 93, 42, 27, 28, 182] := by decide +kernel
theorem dwc_167 : (cX4_sightings.data.toList.drop 32).take 16 = [0, 96, 163, 0, 6, 132, 4, 1, 132, 5, 1, 167, 255, 219, 21, 4] := by decide +kernel
theorem dwc_168 : (cX4_sightings.data.toList.drop 48).take 16 = [172] := by decide +kernel
theorem dX4_sightings_0 : decode cX4_sightings 0 = .ok (.iconst 0, 1) := dq_3 (dq_w dwc_165 0 rfl)
theorem dX4_sightings_1 : decode cX4_sightings 1 = .ok (.istore 4, 2) := dq_54 (dq_w dwc_165 1 rfl) (dq_w dwc_165 2 rfl) rfl
theorem dX4_sightings_3 : decode cX4_sightings 3 = .ok (.iconst 1, 1) := dq_4 (dq_w dwc_165 3 rfl)
theorem dX4_sightings_4 : decode cX4_sightings 4 = .ok (.istore 5, 2) := dq_54 (dq_w dwc_165 4 rfl) (dq_w dwc_165 5 rfl) rfl
theorem dX4_sightings_6 : decode cX4_sightings 6 = .ok (.iload 5, 2) := dq_21 (dq_w dwc_165 6 rfl) (dq_w dwc_165 7 rfl) rfl
theorem dX4_sightings_8 : decode cX4_sightings 8 = .ok (.iload_n 3, 1) := dq_29 (dq_w dwc_165 8 rfl)
theorem dX4_sightings_9 : decode cX4_sightings 9 = .ok (.if_icmp .gt 37, 3) := dq_163 (dq_w dwc_165 9 rfl) (dq_w dwc_165 10 rfl) (dq_w dwc_165 11 rfl) (dq_p (n := 37) rfl rfl)
theorem dX4_sightings_12 : decode cX4_sightings 12 = .ok (.aload_n 0, 1) := dq_42 (dq_w dwc_165 12 rfl)
theorem dX4_sightings_13 : decode cX4_sightings 13 = .ok (.iload_n 1, 1) := dq_27 (dq_w dwc_165 13 rfl)
theorem dX4_sightings_14 : decode cX4_sightings 14 = .ok (.iload 5, 2) := dq_21 (dq_w dwc_165 14 rfl) (dq_w dwc_165 15 rfl) rfl
theorem dX4_sightings_16 : decode cX4_sightings 16 = .ok (.invokevirtual 80, 3) := dq_182 (dq_w dwc_166 0 rfl) (dq_w dwc_166 1 rfl) (dq_w dwc_166 2 rfl) rfl
theorem dX4_sightings_19 : decode cX4_sightings 19 = .ok (.aload_n 0, 1) := dq_42 (dq_w dwc_166 3 rfl)
theorem dX4_sightings_20 : decode cX4_sightings 20 = .ok (.getfield 18, 3) := dq_180 (dq_w dwc_166 4 rfl) (dq_w dwc_166 5 rfl) (dq_w dwc_166 6 rfl) rfl
theorem dX4_sightings_23 : decode cX4_sightings 23 = .ok (.iload_n 2, 1) := dq_28 (dq_w dwc_166 7 rfl)
theorem dX4_sightings_24 : decode cX4_sightings 24 = .ok (.iaload, 1) := dq_46 (dq_w dwc_166 8 rfl)
theorem dX4_sightings_25 : decode cX4_sightings 25 = .ok (.invokestatic 93, 3) := dq_184 (dq_w dwc_166 9 rfl) (dq_w dwc_166 10 rfl) (dq_w dwc_166 11 rfl) rfl
theorem dX4_sightings_28 : decode cX4_sightings 28 = .ok (.aload_n 0, 1) := dq_42 (dq_w dwc_166 12 rfl)
theorem dX4_sightings_29 : decode cX4_sightings 29 = .ok (.iload_n 1, 1) := dq_27 (dq_w dwc_166 13 rfl)
theorem dX4_sightings_30 : decode cX4_sightings 30 = .ok (.iload_n 2, 1) := dq_28 (dq_w dwc_166 14 rfl)
theorem dX4_sightings_31 : decode cX4_sightings 31 = .ok (.invokevirtual 96, 3) := dq_182 (dq_w dwc_166 15 rfl) (dq_w dwc_167 0 rfl) (dq_w dwc_167 1 rfl) rfl
theorem dX4_sightings_34 : decode cX4_sightings 34 = .ok (.if_icmp .gt 6, 3) := dq_163 (dq_w dwc_167 2 rfl) (dq_w dwc_167 3 rfl) (dq_w dwc_167 4 rfl) (dq_p (n := 6) rfl rfl)
theorem dX4_sightings_37 : decode cX4_sightings 37 = .ok (.iinc 4 1, 3) := dq_132 (dq_w dwc_167 5 rfl) (dq_w dwc_167 6 rfl) rfl (dq_w dwc_167 7 rfl) rfl
theorem dX4_sightings_40 : decode cX4_sightings 40 = .ok (.iinc 5 1, 3) := dq_132 (dq_w dwc_167 8 rfl) (dq_w dwc_167 9 rfl) rfl (dq_w dwc_167 10 rfl) rfl
theorem dX4_sightings_43 : decode cX4_sightings 43 = .ok (.goto (-37), 3) := dq_167 (dq_w dwc_167 11 rfl) (dq_w dwc_167 12 rfl) (dq_w dwc_167 13 rfl) (dq_n (m := 37) rfl rfl)
theorem dX4_sightings_46 : decode cX4_sightings 46 = .ok (.iload 4, 2) := dq_21 (dq_w dwc_167 14 rfl) (dq_w dwc_167 15 rfl) rfl
theorem dX4_sightings_48 : decode cX4_sightings 48 = .ok (.ireturn, 1) := dq_172 (dq_w dwc_168 0 rfl)
theorem dwc_169 : (cX4_ageBehind.data.toList.drop 0).take 16 = [42, 180, 0, 30, 27, 16, 8, 104, 28, 96, 46, 54, 4, 21, 4, 2] := by decide +kernel
theorem dwc_170 : (cX4_ageBehind.data.toList.drop 16).take 16 = [159, 0, 13, 16, 99, 21, 4, 29, 96, 184, 0, 102, 172, 42, 27, 28] := by decide +kernel
theorem dwc_171 : (cX4_ageBehind.data.toList.drop 32).take 16 = [29, 182, 0, 107, 54, 5, 21, 5, 158, 0, 10, 29, 21, 5, 100, 167] := by decide +kernel
theorem dwc_172 : (cX4_ageBehind.data.toList.drop 48).take 16 = [0, 4, 2, 172] := by decide +kernel
theorem dX4_ageBehind_0 : decode cX4_ageBehind 0 = .ok (.aload_n 0, 1) := dq_42 (dq_w dwc_169 0 rfl)
theorem dX4_ageBehind_1 : decode cX4_ageBehind 1 = .ok (.getfield 30, 3) := dq_180 (dq_w dwc_169 1 rfl) (dq_w dwc_169 2 rfl) (dq_w dwc_169 3 rfl) rfl
theorem dX4_ageBehind_4 : decode cX4_ageBehind 4 = .ok (.iload_n 1, 1) := dq_27 (dq_w dwc_169 4 rfl)
theorem dX4_ageBehind_5 : decode cX4_ageBehind 5 = .ok (.bipush 8, 2) := dq_16 (dq_w dwc_169 5 rfl) (dq_w dwc_169 6 rfl) rfl
theorem dX4_ageBehind_7 : decode cX4_ageBehind 7 = .ok (.imul, 1) := dq_104 (dq_w dwc_169 7 rfl)
theorem dX4_ageBehind_8 : decode cX4_ageBehind 8 = .ok (.iload_n 2, 1) := dq_28 (dq_w dwc_169 8 rfl)
theorem dX4_ageBehind_9 : decode cX4_ageBehind 9 = .ok (.iadd, 1) := dq_96 (dq_w dwc_169 9 rfl)
theorem dX4_ageBehind_10 : decode cX4_ageBehind 10 = .ok (.iaload, 1) := dq_46 (dq_w dwc_169 10 rfl)
theorem dX4_ageBehind_11 : decode cX4_ageBehind 11 = .ok (.istore 4, 2) := dq_54 (dq_w dwc_169 11 rfl) (dq_w dwc_169 12 rfl) rfl
theorem dX4_ageBehind_13 : decode cX4_ageBehind 13 = .ok (.iload 4, 2) := dq_21 (dq_w dwc_169 13 rfl) (dq_w dwc_169 14 rfl) rfl
theorem dX4_ageBehind_15 : decode cX4_ageBehind 15 = .ok (.iconst (-1), 1) := dq_2 (dq_w dwc_169 15 rfl)
theorem dX4_ageBehind_16 : decode cX4_ageBehind 16 = .ok (.if_icmp .eq 13, 3) := dq_159 (dq_w dwc_170 0 rfl) (dq_w dwc_170 1 rfl) (dq_w dwc_170 2 rfl) (dq_p (n := 13) rfl rfl)
theorem dX4_ageBehind_19 : decode cX4_ageBehind 19 = .ok (.bipush 99, 2) := dq_16 (dq_w dwc_170 3 rfl) (dq_w dwc_170 4 rfl) rfl
theorem dX4_ageBehind_21 : decode cX4_ageBehind 21 = .ok (.iload 4, 2) := dq_21 (dq_w dwc_170 5 rfl) (dq_w dwc_170 6 rfl) rfl
theorem dX4_ageBehind_23 : decode cX4_ageBehind 23 = .ok (.iload_n 3, 1) := dq_29 (dq_w dwc_170 7 rfl)
theorem dX4_ageBehind_24 : decode cX4_ageBehind 24 = .ok (.iadd, 1) := dq_96 (dq_w dwc_170 8 rfl)
theorem dX4_ageBehind_25 : decode cX4_ageBehind 25 = .ok (.invokestatic 102, 3) := dq_184 (dq_w dwc_170 9 rfl) (dq_w dwc_170 10 rfl) (dq_w dwc_170 11 rfl) rfl
theorem dX4_ageBehind_28 : decode cX4_ageBehind 28 = .ok (.ireturn, 1) := dq_172 (dq_w dwc_170 12 rfl)
theorem dX4_ageBehind_29 : decode cX4_ageBehind 29 = .ok (.aload_n 0, 1) := dq_42 (dq_w dwc_170 13 rfl)
theorem dX4_ageBehind_30 : decode cX4_ageBehind 30 = .ok (.iload_n 1, 1) := dq_27 (dq_w dwc_170 14 rfl)
theorem dX4_ageBehind_31 : decode cX4_ageBehind 31 = .ok (.iload_n 2, 1) := dq_28 (dq_w dwc_170 15 rfl)
theorem dX4_ageBehind_32 : decode cX4_ageBehind 32 = .ok (.iload_n 3, 1) := dq_29 (dq_w dwc_171 0 rfl)
theorem dX4_ageBehind_33 : decode cX4_ageBehind 33 = .ok (.invokevirtual 107, 3) := dq_182 (dq_w dwc_171 1 rfl) (dq_w dwc_171 2 rfl) (dq_w dwc_171 3 rfl) rfl
theorem dX4_ageBehind_36 : decode cX4_ageBehind 36 = .ok (.istore 5, 2) := dq_54 (dq_w dwc_171 4 rfl) (dq_w dwc_171 5 rfl) rfl
theorem dX4_ageBehind_38 : decode cX4_ageBehind 38 = .ok (.iload 5, 2) := dq_21 (dq_w dwc_171 6 rfl) (dq_w dwc_171 7 rfl) rfl
theorem dX4_ageBehind_40 : decode cX4_ageBehind 40 = .ok (.ifCond .le 10, 3) := dq_158 (dq_w dwc_171 8 rfl) (dq_w dwc_171 9 rfl) (dq_w dwc_171 10 rfl) (dq_p (n := 10) rfl rfl)
theorem dX4_ageBehind_43 : decode cX4_ageBehind 43 = .ok (.iload_n 3, 1) := dq_29 (dq_w dwc_171 11 rfl)
theorem dX4_ageBehind_44 : decode cX4_ageBehind 44 = .ok (.iload 5, 2) := dq_21 (dq_w dwc_171 12 rfl) (dq_w dwc_171 13 rfl) rfl
theorem dX4_ageBehind_46 : decode cX4_ageBehind 46 = .ok (.isub, 1) := dq_100 (dq_w dwc_171 14 rfl)
theorem dX4_ageBehind_47 : decode cX4_ageBehind 47 = .ok (.goto 4, 3) := dq_167 (dq_w dwc_171 15 rfl) (dq_w dwc_172 0 rfl) (dq_w dwc_172 1 rfl) (dq_p (n := 4) rfl rfl)
theorem dX4_ageBehind_50 : decode cX4_ageBehind 50 = .ok (.iconst (-1), 1) := dq_2 (dq_w dwc_172 2 rfl)
theorem dX4_ageBehind_51 : decode cX4_ageBehind 51 = .ok (.ireturn, 1) := dq_172 (dq_w dwc_172 3 rfl)
theorem dwc_173 : (cX4_minutesBehind.data.toList.drop 0).take 16 = [42, 27, 28, 29, 182, 0, 76, 54, 4, 21, 4, 2, 160, 0, 7, 3] := by decide +kernel
theorem dwc_174 : (cX4_minutesBehind.data.toList.drop 16).take 16 = [167, 0, 10, 42, 28, 21, 4, 182, 0, 110, 172] := by decide +kernel
theorem dX4_minutesBehind_0 : decode cX4_minutesBehind 0 = .ok (.aload_n 0, 1) := dq_42 (dq_w dwc_173 0 rfl)
theorem dX4_minutesBehind_1 : decode cX4_minutesBehind 1 = .ok (.iload_n 1, 1) := dq_27 (dq_w dwc_173 1 rfl)
theorem dX4_minutesBehind_2 : decode cX4_minutesBehind 2 = .ok (.iload_n 2, 1) := dq_28 (dq_w dwc_173 2 rfl)
theorem dX4_minutesBehind_3 : decode cX4_minutesBehind 3 = .ok (.iload_n 3, 1) := dq_29 (dq_w dwc_173 3 rfl)
theorem dX4_minutesBehind_4 : decode cX4_minutesBehind 4 = .ok (.invokevirtual 76, 3) := dq_182 (dq_w dwc_173 4 rfl) (dq_w dwc_173 5 rfl) (dq_w dwc_173 6 rfl) rfl
theorem dX4_minutesBehind_7 : decode cX4_minutesBehind 7 = .ok (.istore 4, 2) := dq_54 (dq_w dwc_173 7 rfl) (dq_w dwc_173 8 rfl) rfl
theorem dX4_minutesBehind_9 : decode cX4_minutesBehind 9 = .ok (.iload 4, 2) := dq_21 (dq_w dwc_173 9 rfl) (dq_w dwc_173 10 rfl) rfl
theorem dX4_minutesBehind_11 : decode cX4_minutesBehind 11 = .ok (.iconst (-1), 1) := dq_2 (dq_w dwc_173 11 rfl)
theorem dX4_minutesBehind_12 : decode cX4_minutesBehind 12 = .ok (.if_icmp .ne 7, 3) := dq_160 (dq_w dwc_173 12 rfl) (dq_w dwc_173 13 rfl) (dq_w dwc_173 14 rfl) (dq_p (n := 7) rfl rfl)
theorem dX4_minutesBehind_15 : decode cX4_minutesBehind 15 = .ok (.iconst 0, 1) := dq_3 (dq_w dwc_173 15 rfl)
theorem dX4_minutesBehind_16 : decode cX4_minutesBehind 16 = .ok (.goto 10, 3) := dq_167 (dq_w dwc_174 0 rfl) (dq_w dwc_174 1 rfl) (dq_w dwc_174 2 rfl) (dq_p (n := 10) rfl rfl)
theorem dX4_minutesBehind_19 : decode cX4_minutesBehind 19 = .ok (.aload_n 0, 1) := dq_42 (dq_w dwc_174 3 rfl)
theorem dX4_minutesBehind_20 : decode cX4_minutesBehind 20 = .ok (.iload_n 2, 1) := dq_28 (dq_w dwc_174 4 rfl)
theorem dX4_minutesBehind_21 : decode cX4_minutesBehind 21 = .ok (.iload 4, 2) := dq_21 (dq_w dwc_174 5 rfl) (dq_w dwc_174 6 rfl) rfl
theorem dX4_minutesBehind_23 : decode cX4_minutesBehind 23 = .ok (.invokevirtual 110, 3) := dq_182 (dq_w dwc_174 7 rfl) (dq_w dwc_174 8 rfl) (dq_w dwc_174 9 rfl) rfl
theorem dX4_minutesBehind_26 : decode cX4_minutesBehind 26 = .ok (.ireturn, 1) := dq_172 (dq_w dwc_174 10 rfl)
theorem dwc_175 : (cX4_priceBehind.data.toList.drop 0).take 16 = [3, 62, 3, 54, 4, 21, 4, 42, 180, 0, 39, 162, 0, 20, 29, 42] := by decide +kernel
theorem dwc_176 : (cX4_priceBehind.data.toList.drop 16).take 16 = [27, 21, 4, 28, 182, 0, 113, 96, 62, 132, 4, 1, 167, 255, 233, 29] := by decide +kernel
theorem dwc_177 : (cX4_priceBehind.data.toList.drop 32).take 16 = [172] := by decide +kernel
theorem dX4_priceBehind_0 : decode cX4_priceBehind 0 = .ok (.iconst 0, 1) := dq_3 (dq_w dwc_175 0 rfl)
theorem dX4_priceBehind_1 : decode cX4_priceBehind 1 = .ok (.istore_n 3, 1) := dq_62 (dq_w dwc_175 1 rfl)
theorem dX4_priceBehind_2 : decode cX4_priceBehind 2 = .ok (.iconst 0, 1) := dq_3 (dq_w dwc_175 2 rfl)
theorem dX4_priceBehind_3 : decode cX4_priceBehind 3 = .ok (.istore 4, 2) := dq_54 (dq_w dwc_175 3 rfl) (dq_w dwc_175 4 rfl) rfl
theorem dX4_priceBehind_5 : decode cX4_priceBehind 5 = .ok (.iload 4, 2) := dq_21 (dq_w dwc_175 5 rfl) (dq_w dwc_175 6 rfl) rfl
theorem dX4_priceBehind_7 : decode cX4_priceBehind 7 = .ok (.aload_n 0, 1) := dq_42 (dq_w dwc_175 7 rfl)
theorem dX4_priceBehind_8 : decode cX4_priceBehind 8 = .ok (.getfield 39, 3) := dq_180 (dq_w dwc_175 8 rfl) (dq_w dwc_175 9 rfl) (dq_w dwc_175 10 rfl) rfl
theorem dX4_priceBehind_11 : decode cX4_priceBehind 11 = .ok (.if_icmp .ge 20, 3) := dq_162 (dq_w dwc_175 11 rfl) (dq_w dwc_175 12 rfl) (dq_w dwc_175 13 rfl) (dq_p (n := 20) rfl rfl)
theorem dX4_priceBehind_14 : decode cX4_priceBehind 14 = .ok (.iload_n 3, 1) := dq_29 (dq_w dwc_175 14 rfl)
theorem dX4_priceBehind_15 : decode cX4_priceBehind 15 = .ok (.aload_n 0, 1) := dq_42 (dq_w dwc_175 15 rfl)
theorem dX4_priceBehind_16 : decode cX4_priceBehind 16 = .ok (.iload_n 1, 1) := dq_27 (dq_w dwc_176 0 rfl)
theorem dX4_priceBehind_17 : decode cX4_priceBehind 17 = .ok (.iload 4, 2) := dq_21 (dq_w dwc_176 1 rfl) (dq_w dwc_176 2 rfl) rfl
theorem dX4_priceBehind_19 : decode cX4_priceBehind 19 = .ok (.iload_n 2, 1) := dq_28 (dq_w dwc_176 3 rfl)
theorem dX4_priceBehind_20 : decode cX4_priceBehind 20 = .ok (.invokevirtual 113, 3) := dq_182 (dq_w dwc_176 4 rfl) (dq_w dwc_176 5 rfl) (dq_w dwc_176 6 rfl) rfl
theorem dX4_priceBehind_23 : decode cX4_priceBehind 23 = .ok (.iadd, 1) := dq_96 (dq_w dwc_176 7 rfl)
theorem dX4_priceBehind_24 : decode cX4_priceBehind 24 = .ok (.istore_n 3, 1) := dq_62 (dq_w dwc_176 8 rfl)
theorem dX4_priceBehind_25 : decode cX4_priceBehind 25 = .ok (.iinc 4 1, 3) := dq_132 (dq_w dwc_176 9 rfl) (dq_w dwc_176 10 rfl) rfl (dq_w dwc_176 11 rfl) rfl
theorem dX4_priceBehind_28 : decode cX4_priceBehind 28 = .ok (.goto (-23), 3) := dq_167 (dq_w dwc_176 12 rfl) (dq_w dwc_176 13 rfl) (dq_w dwc_176 14 rfl) (dq_n (m := 23) rfl rfl)
theorem dX4_priceBehind_31 : decode cX4_priceBehind 31 = .ok (.iload_n 3, 1) := dq_29 (dq_w dwc_176 15 rfl)
theorem dX4_priceBehind_32 : decode cX4_priceBehind 32 = .ok (.ireturn, 1) := dq_172 (dq_w dwc_177 0 rfl)
theorem dwc_178 : (cX4_pricesBehind.data.toList.drop 0).take 16 = [3, 61, 3, 62, 29, 42, 180, 0, 52, 162, 0, 38, 3, 54, 4, 21] := by decide +kernel
theorem dwc_179 : (cX4_pricesBehind.data.toList.drop 16).take 16 = [4, 42, 180, 0, 39, 162, 0, 20, 28, 42, 29, 21, 4, 27, 182, 0] := by decide +kernel
theorem dwc_180 : (cX4_pricesBehind.data.toList.drop 32).take 16 = [113, 96, 61, 132, 4, 1, 167, 255, 233, 132, 3, 1, 167, 255, 216, 28] := by decide +kernel
theorem dwc_181 : (cX4_pricesBehind.data.toList.drop 48).take 16 = [172] := by decide +kernel
theorem dX4_pricesBehind_0 : decode cX4_pricesBehind 0 = .ok (.iconst 0, 1) := dq_3 (dq_w dwc_178 0 rfl)
theorem dX4_pricesBehind_1 : decode cX4_pricesBehind 1 = .ok (.istore_n 2, 1) := dq_61 (dq_w dwc_178 1 rfl)
theorem dX4_pricesBehind_2 : decode cX4_pricesBehind 2 = .ok (.iconst 0, 1) := dq_3 (dq_w dwc_178 2 rfl)
theorem dX4_pricesBehind_3 : decode cX4_pricesBehind 3 = .ok (.istore_n 3, 1) := dq_62 (dq_w dwc_178 3 rfl)
theorem dX4_pricesBehind_4 : decode cX4_pricesBehind 4 = .ok (.iload_n 3, 1) := dq_29 (dq_w dwc_178 4 rfl)
theorem dX4_pricesBehind_5 : decode cX4_pricesBehind 5 = .ok (.aload_n 0, 1) := dq_42 (dq_w dwc_178 5 rfl)
theorem dX4_pricesBehind_6 : decode cX4_pricesBehind 6 = .ok (.getfield 52, 3) := dq_180 (dq_w dwc_178 6 rfl) (dq_w dwc_178 7 rfl) (dq_w dwc_178 8 rfl) rfl
theorem dX4_pricesBehind_9 : decode cX4_pricesBehind 9 = .ok (.if_icmp .ge 38, 3) := dq_162 (dq_w dwc_178 9 rfl) (dq_w dwc_178 10 rfl) (dq_w dwc_178 11 rfl) (dq_p (n := 38) rfl rfl)
theorem dX4_pricesBehind_12 : decode cX4_pricesBehind 12 = .ok (.iconst 0, 1) := dq_3 (dq_w dwc_178 12 rfl)
theorem dX4_pricesBehind_13 : decode cX4_pricesBehind 13 = .ok (.istore 4, 2) := dq_54 (dq_w dwc_178 13 rfl) (dq_w dwc_178 14 rfl) rfl
theorem dX4_pricesBehind_15 : decode cX4_pricesBehind 15 = .ok (.iload 4, 2) := dq_21 (dq_w dwc_178 15 rfl) (dq_w dwc_179 0 rfl) rfl
theorem dX4_pricesBehind_17 : decode cX4_pricesBehind 17 = .ok (.aload_n 0, 1) := dq_42 (dq_w dwc_179 1 rfl)
theorem dX4_pricesBehind_18 : decode cX4_pricesBehind 18 = .ok (.getfield 39, 3) := dq_180 (dq_w dwc_179 2 rfl) (dq_w dwc_179 3 rfl) (dq_w dwc_179 4 rfl) rfl
theorem dX4_pricesBehind_21 : decode cX4_pricesBehind 21 = .ok (.if_icmp .ge 20, 3) := dq_162 (dq_w dwc_179 5 rfl) (dq_w dwc_179 6 rfl) (dq_w dwc_179 7 rfl) (dq_p (n := 20) rfl rfl)
theorem dX4_pricesBehind_24 : decode cX4_pricesBehind 24 = .ok (.iload_n 2, 1) := dq_28 (dq_w dwc_179 8 rfl)
theorem dX4_pricesBehind_25 : decode cX4_pricesBehind 25 = .ok (.aload_n 0, 1) := dq_42 (dq_w dwc_179 9 rfl)
theorem dX4_pricesBehind_26 : decode cX4_pricesBehind 26 = .ok (.iload_n 3, 1) := dq_29 (dq_w dwc_179 10 rfl)
theorem dX4_pricesBehind_27 : decode cX4_pricesBehind 27 = .ok (.iload 4, 2) := dq_21 (dq_w dwc_179 11 rfl) (dq_w dwc_179 12 rfl) rfl
theorem dX4_pricesBehind_29 : decode cX4_pricesBehind 29 = .ok (.iload_n 1, 1) := dq_27 (dq_w dwc_179 13 rfl)
theorem dX4_pricesBehind_30 : decode cX4_pricesBehind 30 = .ok (.invokevirtual 113, 3) := dq_182 (dq_w dwc_179 14 rfl) (dq_w dwc_179 15 rfl) (dq_w dwc_180 0 rfl) rfl
theorem dX4_pricesBehind_33 : decode cX4_pricesBehind 33 = .ok (.iadd, 1) := dq_96 (dq_w dwc_180 1 rfl)
theorem dX4_pricesBehind_34 : decode cX4_pricesBehind 34 = .ok (.istore_n 2, 1) := dq_61 (dq_w dwc_180 2 rfl)
theorem dX4_pricesBehind_35 : decode cX4_pricesBehind 35 = .ok (.iinc 4 1, 3) := dq_132 (dq_w dwc_180 3 rfl) (dq_w dwc_180 4 rfl) rfl (dq_w dwc_180 5 rfl) rfl
theorem dX4_pricesBehind_38 : decode cX4_pricesBehind 38 = .ok (.goto (-23), 3) := dq_167 (dq_w dwc_180 6 rfl) (dq_w dwc_180 7 rfl) (dq_w dwc_180 8 rfl) (dq_n (m := 23) rfl rfl)
theorem dX4_pricesBehind_41 : decode cX4_pricesBehind 41 = .ok (.iinc 3 1, 3) := dq_132 (dq_w dwc_180 9 rfl) (dq_w dwc_180 10 rfl) rfl (dq_w dwc_180 11 rfl) rfl
theorem dX4_pricesBehind_44 : decode cX4_pricesBehind 44 = .ok (.goto (-40), 3) := dq_167 (dq_w dwc_180 12 rfl) (dq_w dwc_180 13 rfl) (dq_w dwc_180 14 rfl) (dq_n (m := 40) rfl rfl)
theorem dX4_pricesBehind_47 : decode cX4_pricesBehind 47 = .ok (.iload_n 2, 1) := dq_28 (dq_w dwc_180 15 rfl)
theorem dX4_pricesBehind_48 : decode cX4_pricesBehind 48 = .ok (.ireturn, 1) := dq_172 (dq_w dwc_181 0 rfl)
theorem dwc_182 : (cX4_owesBehind.data.toList.drop 0).take 16 = [3, 62, 3, 54, 4, 21, 4, 42, 180, 0, 39, 162, 0, 28, 42, 27] := by decide +kernel
theorem dwc_183 : (cX4_owesBehind.data.toList.drop 16).take 16 = [21, 4, 28, 182, 0, 76, 2, 159, 0, 10, 29, 4, 21, 4, 120, 128] := by decide +kernel
theorem dwc_184 : (cX4_owesBehind.data.toList.drop 32).take 16 = [62, 132, 4, 1, 167, 255, 225, 29, 172] := by decide +kernel
theorem dX4_owesBehind_0 : decode cX4_owesBehind 0 = .ok (.iconst 0, 1) := dq_3 (dq_w dwc_182 0 rfl)
theorem dX4_owesBehind_1 : decode cX4_owesBehind 1 = .ok (.istore_n 3, 1) := dq_62 (dq_w dwc_182 1 rfl)
theorem dX4_owesBehind_2 : decode cX4_owesBehind 2 = .ok (.iconst 0, 1) := dq_3 (dq_w dwc_182 2 rfl)
theorem dX4_owesBehind_3 : decode cX4_owesBehind 3 = .ok (.istore 4, 2) := dq_54 (dq_w dwc_182 3 rfl) (dq_w dwc_182 4 rfl) rfl
theorem dX4_owesBehind_5 : decode cX4_owesBehind 5 = .ok (.iload 4, 2) := dq_21 (dq_w dwc_182 5 rfl) (dq_w dwc_182 6 rfl) rfl
theorem dX4_owesBehind_7 : decode cX4_owesBehind 7 = .ok (.aload_n 0, 1) := dq_42 (dq_w dwc_182 7 rfl)
theorem dX4_owesBehind_8 : decode cX4_owesBehind 8 = .ok (.getfield 39, 3) := dq_180 (dq_w dwc_182 8 rfl) (dq_w dwc_182 9 rfl) (dq_w dwc_182 10 rfl) rfl
theorem dX4_owesBehind_11 : decode cX4_owesBehind 11 = .ok (.if_icmp .ge 28, 3) := dq_162 (dq_w dwc_182 11 rfl) (dq_w dwc_182 12 rfl) (dq_w dwc_182 13 rfl) (dq_p (n := 28) rfl rfl)
theorem dX4_owesBehind_14 : decode cX4_owesBehind 14 = .ok (.aload_n 0, 1) := dq_42 (dq_w dwc_182 14 rfl)
theorem dX4_owesBehind_15 : decode cX4_owesBehind 15 = .ok (.iload_n 1, 1) := dq_27 (dq_w dwc_182 15 rfl)
theorem dX4_owesBehind_16 : decode cX4_owesBehind 16 = .ok (.iload 4, 2) := dq_21 (dq_w dwc_183 0 rfl) (dq_w dwc_183 1 rfl) rfl
theorem dX4_owesBehind_18 : decode cX4_owesBehind 18 = .ok (.iload_n 2, 1) := dq_28 (dq_w dwc_183 2 rfl)
theorem dX4_owesBehind_19 : decode cX4_owesBehind 19 = .ok (.invokevirtual 76, 3) := dq_182 (dq_w dwc_183 3 rfl) (dq_w dwc_183 4 rfl) (dq_w dwc_183 5 rfl) rfl
theorem dX4_owesBehind_22 : decode cX4_owesBehind 22 = .ok (.iconst (-1), 1) := dq_2 (dq_w dwc_183 6 rfl)
theorem dX4_owesBehind_23 : decode cX4_owesBehind 23 = .ok (.if_icmp .eq 10, 3) := dq_159 (dq_w dwc_183 7 rfl) (dq_w dwc_183 8 rfl) (dq_w dwc_183 9 rfl) (dq_p (n := 10) rfl rfl)
theorem dX4_owesBehind_26 : decode cX4_owesBehind 26 = .ok (.iload_n 3, 1) := dq_29 (dq_w dwc_183 10 rfl)
theorem dX4_owesBehind_27 : decode cX4_owesBehind 27 = .ok (.iconst 1, 1) := dq_4 (dq_w dwc_183 11 rfl)
theorem dX4_owesBehind_28 : decode cX4_owesBehind 28 = .ok (.iload 4, 2) := dq_21 (dq_w dwc_183 12 rfl) (dq_w dwc_183 13 rfl) rfl
theorem dX4_owesBehind_30 : decode cX4_owesBehind 30 = .ok (.ishl, 1) := dq_120 (dq_w dwc_183 14 rfl)
theorem dX4_owesBehind_31 : decode cX4_owesBehind 31 = .ok (.ior, 1) := dq_128 (dq_w dwc_183 15 rfl)
theorem dX4_owesBehind_32 : decode cX4_owesBehind 32 = .ok (.istore_n 3, 1) := dq_62 (dq_w dwc_184 0 rfl)
theorem dX4_owesBehind_33 : decode cX4_owesBehind 33 = .ok (.iinc 4 1, 3) := dq_132 (dq_w dwc_184 1 rfl) (dq_w dwc_184 2 rfl) rfl (dq_w dwc_184 3 rfl) rfl
theorem dX4_owesBehind_36 : decode cX4_owesBehind 36 = .ok (.goto (-31), 3) := dq_167 (dq_w dwc_184 4 rfl) (dq_w dwc_184 5 rfl) (dq_w dwc_184 6 rfl) (dq_n (m := 31) rfl rfl)
theorem dX4_owesBehind_39 : decode cX4_owesBehind 39 = .ok (.iload_n 3, 1) := dq_29 (dq_w dwc_184 7 rfl)
theorem dX4_owesBehind_40 : decode cX4_owesBehind 40 = .ok (.ireturn, 1) := dq_172 (dq_w dwc_184 8 rfl)
theorem dwc_185 : (cX4_owersBehind.data.toList.drop 0).take 16 = [3, 62, 3, 54, 4, 21, 4, 42, 180, 0, 52, 162, 0, 28, 42, 21] := by decide +kernel
theorem dwc_186 : (cX4_owersBehind.data.toList.drop 16).take 16 = [4, 27, 28, 182, 0, 76, 2, 159, 0, 10, 29, 4, 21, 4, 120, 128] := by decide +kernel
theorem dwc_187 : (cX4_owersBehind.data.toList.drop 32).take 16 = [62, 132, 4, 1, 167, 255, 225, 29, 172] := by decide +kernel
theorem dX4_owersBehind_0 : decode cX4_owersBehind 0 = .ok (.iconst 0, 1) := dq_3 (dq_w dwc_185 0 rfl)
theorem dX4_owersBehind_1 : decode cX4_owersBehind 1 = .ok (.istore_n 3, 1) := dq_62 (dq_w dwc_185 1 rfl)
theorem dX4_owersBehind_2 : decode cX4_owersBehind 2 = .ok (.iconst 0, 1) := dq_3 (dq_w dwc_185 2 rfl)
theorem dX4_owersBehind_3 : decode cX4_owersBehind 3 = .ok (.istore 4, 2) := dq_54 (dq_w dwc_185 3 rfl) (dq_w dwc_185 4 rfl) rfl
theorem dX4_owersBehind_5 : decode cX4_owersBehind 5 = .ok (.iload 4, 2) := dq_21 (dq_w dwc_185 5 rfl) (dq_w dwc_185 6 rfl) rfl
theorem dX4_owersBehind_7 : decode cX4_owersBehind 7 = .ok (.aload_n 0, 1) := dq_42 (dq_w dwc_185 7 rfl)
theorem dX4_owersBehind_8 : decode cX4_owersBehind 8 = .ok (.getfield 52, 3) := dq_180 (dq_w dwc_185 8 rfl) (dq_w dwc_185 9 rfl) (dq_w dwc_185 10 rfl) rfl
theorem dX4_owersBehind_11 : decode cX4_owersBehind 11 = .ok (.if_icmp .ge 28, 3) := dq_162 (dq_w dwc_185 11 rfl) (dq_w dwc_185 12 rfl) (dq_w dwc_185 13 rfl) (dq_p (n := 28) rfl rfl)
theorem dX4_owersBehind_14 : decode cX4_owersBehind 14 = .ok (.aload_n 0, 1) := dq_42 (dq_w dwc_185 14 rfl)
theorem dX4_owersBehind_15 : decode cX4_owersBehind 15 = .ok (.iload 4, 2) := dq_21 (dq_w dwc_185 15 rfl) (dq_w dwc_186 0 rfl) rfl
theorem dX4_owersBehind_17 : decode cX4_owersBehind 17 = .ok (.iload_n 1, 1) := dq_27 (dq_w dwc_186 1 rfl)
theorem dX4_owersBehind_18 : decode cX4_owersBehind 18 = .ok (.iload_n 2, 1) := dq_28 (dq_w dwc_186 2 rfl)
theorem dX4_owersBehind_19 : decode cX4_owersBehind 19 = .ok (.invokevirtual 76, 3) := dq_182 (dq_w dwc_186 3 rfl) (dq_w dwc_186 4 rfl) (dq_w dwc_186 5 rfl) rfl
theorem dX4_owersBehind_22 : decode cX4_owersBehind 22 = .ok (.iconst (-1), 1) := dq_2 (dq_w dwc_186 6 rfl)
theorem dX4_owersBehind_23 : decode cX4_owersBehind 23 = .ok (.if_icmp .eq 10, 3) := dq_159 (dq_w dwc_186 7 rfl) (dq_w dwc_186 8 rfl) (dq_w dwc_186 9 rfl) (dq_p (n := 10) rfl rfl)
theorem dX4_owersBehind_26 : decode cX4_owersBehind 26 = .ok (.iload_n 3, 1) := dq_29 (dq_w dwc_186 10 rfl)
theorem dX4_owersBehind_27 : decode cX4_owersBehind 27 = .ok (.iconst 1, 1) := dq_4 (dq_w dwc_186 11 rfl)
theorem dX4_owersBehind_28 : decode cX4_owersBehind 28 = .ok (.iload 4, 2) := dq_21 (dq_w dwc_186 12 rfl) (dq_w dwc_186 13 rfl) rfl
theorem dX4_owersBehind_30 : decode cX4_owersBehind 30 = .ok (.ishl, 1) := dq_120 (dq_w dwc_186 14 rfl)
theorem dX4_owersBehind_31 : decode cX4_owersBehind 31 = .ok (.ior, 1) := dq_128 (dq_w dwc_186 15 rfl)
theorem dX4_owersBehind_32 : decode cX4_owersBehind 32 = .ok (.istore_n 3, 1) := dq_62 (dq_w dwc_187 0 rfl)
theorem dX4_owersBehind_33 : decode cX4_owersBehind 33 = .ok (.iinc 4 1, 3) := dq_132 (dq_w dwc_187 1 rfl) (dq_w dwc_187 2 rfl) rfl (dq_w dwc_187 3 rfl) rfl
theorem dX4_owersBehind_36 : decode cX4_owersBehind 36 = .ok (.goto (-31), 3) := dq_167 (dq_w dwc_187 4 rfl) (dq_w dwc_187 5 rfl) (dq_w dwc_187 6 rfl) (dq_n (m := 31) rfl rfl)
theorem dX4_owersBehind_39 : decode cX4_owersBehind 39 = .ok (.iload_n 3, 1) := dq_29 (dq_w dwc_187 7 rfl)
theorem dX4_owersBehind_40 : decode cX4_owersBehind 40 = .ok (.ireturn, 1) := dq_172 (dq_w dwc_187 8 rfl)
theorem dwc_188 : (cX4_debtsBehind.data.toList.drop 0).take 16 = [3, 61, 3, 62, 29, 42, 180, 0, 52, 162, 0, 21, 28, 42, 29, 27] := by decide +kernel
theorem dwc_189 : (cX4_debtsBehind.data.toList.drop 16).take 16 = [182, 0, 116, 184, 0, 119, 96, 61, 132, 3, 1, 167, 255, 233, 28, 172] := by decide +kernel
theorem dX4_debtsBehind_0 : decode cX4_debtsBehind 0 = .ok (.iconst 0, 1) := dq_3 (dq_w dwc_188 0 rfl)
theorem dX4_debtsBehind_1 : decode cX4_debtsBehind 1 = .ok (.istore_n 2, 1) := dq_61 (dq_w dwc_188 1 rfl)
theorem dX4_debtsBehind_2 : decode cX4_debtsBehind 2 = .ok (.iconst 0, 1) := dq_3 (dq_w dwc_188 2 rfl)
theorem dX4_debtsBehind_3 : decode cX4_debtsBehind 3 = .ok (.istore_n 3, 1) := dq_62 (dq_w dwc_188 3 rfl)
theorem dX4_debtsBehind_4 : decode cX4_debtsBehind 4 = .ok (.iload_n 3, 1) := dq_29 (dq_w dwc_188 4 rfl)
theorem dX4_debtsBehind_5 : decode cX4_debtsBehind 5 = .ok (.aload_n 0, 1) := dq_42 (dq_w dwc_188 5 rfl)
theorem dX4_debtsBehind_6 : decode cX4_debtsBehind 6 = .ok (.getfield 52, 3) := dq_180 (dq_w dwc_188 6 rfl) (dq_w dwc_188 7 rfl) (dq_w dwc_188 8 rfl) rfl
theorem dX4_debtsBehind_9 : decode cX4_debtsBehind 9 = .ok (.if_icmp .ge 21, 3) := dq_162 (dq_w dwc_188 9 rfl) (dq_w dwc_188 10 rfl) (dq_w dwc_188 11 rfl) (dq_p (n := 21) rfl rfl)
theorem dX4_debtsBehind_12 : decode cX4_debtsBehind 12 = .ok (.iload_n 2, 1) := dq_28 (dq_w dwc_188 12 rfl)
theorem dX4_debtsBehind_13 : decode cX4_debtsBehind 13 = .ok (.aload_n 0, 1) := dq_42 (dq_w dwc_188 13 rfl)
theorem dX4_debtsBehind_14 : decode cX4_debtsBehind 14 = .ok (.iload_n 3, 1) := dq_29 (dq_w dwc_188 14 rfl)
theorem dX4_debtsBehind_15 : decode cX4_debtsBehind 15 = .ok (.iload_n 1, 1) := dq_27 (dq_w dwc_188 15 rfl)
theorem dX4_debtsBehind_16 : decode cX4_debtsBehind 16 = .ok (.invokevirtual 116, 3) := dq_182 (dq_w dwc_189 0 rfl) (dq_w dwc_189 1 rfl) (dq_w dwc_189 2 rfl) rfl
theorem dX4_debtsBehind_19 : decode cX4_debtsBehind 19 = .ok (.invokestatic 119, 3) := dq_184 (dq_w dwc_189 3 rfl) (dq_w dwc_189 4 rfl) (dq_w dwc_189 5 rfl) rfl
theorem dX4_debtsBehind_22 : decode cX4_debtsBehind 22 = .ok (.iadd, 1) := dq_96 (dq_w dwc_189 6 rfl)
theorem dX4_debtsBehind_23 : decode cX4_debtsBehind 23 = .ok (.istore_n 2, 1) := dq_61 (dq_w dwc_189 7 rfl)
theorem dX4_debtsBehind_24 : decode cX4_debtsBehind 24 = .ok (.iinc 3 1, 3) := dq_132 (dq_w dwc_189 8 rfl) (dq_w dwc_189 9 rfl) rfl (dq_w dwc_189 10 rfl) rfl
theorem dX4_debtsBehind_27 : decode cX4_debtsBehind 27 = .ok (.goto (-23), 3) := dq_167 (dq_w dwc_189 11 rfl) (dq_w dwc_189 12 rfl) (dq_w dwc_189 13 rfl) (dq_n (m := 23) rfl rfl)
theorem dX4_debtsBehind_30 : decode cX4_debtsBehind 30 = .ok (.iload_n 2, 1) := dq_28 (dq_w dwc_189 14 rfl)
theorem dX4_debtsBehind_31 : decode cX4_debtsBehind 31 = .ok (.ireturn, 1) := dq_172 (dq_w dwc_189 15 rfl)
theorem dwc_190 : (cX4_burden.data.toList.drop 0).take 16 = [3, 60, 3, 61, 28, 42, 180, 0, 52, 162, 0, 32, 42, 28, 3, 182] := by decide +kernel
theorem dwc_191 : (cX4_burden.data.toList.drop 16).take 16 = [0, 125, 62, 27, 29, 16, 30, 164, 0, 9, 5, 29, 104, 167, 0, 4] := by decide +kernel
theorem dwc_192 : (cX4_burden.data.toList.drop 32).take 16 = [29, 96, 60, 132, 2, 1, 167, 255, 222, 27, 172] := by decide +kernel
theorem dX4_burden_0 : decode cX4_burden 0 = .ok (.iconst 0, 1) := dq_3 (dq_w dwc_190 0 rfl)
theorem dX4_burden_1 : decode cX4_burden 1 = .ok (.istore_n 1, 1) := dq_60 (dq_w dwc_190 1 rfl)
theorem dX4_burden_2 : decode cX4_burden 2 = .ok (.iconst 0, 1) := dq_3 (dq_w dwc_190 2 rfl)
theorem dX4_burden_3 : decode cX4_burden 3 = .ok (.istore_n 2, 1) := dq_61 (dq_w dwc_190 3 rfl)
theorem dX4_burden_4 : decode cX4_burden 4 = .ok (.iload_n 2, 1) := dq_28 (dq_w dwc_190 4 rfl)
theorem dX4_burden_5 : decode cX4_burden 5 = .ok (.aload_n 0, 1) := dq_42 (dq_w dwc_190 5 rfl)
theorem dX4_burden_6 : decode cX4_burden 6 = .ok (.getfield 52, 3) := dq_180 (dq_w dwc_190 6 rfl) (dq_w dwc_190 7 rfl) (dq_w dwc_190 8 rfl) rfl
theorem dX4_burden_9 : decode cX4_burden 9 = .ok (.if_icmp .ge 32, 3) := dq_162 (dq_w dwc_190 9 rfl) (dq_w dwc_190 10 rfl) (dq_w dwc_190 11 rfl) (dq_p (n := 32) rfl rfl)
theorem dX4_burden_12 : decode cX4_burden 12 = .ok (.aload_n 0, 1) := dq_42 (dq_w dwc_190 12 rfl)
theorem dX4_burden_13 : decode cX4_burden 13 = .ok (.iload_n 2, 1) := dq_28 (dq_w dwc_190 13 rfl)
theorem dX4_burden_14 : decode cX4_burden 14 = .ok (.iconst 0, 1) := dq_3 (dq_w dwc_190 14 rfl)
theorem dX4_burden_15 : decode cX4_burden 15 = .ok (.invokevirtual 125, 3) := dq_182 (dq_w dwc_190 15 rfl) (dq_w dwc_191 0 rfl) (dq_w dwc_191 1 rfl) rfl
theorem dX4_burden_18 : decode cX4_burden 18 = .ok (.istore_n 3, 1) := dq_62 (dq_w dwc_191 2 rfl)
theorem dX4_burden_19 : decode cX4_burden 19 = .ok (.iload_n 1, 1) := dq_27 (dq_w dwc_191 3 rfl)
theorem dX4_burden_20 : decode cX4_burden 20 = .ok (.iload_n 3, 1) := dq_29 (dq_w dwc_191 4 rfl)
theorem dX4_burden_21 : decode cX4_burden 21 = .ok (.bipush 30, 2) := dq_16 (dq_w dwc_191 5 rfl) (dq_w dwc_191 6 rfl) rfl
theorem dX4_burden_23 : decode cX4_burden 23 = .ok (.if_icmp .le 9, 3) := dq_164 (dq_w dwc_191 7 rfl) (dq_w dwc_191 8 rfl) (dq_w dwc_191 9 rfl) (dq_p (n := 9) rfl rfl)
theorem dX4_burden_26 : decode cX4_burden 26 = .ok (.iconst 2, 1) := dq_5 (dq_w dwc_191 10 rfl)
theorem dX4_burden_27 : decode cX4_burden 27 = .ok (.iload_n 3, 1) := dq_29 (dq_w dwc_191 11 rfl)
theorem dX4_burden_28 : decode cX4_burden 28 = .ok (.imul, 1) := dq_104 (dq_w dwc_191 12 rfl)
theorem dX4_burden_29 : decode cX4_burden 29 = .ok (.goto 4, 3) := dq_167 (dq_w dwc_191 13 rfl) (dq_w dwc_191 14 rfl) (dq_w dwc_191 15 rfl) (dq_p (n := 4) rfl rfl)
theorem dX4_burden_32 : decode cX4_burden 32 = .ok (.iload_n 3, 1) := dq_29 (dq_w dwc_192 0 rfl)
theorem dX4_burden_33 : decode cX4_burden 33 = .ok (.iadd, 1) := dq_96 (dq_w dwc_192 1 rfl)
theorem dX4_burden_34 : decode cX4_burden 34 = .ok (.istore_n 1, 1) := dq_60 (dq_w dwc_192 2 rfl)
theorem dX4_burden_35 : decode cX4_burden 35 = .ok (.iinc 2 1, 3) := dq_132 (dq_w dwc_192 3 rfl) (dq_w dwc_192 4 rfl) rfl (dq_w dwc_192 5 rfl) rfl
theorem dX4_burden_38 : decode cX4_burden 38 = .ok (.goto (-34), 3) := dq_167 (dq_w dwc_192 6 rfl) (dq_w dwc_192 7 rfl) (dq_w dwc_192 8 rfl) (dq_n (m := 34) rfl rfl)
theorem dX4_burden_41 : decode cX4_burden 41 = .ok (.iload_n 1, 1) := dq_27 (dq_w dwc_192 9 rfl)
theorem dX4_burden_42 : decode cX4_burden 42 = .ok (.ireturn, 1) := dq_172 (dq_w dwc_192 10 rfl)
theorem dwc_193 : (cX4_highestAgeOf.data.toList.drop 0).take 16 = [2, 61, 3, 62, 29, 42, 180, 0, 39, 162, 0, 25, 28, 42, 180, 0] := by decide +kernel
theorem dwc_194 : (cX4_highestAgeOf.data.toList.drop 16).take 16 = [30, 27, 16, 8, 104, 29, 96, 46, 184, 0, 128, 61, 132, 3, 1, 167] := by decide +kernel
theorem dwc_195 : (cX4_highestAgeOf.data.toList.drop 32).take 16 = [255, 229, 28, 172] := by decide +kernel
theorem dX4_highestAgeOf_0 : decode cX4_highestAgeOf 0 = .ok (.iconst (-1), 1) := dq_2 (dq_w dwc_193 0 rfl)
theorem dX4_highestAgeOf_1 : decode cX4_highestAgeOf 1 = .ok (.istore_n 2, 1) := dq_61 (dq_w dwc_193 1 rfl)
theorem dX4_highestAgeOf_2 : decode cX4_highestAgeOf 2 = .ok (.iconst 0, 1) := dq_3 (dq_w dwc_193 2 rfl)
theorem dX4_highestAgeOf_3 : decode cX4_highestAgeOf 3 = .ok (.istore_n 3, 1) := dq_62 (dq_w dwc_193 3 rfl)
theorem dX4_highestAgeOf_4 : decode cX4_highestAgeOf 4 = .ok (.iload_n 3, 1) := dq_29 (dq_w dwc_193 4 rfl)
theorem dX4_highestAgeOf_5 : decode cX4_highestAgeOf 5 = .ok (.aload_n 0, 1) := dq_42 (dq_w dwc_193 5 rfl)
theorem dX4_highestAgeOf_6 : decode cX4_highestAgeOf 6 = .ok (.getfield 39, 3) := dq_180 (dq_w dwc_193 6 rfl) (dq_w dwc_193 7 rfl) (dq_w dwc_193 8 rfl) rfl
theorem dX4_highestAgeOf_9 : decode cX4_highestAgeOf 9 = .ok (.if_icmp .ge 25, 3) := dq_162 (dq_w dwc_193 9 rfl) (dq_w dwc_193 10 rfl) (dq_w dwc_193 11 rfl) (dq_p (n := 25) rfl rfl)
theorem dX4_highestAgeOf_12 : decode cX4_highestAgeOf 12 = .ok (.iload_n 2, 1) := dq_28 (dq_w dwc_193 12 rfl)
theorem dX4_highestAgeOf_13 : decode cX4_highestAgeOf 13 = .ok (.aload_n 0, 1) := dq_42 (dq_w dwc_193 13 rfl)
theorem dX4_highestAgeOf_14 : decode cX4_highestAgeOf 14 = .ok (.getfield 30, 3) := dq_180 (dq_w dwc_193 14 rfl) (dq_w dwc_193 15 rfl) (dq_w dwc_194 0 rfl) rfl
theorem dX4_highestAgeOf_17 : decode cX4_highestAgeOf 17 = .ok (.iload_n 1, 1) := dq_27 (dq_w dwc_194 1 rfl)
theorem dX4_highestAgeOf_18 : decode cX4_highestAgeOf 18 = .ok (.bipush 8, 2) := dq_16 (dq_w dwc_194 2 rfl) (dq_w dwc_194 3 rfl) rfl
theorem dX4_highestAgeOf_20 : decode cX4_highestAgeOf 20 = .ok (.imul, 1) := dq_104 (dq_w dwc_194 4 rfl)
theorem dX4_highestAgeOf_21 : decode cX4_highestAgeOf 21 = .ok (.iload_n 3, 1) := dq_29 (dq_w dwc_194 5 rfl)
theorem dX4_highestAgeOf_22 : decode cX4_highestAgeOf 22 = .ok (.iadd, 1) := dq_96 (dq_w dwc_194 6 rfl)
theorem dX4_highestAgeOf_23 : decode cX4_highestAgeOf 23 = .ok (.iaload, 1) := dq_46 (dq_w dwc_194 7 rfl)
theorem dX4_highestAgeOf_24 : decode cX4_highestAgeOf 24 = .ok (.invokestatic 128, 3) := dq_184 (dq_w dwc_194 8 rfl) (dq_w dwc_194 9 rfl) (dq_w dwc_194 10 rfl) rfl
theorem dX4_highestAgeOf_27 : decode cX4_highestAgeOf 27 = .ok (.istore_n 2, 1) := dq_61 (dq_w dwc_194 11 rfl)
theorem dX4_highestAgeOf_28 : decode cX4_highestAgeOf 28 = .ok (.iinc 3 1, 3) := dq_132 (dq_w dwc_194 12 rfl) (dq_w dwc_194 13 rfl) rfl (dq_w dwc_194 14 rfl) rfl
theorem dX4_highestAgeOf_31 : decode cX4_highestAgeOf 31 = .ok (.goto (-27), 3) := dq_167 (dq_w dwc_194 15 rfl) (dq_w dwc_195 0 rfl) (dq_w dwc_195 1 rfl) (dq_n (m := 27) rfl rfl)
theorem dX4_highestAgeOf_34 : decode cX4_highestAgeOf 34 = .ok (.iload_n 2, 1) := dq_28 (dq_w dwc_195 2 rfl)
theorem dX4_highestAgeOf_35 : decode cX4_highestAgeOf 35 = .ok (.ireturn, 1) := dq_172 (dq_w dwc_195 3 rfl)
theorem dwc_196 : (cX5_init.data.toList.drop 0).take 16 = [42, 183, 0, 3, 42, 187, 0, 9, 89, 183, 0, 11, 181, 0, 12, 42] := by decide +kernel
theorem dwc_197 : (cX5_init.data.toList.drop 16).take 16 = [187, 0, 9, 89, 183, 0, 11, 181, 0, 16, 42, 187, 0, 9, 89, 183] := by decide +kernel
theorem dwc_198 : (cX5_init.data.toList.drop 32).take 16 = [0, 11, 181, 0, 19, 42, 3, 181, 0, 22, 42, 187, 0, 26, 89, 183] := by decide +kernel
theorem dwc_199 : (cX5_init.data.toList.drop 48).take 16 = [0, 28, 181, 0, 29, 42, 187, 0, 33, 89, 183, 0, 35, 181, 0, 36] := by decide +kernel
theorem dwc_200 : (cX5_init.data.toList.drop 64).take 16 = [42, 187, 0, 40, 89, 183, 0, 42, 181, 0, 43, 42, 187, 0, 47, 89] := by decide +kernel
theorem dwc_201 : (cX5_init.data.toList.drop 80).take 16 = [183, 0, 49, 181, 0, 50, 42, 16, 12, 188, 10, 181, 0, 54, 42, 3] := by decide +kernel
theorem dwc_202 : (cX5_init.data.toList.drop 96).take 16 = [181, 0, 58, 42, 16, 7, 188, 10, 181, 0, 62, 177] := by decide +kernel
theorem dX5_init_0 : decode cX5_init 0 = .ok (.aload_n 0, 1) := dq_42 (dq_w dwc_196 0 rfl)
theorem dX5_init_1 : decode cX5_init 1 = .ok (.invokespecial 3, 3) := dq_183 (dq_w dwc_196 1 rfl) (dq_w dwc_196 2 rfl) (dq_w dwc_196 3 rfl) rfl
theorem dX5_init_4 : decode cX5_init 4 = .ok (.aload_n 0, 1) := dq_42 (dq_w dwc_196 4 rfl)
theorem dX5_init_5 : decode cX5_init 5 = .ok (.new 9, 3) := dq_187 (dq_w dwc_196 5 rfl) (dq_w dwc_196 6 rfl) (dq_w dwc_196 7 rfl) rfl
theorem dX5_init_8 : decode cX5_init 8 = .ok (.dup, 1) := dq_89 (dq_w dwc_196 8 rfl)
theorem dX5_init_9 : decode cX5_init 9 = .ok (.invokespecial 11, 3) := dq_183 (dq_w dwc_196 9 rfl) (dq_w dwc_196 10 rfl) (dq_w dwc_196 11 rfl) rfl
theorem dX5_init_12 : decode cX5_init 12 = .ok (.putfield 12, 3) := dq_181 (dq_w dwc_196 12 rfl) (dq_w dwc_196 13 rfl) (dq_w dwc_196 14 rfl) rfl
theorem dX5_init_15 : decode cX5_init 15 = .ok (.aload_n 0, 1) := dq_42 (dq_w dwc_196 15 rfl)
theorem dX5_init_16 : decode cX5_init 16 = .ok (.new 9, 3) := dq_187 (dq_w dwc_197 0 rfl) (dq_w dwc_197 1 rfl) (dq_w dwc_197 2 rfl) rfl
theorem dX5_init_19 : decode cX5_init 19 = .ok (.dup, 1) := dq_89 (dq_w dwc_197 3 rfl)
theorem dX5_init_20 : decode cX5_init 20 = .ok (.invokespecial 11, 3) := dq_183 (dq_w dwc_197 4 rfl) (dq_w dwc_197 5 rfl) (dq_w dwc_197 6 rfl) rfl
theorem dX5_init_23 : decode cX5_init 23 = .ok (.putfield 16, 3) := dq_181 (dq_w dwc_197 7 rfl) (dq_w dwc_197 8 rfl) (dq_w dwc_197 9 rfl) rfl
theorem dX5_init_26 : decode cX5_init 26 = .ok (.aload_n 0, 1) := dq_42 (dq_w dwc_197 10 rfl)
theorem dX5_init_27 : decode cX5_init 27 = .ok (.new 9, 3) := dq_187 (dq_w dwc_197 11 rfl) (dq_w dwc_197 12 rfl) (dq_w dwc_197 13 rfl) rfl
theorem dX5_init_30 : decode cX5_init 30 = .ok (.dup, 1) := dq_89 (dq_w dwc_197 14 rfl)
theorem dX5_init_31 : decode cX5_init 31 = .ok (.invokespecial 11, 3) := dq_183 (dq_w dwc_197 15 rfl) (dq_w dwc_198 0 rfl) (dq_w dwc_198 1 rfl) rfl
theorem dX5_init_34 : decode cX5_init 34 = .ok (.putfield 19, 3) := dq_181 (dq_w dwc_198 2 rfl) (dq_w dwc_198 3 rfl) (dq_w dwc_198 4 rfl) rfl
theorem dX5_init_37 : decode cX5_init 37 = .ok (.aload_n 0, 1) := dq_42 (dq_w dwc_198 5 rfl)
theorem dX5_init_38 : decode cX5_init 38 = .ok (.iconst 0, 1) := dq_3 (dq_w dwc_198 6 rfl)
theorem dX5_init_39 : decode cX5_init 39 = .ok (.putfield 22, 3) := dq_181 (dq_w dwc_198 7 rfl) (dq_w dwc_198 8 rfl) (dq_w dwc_198 9 rfl) rfl
theorem dX5_init_42 : decode cX5_init 42 = .ok (.aload_n 0, 1) := dq_42 (dq_w dwc_198 10 rfl)
theorem dX5_init_43 : decode cX5_init 43 = .ok (.new 26, 3) := dq_187 (dq_w dwc_198 11 rfl) (dq_w dwc_198 12 rfl) (dq_w dwc_198 13 rfl) rfl
theorem dX5_init_46 : decode cX5_init 46 = .ok (.dup, 1) := dq_89 (dq_w dwc_198 14 rfl)
theorem dX5_init_47 : decode cX5_init 47 = .ok (.invokespecial 28, 3) := dq_183 (dq_w dwc_198 15 rfl) (dq_w dwc_199 0 rfl) (dq_w dwc_199 1 rfl) rfl
theorem dX5_init_50 : decode cX5_init 50 = .ok (.putfield 29, 3) := dq_181 (dq_w dwc_199 2 rfl) (dq_w dwc_199 3 rfl) (dq_w dwc_199 4 rfl) rfl
theorem dX5_init_53 : decode cX5_init 53 = .ok (.aload_n 0, 1) := dq_42 (dq_w dwc_199 5 rfl)
theorem dX5_init_54 : decode cX5_init 54 = .ok (.new 33, 3) := dq_187 (dq_w dwc_199 6 rfl) (dq_w dwc_199 7 rfl) (dq_w dwc_199 8 rfl) rfl
theorem dX5_init_57 : decode cX5_init 57 = .ok (.dup, 1) := dq_89 (dq_w dwc_199 9 rfl)
theorem dX5_init_58 : decode cX5_init 58 = .ok (.invokespecial 35, 3) := dq_183 (dq_w dwc_199 10 rfl) (dq_w dwc_199 11 rfl) (dq_w dwc_199 12 rfl) rfl
theorem dX5_init_61 : decode cX5_init 61 = .ok (.putfield 36, 3) := dq_181 (dq_w dwc_199 13 rfl) (dq_w dwc_199 14 rfl) (dq_w dwc_199 15 rfl) rfl
theorem dX5_init_64 : decode cX5_init 64 = .ok (.aload_n 0, 1) := dq_42 (dq_w dwc_200 0 rfl)
theorem dX5_init_65 : decode cX5_init 65 = .ok (.new 40, 3) := dq_187 (dq_w dwc_200 1 rfl) (dq_w dwc_200 2 rfl) (dq_w dwc_200 3 rfl) rfl
theorem dX5_init_68 : decode cX5_init 68 = .ok (.dup, 1) := dq_89 (dq_w dwc_200 4 rfl)
theorem dX5_init_69 : decode cX5_init 69 = .ok (.invokespecial 42, 3) := dq_183 (dq_w dwc_200 5 rfl) (dq_w dwc_200 6 rfl) (dq_w dwc_200 7 rfl) rfl
theorem dX5_init_72 : decode cX5_init 72 = .ok (.putfield 43, 3) := dq_181 (dq_w dwc_200 8 rfl) (dq_w dwc_200 9 rfl) (dq_w dwc_200 10 rfl) rfl
theorem dX5_init_75 : decode cX5_init 75 = .ok (.aload_n 0, 1) := dq_42 (dq_w dwc_200 11 rfl)
theorem dX5_init_76 : decode cX5_init 76 = .ok (.new 47, 3) := dq_187 (dq_w dwc_200 12 rfl) (dq_w dwc_200 13 rfl) (dq_w dwc_200 14 rfl) rfl
theorem dX5_init_79 : decode cX5_init 79 = .ok (.dup, 1) := dq_89 (dq_w dwc_200 15 rfl)
theorem dX5_init_80 : decode cX5_init 80 = .ok (.invokespecial 49, 3) := dq_183 (dq_w dwc_201 0 rfl) (dq_w dwc_201 1 rfl) (dq_w dwc_201 2 rfl) rfl
theorem dX5_init_83 : decode cX5_init 83 = .ok (.putfield 50, 3) := dq_181 (dq_w dwc_201 3 rfl) (dq_w dwc_201 4 rfl) (dq_w dwc_201 5 rfl) rfl
theorem dX5_init_86 : decode cX5_init 86 = .ok (.aload_n 0, 1) := dq_42 (dq_w dwc_201 6 rfl)
theorem dX5_init_87 : decode cX5_init 87 = .ok (.bipush 12, 2) := dq_16 (dq_w dwc_201 7 rfl) (dq_w dwc_201 8 rfl) rfl
theorem dX5_init_89 : decode cX5_init 89 = .ok (.newarray .int, 2) := by decide +kernel
theorem dX5_init_91 : decode cX5_init 91 = .ok (.putfield 54, 3) := dq_181 (dq_w dwc_201 11 rfl) (dq_w dwc_201 12 rfl) (dq_w dwc_201 13 rfl) rfl
theorem dX5_init_94 : decode cX5_init 94 = .ok (.aload_n 0, 1) := dq_42 (dq_w dwc_201 14 rfl)
theorem dX5_init_95 : decode cX5_init 95 = .ok (.iconst 0, 1) := dq_3 (dq_w dwc_201 15 rfl)
theorem dX5_init_96 : decode cX5_init 96 = .ok (.putfield 58, 3) := dq_181 (dq_w dwc_202 0 rfl) (dq_w dwc_202 1 rfl) (dq_w dwc_202 2 rfl) rfl
theorem dX5_init_99 : decode cX5_init 99 = .ok (.aload_n 0, 1) := dq_42 (dq_w dwc_202 3 rfl)
theorem dX5_init_100 : decode cX5_init 100 = .ok (.bipush 7, 2) := dq_16 (dq_w dwc_202 4 rfl) (dq_w dwc_202 5 rfl) rfl
theorem dX5_init_102 : decode cX5_init 102 = .ok (.newarray .int, 2) := by decide +kernel
theorem dX5_init_104 : decode cX5_init 104 = .ok (.putfield 62, 3) := dq_181 (dq_w dwc_202 8 rfl) (dq_w dwc_202 9 rfl) (dq_w dwc_202 10 rfl) rfl
theorem dX5_init_107 : decode cX5_init 107 = .ok (.return_, 1) := dq_177 (dq_w dwc_202 11 rfl)
theorem dwc_203 : (cX5_feed.data.toList.drop 0).take 16 = [27, 156, 0, 10, 42, 16, 252, 182, 0, 65, 172, 27, 17, 0, 255, 163] := by decide +kernel
theorem dwc_204 : (cX5_feed.data.toList.drop 16).take 16 = [0, 13, 42, 180, 0, 36, 182, 0, 69, 153, 0, 10, 42, 16, 250, 182] := by decide +kernel
theorem dwc_205 : (cX5_feed.data.toList.drop 32).take 16 = [0, 65, 172, 42, 180, 0, 36, 27, 182, 0, 73, 172] := by decide +kernel
theorem dX5_feed_0 : decode cX5_feed 0 = .ok (.iload_n 1, 1) := dq_27 (dq_w dwc_203 0 rfl)
theorem dX5_feed_1 : decode cX5_feed 1 = .ok (.ifCond .ge 10, 3) := dq_156 (dq_w dwc_203 1 rfl) (dq_w dwc_203 2 rfl) (dq_w dwc_203 3 rfl) (dq_p (n := 10) rfl rfl)
theorem dX5_feed_4 : decode cX5_feed 4 = .ok (.aload_n 0, 1) := dq_42 (dq_w dwc_203 4 rfl)
theorem dX5_feed_5 : decode cX5_feed 5 = .ok (.bipush (-4), 2) := dq_16 (dq_w dwc_203 5 rfl) (dq_w dwc_203 6 rfl) rfl
theorem dX5_feed_7 : decode cX5_feed 7 = .ok (.invokevirtual 65, 3) := dq_182 (dq_w dwc_203 7 rfl) (dq_w dwc_203 8 rfl) (dq_w dwc_203 9 rfl) rfl
theorem dX5_feed_10 : decode cX5_feed 10 = .ok (.ireturn, 1) := dq_172 (dq_w dwc_203 10 rfl)
theorem dX5_feed_11 : decode cX5_feed 11 = .ok (.iload_n 1, 1) := dq_27 (dq_w dwc_203 11 rfl)
theorem dX5_feed_12 : decode cX5_feed 12 = .ok (.sipush 255, 3) := dq_17 (dq_w dwc_203 12 rfl) (dq_w dwc_203 13 rfl) (dq_w dwc_203 14 rfl) (dq_p (n := 255) rfl rfl)
theorem dX5_feed_15 : decode cX5_feed 15 = .ok (.if_icmp .gt 13, 3) := dq_163 (dq_w dwc_203 15 rfl) (dq_w dwc_204 0 rfl) (dq_w dwc_204 1 rfl) (dq_p (n := 13) rfl rfl)
theorem dX5_feed_18 : decode cX5_feed 18 = .ok (.aload_n 0, 1) := dq_42 (dq_w dwc_204 2 rfl)
theorem dX5_feed_19 : decode cX5_feed 19 = .ok (.getfield 36, 3) := dq_180 (dq_w dwc_204 3 rfl) (dq_w dwc_204 4 rfl) (dq_w dwc_204 5 rfl) rfl
theorem dX5_feed_22 : decode cX5_feed 22 = .ok (.invokevirtual 69, 3) := dq_182 (dq_w dwc_204 6 rfl) (dq_w dwc_204 7 rfl) (dq_w dwc_204 8 rfl) rfl
theorem dX5_feed_25 : decode cX5_feed 25 = .ok (.ifCond .eq 10, 3) := dq_153 (dq_w dwc_204 9 rfl) (dq_w dwc_204 10 rfl) (dq_w dwc_204 11 rfl) (dq_p (n := 10) rfl rfl)
theorem dX5_feed_28 : decode cX5_feed 28 = .ok (.aload_n 0, 1) := dq_42 (dq_w dwc_204 12 rfl)
theorem dX5_feed_29 : decode cX5_feed 29 = .ok (.bipush (-6), 2) := dq_16 (dq_w dwc_204 13 rfl) (dq_w dwc_204 14 rfl) rfl
theorem dX5_feed_31 : decode cX5_feed 31 = .ok (.invokevirtual 65, 3) := dq_182 (dq_w dwc_204 15 rfl) (dq_w dwc_205 0 rfl) (dq_w dwc_205 1 rfl) rfl
theorem dX5_feed_34 : decode cX5_feed 34 = .ok (.ireturn, 1) := dq_172 (dq_w dwc_205 2 rfl)
theorem dX5_feed_35 : decode cX5_feed 35 = .ok (.aload_n 0, 1) := dq_42 (dq_w dwc_205 3 rfl)
theorem dX5_feed_36 : decode cX5_feed 36 = .ok (.getfield 36, 3) := dq_180 (dq_w dwc_205 4 rfl) (dq_w dwc_205 5 rfl) (dq_w dwc_205 6 rfl) rfl
theorem dX5_feed_39 : decode cX5_feed 39 = .ok (.iload_n 1, 1) := dq_27 (dq_w dwc_205 7 rfl)
theorem dX5_feed_40 : decode cX5_feed 40 = .ok (.invokevirtual 73, 3) := dq_182 (dq_w dwc_205 8 rfl) (dq_w dwc_205 9 rfl) (dq_w dwc_205 10 rfl) rfl
theorem dX5_feed_43 : decode cX5_feed 43 = .ok (.ireturn, 1) := dq_172 (dq_w dwc_205 11 rfl)
theorem dwc_206 : (cX5_village.data.toList.drop 0).take 16 = [42, 180, 0, 16, 42, 180, 0, 12, 182, 0, 76, 42, 180, 0, 36, 42] := by decide +kernel
theorem dwc_207 : (cX5_village.data.toList.drop 16).take 16 = [180, 0, 16, 182, 0, 80, 60, 42, 180, 0, 36, 182, 0, 84, 27, 156] := by decide +kernel
theorem dwc_208 : (cX5_village.data.toList.drop 32).take 16 = [0, 5, 27, 172, 42, 180, 0, 12, 42, 180, 0, 16, 182, 0, 76, 42] := by decide +kernel
theorem dwc_209 : (cX5_village.data.toList.drop 48).take 16 = [180, 0, 29, 182, 0, 87, 27, 172] := by decide +kernel
theorem dX5_village_0 : decode cX5_village 0 = .ok (.aload_n 0, 1) := dq_42 (dq_w dwc_206 0 rfl)
theorem dX5_village_1 : decode cX5_village 1 = .ok (.getfield 16, 3) := dq_180 (dq_w dwc_206 1 rfl) (dq_w dwc_206 2 rfl) (dq_w dwc_206 3 rfl) rfl
theorem dX5_village_4 : decode cX5_village 4 = .ok (.aload_n 0, 1) := dq_42 (dq_w dwc_206 4 rfl)
theorem dX5_village_5 : decode cX5_village 5 = .ok (.getfield 12, 3) := dq_180 (dq_w dwc_206 5 rfl) (dq_w dwc_206 6 rfl) (dq_w dwc_206 7 rfl) rfl
theorem dX5_village_8 : decode cX5_village 8 = .ok (.invokevirtual 76, 3) := dq_182 (dq_w dwc_206 8 rfl) (dq_w dwc_206 9 rfl) (dq_w dwc_206 10 rfl) rfl
theorem dX5_village_11 : decode cX5_village 11 = .ok (.aload_n 0, 1) := dq_42 (dq_w dwc_206 11 rfl)
theorem dX5_village_12 : decode cX5_village 12 = .ok (.getfield 36, 3) := dq_180 (dq_w dwc_206 12 rfl) (dq_w dwc_206 13 rfl) (dq_w dwc_206 14 rfl) rfl
theorem dX5_village_15 : decode cX5_village 15 = .ok (.aload_n 0, 1) := dq_42 (dq_w dwc_206 15 rfl)
theorem dX5_village_16 : decode cX5_village 16 = .ok (.getfield 16, 3) := dq_180 (dq_w dwc_207 0 rfl) (dq_w dwc_207 1 rfl) (dq_w dwc_207 2 rfl) rfl
theorem dX5_village_19 : decode cX5_village 19 = .ok (.invokevirtual 80, 3) := dq_182 (dq_w dwc_207 3 rfl) (dq_w dwc_207 4 rfl) (dq_w dwc_207 5 rfl) rfl
theorem dX5_village_22 : decode cX5_village 22 = .ok (.istore_n 1, 1) := dq_60 (dq_w dwc_207 6 rfl)
theorem dX5_village_23 : decode cX5_village 23 = .ok (.aload_n 0, 1) := dq_42 (dq_w dwc_207 7 rfl)
theorem dX5_village_24 : decode cX5_village 24 = .ok (.getfield 36, 3) := dq_180 (dq_w dwc_207 8 rfl) (dq_w dwc_207 9 rfl) (dq_w dwc_207 10 rfl) rfl
theorem dX5_village_27 : decode cX5_village 27 = .ok (.invokevirtual 84, 3) := dq_182 (dq_w dwc_207 11 rfl) (dq_w dwc_207 12 rfl) (dq_w dwc_207 13 rfl) rfl
theorem dX5_village_30 : decode cX5_village 30 = .ok (.iload_n 1, 1) := dq_27 (dq_w dwc_207 14 rfl)
theorem dX5_village_31 : decode cX5_village 31 = .ok (.ifCond .ge 5, 3) := dq_156 (dq_w dwc_207 15 rfl) (dq_w dwc_208 0 rfl) (dq_w dwc_208 1 rfl) (dq_p (n := 5) rfl rfl)
theorem dX5_village_34 : decode cX5_village 34 = .ok (.iload_n 1, 1) := dq_27 (dq_w dwc_208 2 rfl)
theorem dX5_village_35 : decode cX5_village 35 = .ok (.ireturn, 1) := dq_172 (dq_w dwc_208 3 rfl)
theorem dX5_village_36 : decode cX5_village 36 = .ok (.aload_n 0, 1) := dq_42 (dq_w dwc_208 4 rfl)
theorem dX5_village_37 : decode cX5_village 37 = .ok (.getfield 12, 3) := dq_180 (dq_w dwc_208 5 rfl) (dq_w dwc_208 6 rfl) (dq_w dwc_208 7 rfl) rfl
theorem dX5_village_40 : decode cX5_village 40 = .ok (.aload_n 0, 1) := dq_42 (dq_w dwc_208 8 rfl)
theorem dX5_village_41 : decode cX5_village 41 = .ok (.getfield 16, 3) := dq_180 (dq_w dwc_208 9 rfl) (dq_w dwc_208 10 rfl) (dq_w dwc_208 11 rfl) rfl
theorem dX5_village_44 : decode cX5_village 44 = .ok (.invokevirtual 76, 3) := dq_182 (dq_w dwc_208 12 rfl) (dq_w dwc_208 13 rfl) (dq_w dwc_208 14 rfl) rfl
theorem dX5_village_47 : decode cX5_village 47 = .ok (.aload_n 0, 1) := dq_42 (dq_w dwc_208 15 rfl)
theorem dX5_village_48 : decode cX5_village 48 = .ok (.getfield 29, 3) := dq_180 (dq_w dwc_209 0 rfl) (dq_w dwc_209 1 rfl) (dq_w dwc_209 2 rfl) rfl
theorem dX5_village_51 : decode cX5_village 51 = .ok (.invokevirtual 87, 3) := dq_182 (dq_w dwc_209 3 rfl) (dq_w dwc_209 4 rfl) (dq_w dwc_209 5 rfl) rfl
theorem dX5_village_54 : decode cX5_village 54 = .ok (.iload_n 1, 1) := dq_27 (dq_w dwc_209 6 rfl)
theorem dX5_village_55 : decode cX5_village 55 = .ok (.ireturn, 1) := dq_172 (dq_w dwc_209 7 rfl)
theorem dwc_210 : (cX5_houseOf.data.toList.drop 0).take 16 = [42, 180, 0, 12, 27, 182, 0, 90, 154, 0, 9, 42, 2, 182, 0, 65] := by decide +kernel
theorem dwc_211 : (cX5_houseOf.data.toList.drop 16).take 16 = [172, 28, 170, 0, 0, 0, 0, 144, 0, 0, 0, 0, 0, 0, 0, 7] := by decide +kernel
theorem dwc_212 : (cX5_houseOf.data.toList.drop 64).take 16 = [42, 180, 0, 12, 180, 0, 94, 27, 46, 172, 42, 180, 0, 12, 180, 0] := by decide +kernel
theorem dwc_213 : (cX5_houseOf.data.toList.drop 80).take 16 = [97, 27, 46, 172, 42, 180, 0, 12, 180, 0, 100, 27, 46, 172, 42, 180] := by decide +kernel
theorem dwc_214 : (cX5_houseOf.data.toList.drop 96).take 16 = [0, 12, 27, 182, 0, 103, 153, 0, 7, 4, 167, 0, 4, 3, 172, 42] := by decide +kernel
theorem dwc_215 : (cX5_houseOf.data.toList.drop 112).take 16 = [180, 0, 12, 180, 0, 94, 27, 46, 42, 180, 0, 12, 180, 0, 97, 27] := by decide +kernel
theorem dwc_216 : (cX5_houseOf.data.toList.drop 128).take 16 = [46, 184, 0, 106, 172, 42, 180, 0, 12, 27, 3, 182, 0, 110, 172, 42] := by decide +kernel
theorem dwc_217 : (cX5_houseOf.data.toList.drop 144).take 16 = [180, 0, 12, 27, 3, 182, 0, 113, 172, 42, 180, 0, 12, 27, 182, 0] := by decide +kernel
theorem dwc_218 : (cX5_houseOf.data.toList.drop 160).take 16 = [116, 172, 42, 16, 254, 182, 0, 65, 172] := by decide +kernel
theorem dX5_houseOf_0 : decode cX5_houseOf 0 = .ok (.aload_n 0, 1) := dq_42 (dq_w dwc_210 0 rfl)
theorem dX5_houseOf_1 : decode cX5_houseOf 1 = .ok (.getfield 12, 3) := dq_180 (dq_w dwc_210 1 rfl) (dq_w dwc_210 2 rfl) (dq_w dwc_210 3 rfl) rfl
theorem dX5_houseOf_4 : decode cX5_houseOf 4 = .ok (.iload_n 1, 1) := dq_27 (dq_w dwc_210 4 rfl)
theorem dX5_houseOf_5 : decode cX5_houseOf 5 = .ok (.invokevirtual 90, 3) := dq_182 (dq_w dwc_210 5 rfl) (dq_w dwc_210 6 rfl) (dq_w dwc_210 7 rfl) rfl
theorem dX5_houseOf_8 : decode cX5_houseOf 8 = .ok (.ifCond .ne 9, 3) := dq_154 (dq_w dwc_210 8 rfl) (dq_w dwc_210 9 rfl) (dq_w dwc_210 10 rfl) (dq_p (n := 9) rfl rfl)
theorem dX5_houseOf_11 : decode cX5_houseOf 11 = .ok (.aload_n 0, 1) := dq_42 (dq_w dwc_210 11 rfl)
theorem dX5_houseOf_12 : decode cX5_houseOf 12 = .ok (.iconst (-1), 1) := dq_2 (dq_w dwc_210 12 rfl)
theorem dX5_houseOf_13 : decode cX5_houseOf 13 = .ok (.invokevirtual 65, 3) := dq_182 (dq_w dwc_210 13 rfl) (dq_w dwc_210 14 rfl) (dq_w dwc_210 15 rfl) rfl
theorem dX5_houseOf_16 : decode cX5_houseOf 16 = .ok (.ireturn, 1) := dq_172 (dq_w dwc_211 0 rfl)
theorem dX5_houseOf_17 : decode cX5_houseOf 17 = .ok (.iload_n 2, 1) := dq_28 (dq_w dwc_211 1 rfl)
theorem dX5_houseOf_18 : decode cX5_houseOf 18 = .ok (.tableswitch 144 0 7 #[46, 56, 66, 76, 93, 115, 125, 135], 46) := by decide +kernel
theorem dX5_houseOf_64 : decode cX5_houseOf 64 = .ok (.aload_n 0, 1) := dq_42 (dq_w dwc_212 0 rfl)
theorem dX5_houseOf_65 : decode cX5_houseOf 65 = .ok (.getfield 12, 3) := dq_180 (dq_w dwc_212 1 rfl) (dq_w dwc_212 2 rfl) (dq_w dwc_212 3 rfl) rfl
theorem dX5_houseOf_68 : decode cX5_houseOf 68 = .ok (.getfield 94, 3) := dq_180 (dq_w dwc_212 4 rfl) (dq_w dwc_212 5 rfl) (dq_w dwc_212 6 rfl) rfl
theorem dX5_houseOf_71 : decode cX5_houseOf 71 = .ok (.iload_n 1, 1) := dq_27 (dq_w dwc_212 7 rfl)
theorem dX5_houseOf_72 : decode cX5_houseOf 72 = .ok (.iaload, 1) := dq_46 (dq_w dwc_212 8 rfl)
theorem dX5_houseOf_73 : decode cX5_houseOf 73 = .ok (.ireturn, 1) := dq_172 (dq_w dwc_212 9 rfl)
theorem dX5_houseOf_74 : decode cX5_houseOf 74 = .ok (.aload_n 0, 1) := dq_42 (dq_w dwc_212 10 rfl)
theorem dX5_houseOf_75 : decode cX5_houseOf 75 = .ok (.getfield 12, 3) := dq_180 (dq_w dwc_212 11 rfl) (dq_w dwc_212 12 rfl) (dq_w dwc_212 13 rfl) rfl
theorem dX5_houseOf_78 : decode cX5_houseOf 78 = .ok (.getfield 97, 3) := dq_180 (dq_w dwc_212 14 rfl) (dq_w dwc_212 15 rfl) (dq_w dwc_213 0 rfl) rfl
theorem dX5_houseOf_81 : decode cX5_houseOf 81 = .ok (.iload_n 1, 1) := dq_27 (dq_w dwc_213 1 rfl)
theorem dX5_houseOf_82 : decode cX5_houseOf 82 = .ok (.iaload, 1) := dq_46 (dq_w dwc_213 2 rfl)
theorem dX5_houseOf_83 : decode cX5_houseOf 83 = .ok (.ireturn, 1) := dq_172 (dq_w dwc_213 3 rfl)
theorem dX5_houseOf_84 : decode cX5_houseOf 84 = .ok (.aload_n 0, 1) := dq_42 (dq_w dwc_213 4 rfl)
theorem dX5_houseOf_85 : decode cX5_houseOf 85 = .ok (.getfield 12, 3) := dq_180 (dq_w dwc_213 5 rfl) (dq_w dwc_213 6 rfl) (dq_w dwc_213 7 rfl) rfl
theorem dX5_houseOf_88 : decode cX5_houseOf 88 = .ok (.getfield 100, 3) := dq_180 (dq_w dwc_213 8 rfl) (dq_w dwc_213 9 rfl) (dq_w dwc_213 10 rfl) rfl
theorem dX5_houseOf_91 : decode cX5_houseOf 91 = .ok (.iload_n 1, 1) := dq_27 (dq_w dwc_213 11 rfl)
theorem dX5_houseOf_92 : decode cX5_houseOf 92 = .ok (.iaload, 1) := dq_46 (dq_w dwc_213 12 rfl)
theorem dX5_houseOf_93 : decode cX5_houseOf 93 = .ok (.ireturn, 1) := dq_172 (dq_w dwc_213 13 rfl)
theorem dX5_houseOf_94 : decode cX5_houseOf 94 = .ok (.aload_n 0, 1) := dq_42 (dq_w dwc_213 14 rfl)
theorem dX5_houseOf_95 : decode cX5_houseOf 95 = .ok (.getfield 12, 3) := dq_180 (dq_w dwc_213 15 rfl) (dq_w dwc_214 0 rfl) (dq_w dwc_214 1 rfl) rfl
theorem dX5_houseOf_98 : decode cX5_houseOf 98 = .ok (.iload_n 1, 1) := dq_27 (dq_w dwc_214 2 rfl)
theorem dX5_houseOf_99 : decode cX5_houseOf 99 = .ok (.invokevirtual 103, 3) := dq_182 (dq_w dwc_214 3 rfl) (dq_w dwc_214 4 rfl) (dq_w dwc_214 5 rfl) rfl
theorem dX5_houseOf_102 : decode cX5_houseOf 102 = .ok (.ifCond .eq 7, 3) := dq_153 (dq_w dwc_214 6 rfl) (dq_w dwc_214 7 rfl) (dq_w dwc_214 8 rfl) (dq_p (n := 7) rfl rfl)
theorem dX5_houseOf_105 : decode cX5_houseOf 105 = .ok (.iconst 1, 1) := dq_4 (dq_w dwc_214 9 rfl)
theorem dX5_houseOf_106 : decode cX5_houseOf 106 = .ok (.goto 4, 3) := dq_167 (dq_w dwc_214 10 rfl) (dq_w dwc_214 11 rfl) (dq_w dwc_214 12 rfl) (dq_p (n := 4) rfl rfl)
theorem dX5_houseOf_109 : decode cX5_houseOf 109 = .ok (.iconst 0, 1) := dq_3 (dq_w dwc_214 13 rfl)
theorem dX5_houseOf_110 : decode cX5_houseOf 110 = .ok (.ireturn, 1) := dq_172 (dq_w dwc_214 14 rfl)
theorem dX5_houseOf_111 : decode cX5_houseOf 111 = .ok (.aload_n 0, 1) := dq_42 (dq_w dwc_214 15 rfl)
theorem dX5_houseOf_112 : decode cX5_houseOf 112 = .ok (.getfield 12, 3) := dq_180 (dq_w dwc_215 0 rfl) (dq_w dwc_215 1 rfl) (dq_w dwc_215 2 rfl) rfl
theorem dX5_houseOf_115 : decode cX5_houseOf 115 = .ok (.getfield 94, 3) := dq_180 (dq_w dwc_215 3 rfl) (dq_w dwc_215 4 rfl) (dq_w dwc_215 5 rfl) rfl
theorem dX5_houseOf_118 : decode cX5_houseOf 118 = .ok (.iload_n 1, 1) := dq_27 (dq_w dwc_215 6 rfl)
theorem dX5_houseOf_119 : decode cX5_houseOf 119 = .ok (.iaload, 1) := dq_46 (dq_w dwc_215 7 rfl)
theorem dX5_houseOf_120 : decode cX5_houseOf 120 = .ok (.aload_n 0, 1) := dq_42 (dq_w dwc_215 8 rfl)
theorem dX5_houseOf_121 : decode cX5_houseOf 121 = .ok (.getfield 12, 3) := dq_180 (dq_w dwc_215 9 rfl) (dq_w dwc_215 10 rfl) (dq_w dwc_215 11 rfl) rfl
theorem dX5_houseOf_124 : decode cX5_houseOf 124 = .ok (.getfield 97, 3) := dq_180 (dq_w dwc_215 12 rfl) (dq_w dwc_215 13 rfl) (dq_w dwc_215 14 rfl) rfl
theorem dX5_houseOf_127 : decode cX5_houseOf 127 = .ok (.iload_n 1, 1) := dq_27 (dq_w dwc_215 15 rfl)
theorem dX5_houseOf_128 : decode cX5_houseOf 128 = .ok (.iaload, 1) := dq_46 (dq_w dwc_216 0 rfl)
theorem dX5_houseOf_129 : decode cX5_houseOf 129 = .ok (.invokestatic 106, 3) := dq_184 (dq_w dwc_216 1 rfl) (dq_w dwc_216 2 rfl) (dq_w dwc_216 3 rfl) rfl
theorem dX5_houseOf_132 : decode cX5_houseOf 132 = .ok (.ireturn, 1) := dq_172 (dq_w dwc_216 4 rfl)
theorem dX5_houseOf_133 : decode cX5_houseOf 133 = .ok (.aload_n 0, 1) := dq_42 (dq_w dwc_216 5 rfl)
theorem dX5_houseOf_134 : decode cX5_houseOf 134 = .ok (.getfield 12, 3) := dq_180 (dq_w dwc_216 6 rfl) (dq_w dwc_216 7 rfl) (dq_w dwc_216 8 rfl) rfl
theorem dX5_houseOf_137 : decode cX5_houseOf 137 = .ok (.iload_n 1, 1) := dq_27 (dq_w dwc_216 9 rfl)
theorem dX5_houseOf_138 : decode cX5_houseOf 138 = .ok (.iconst 0, 1) := dq_3 (dq_w dwc_216 10 rfl)
theorem dX5_houseOf_139 : decode cX5_houseOf 139 = .ok (.invokevirtual 110, 3) := dq_182 (dq_w dwc_216 11 rfl) (dq_w dwc_216 12 rfl) (dq_w dwc_216 13 rfl) rfl
theorem dX5_houseOf_142 : decode cX5_houseOf 142 = .ok (.ireturn, 1) := dq_172 (dq_w dwc_216 14 rfl)
theorem dX5_houseOf_143 : decode cX5_houseOf 143 = .ok (.aload_n 0, 1) := dq_42 (dq_w dwc_216 15 rfl)
theorem dX5_houseOf_144 : decode cX5_houseOf 144 = .ok (.getfield 12, 3) := dq_180 (dq_w dwc_217 0 rfl) (dq_w dwc_217 1 rfl) (dq_w dwc_217 2 rfl) rfl
theorem dX5_houseOf_147 : decode cX5_houseOf 147 = .ok (.iload_n 1, 1) := dq_27 (dq_w dwc_217 3 rfl)
theorem dX5_houseOf_148 : decode cX5_houseOf 148 = .ok (.iconst 0, 1) := dq_3 (dq_w dwc_217 4 rfl)
theorem dX5_houseOf_149 : decode cX5_houseOf 149 = .ok (.invokevirtual 113, 3) := dq_182 (dq_w dwc_217 5 rfl) (dq_w dwc_217 6 rfl) (dq_w dwc_217 7 rfl) rfl
theorem dX5_houseOf_152 : decode cX5_houseOf 152 = .ok (.ireturn, 1) := dq_172 (dq_w dwc_217 8 rfl)
theorem dX5_houseOf_153 : decode cX5_houseOf 153 = .ok (.aload_n 0, 1) := dq_42 (dq_w dwc_217 9 rfl)
theorem dX5_houseOf_154 : decode cX5_houseOf 154 = .ok (.getfield 12, 3) := dq_180 (dq_w dwc_217 10 rfl) (dq_w dwc_217 11 rfl) (dq_w dwc_217 12 rfl) rfl
theorem dX5_houseOf_157 : decode cX5_houseOf 157 = .ok (.iload_n 1, 1) := dq_27 (dq_w dwc_217 13 rfl)
theorem dX5_houseOf_158 : decode cX5_houseOf 158 = .ok (.invokevirtual 116, 3) := dq_182 (dq_w dwc_217 14 rfl) (dq_w dwc_217 15 rfl) (dq_w dwc_218 0 rfl) rfl
theorem dX5_houseOf_161 : decode cX5_houseOf 161 = .ok (.ireturn, 1) := dq_172 (dq_w dwc_218 1 rfl)
theorem dX5_houseOf_162 : decode cX5_houseOf 162 = .ok (.aload_n 0, 1) := dq_42 (dq_w dwc_218 2 rfl)
theorem dX5_houseOf_163 : decode cX5_houseOf 163 = .ok (.bipush (-2), 2) := dq_16 (dq_w dwc_218 3 rfl) (dq_w dwc_218 4 rfl) rfl
theorem dX5_houseOf_165 : decode cX5_houseOf 165 = .ok (.invokevirtual 65, 3) := dq_182 (dq_w dwc_218 5 rfl) (dq_w dwc_218 6 rfl) (dq_w dwc_218 7 rfl) rfl
theorem dX5_houseOf_168 : decode cX5_houseOf 168 = .ok (.ireturn, 1) := dq_172 (dq_w dwc_218 8 rfl)
theorem dwc_219 : (cX5_walkerOf.data.toList.drop 0).take 16 = [42, 180, 0, 12, 27, 182, 0, 119, 154, 0, 9, 42, 2, 182, 0, 65] := by decide +kernel
theorem dwc_220 : (cX5_walkerOf.data.toList.drop 16).take 16 = [172, 28, 170, 0, 0, 0, 0, 106, 0, 0, 0, 0, 0, 0, 0, 5] := by decide +kernel
theorem dwc_221 : (cX5_walkerOf.data.toList.drop 48).take 16 = [0, 0, 0, 78, 0, 0, 0, 96, 42, 180, 0, 12, 180, 0, 122, 27] := by decide +kernel
theorem dwc_222 : (cX5_walkerOf.data.toList.drop 64).take 16 = [46, 172, 42, 180, 0, 12, 180, 0, 125, 27, 46, 172, 42, 180, 0, 12] := by decide +kernel
theorem dwc_223 : (cX5_walkerOf.data.toList.drop 80).take 16 = [180, 0, 128, 27, 46, 172, 42, 180, 0, 12, 27, 3, 182, 0, 131, 172] := by decide +kernel
theorem dwc_224 : (cX5_walkerOf.data.toList.drop 96).take 16 = [42, 180, 0, 12, 27, 42, 180, 0, 12, 180, 0, 122, 27, 46, 182, 0] := by decide +kernel
theorem dwc_225 : (cX5_walkerOf.data.toList.drop 112).take 16 = [134, 172, 42, 180, 0, 12, 27, 3, 182, 0, 137, 172, 42, 16, 254, 182] := by decide +kernel
theorem dwc_226 : (cX5_walkerOf.data.toList.drop 128).take 16 = [0, 65, 172] := by decide +kernel
theorem dX5_walkerOf_0 : decode cX5_walkerOf 0 = .ok (.aload_n 0, 1) := dq_42 (dq_w dwc_219 0 rfl)
theorem dX5_walkerOf_1 : decode cX5_walkerOf 1 = .ok (.getfield 12, 3) := dq_180 (dq_w dwc_219 1 rfl) (dq_w dwc_219 2 rfl) (dq_w dwc_219 3 rfl) rfl
theorem dX5_walkerOf_4 : decode cX5_walkerOf 4 = .ok (.iload_n 1, 1) := dq_27 (dq_w dwc_219 4 rfl)
theorem dX5_walkerOf_5 : decode cX5_walkerOf 5 = .ok (.invokevirtual 119, 3) := dq_182 (dq_w dwc_219 5 rfl) (dq_w dwc_219 6 rfl) (dq_w dwc_219 7 rfl) rfl
theorem dX5_walkerOf_8 : decode cX5_walkerOf 8 = .ok (.ifCond .ne 9, 3) := dq_154 (dq_w dwc_219 8 rfl) (dq_w dwc_219 9 rfl) (dq_w dwc_219 10 rfl) (dq_p (n := 9) rfl rfl)
theorem dX5_walkerOf_11 : decode cX5_walkerOf 11 = .ok (.aload_n 0, 1) := dq_42 (dq_w dwc_219 11 rfl)
theorem dX5_walkerOf_12 : decode cX5_walkerOf 12 = .ok (.iconst (-1), 1) := dq_2 (dq_w dwc_219 12 rfl)
theorem dX5_walkerOf_13 : decode cX5_walkerOf 13 = .ok (.invokevirtual 65, 3) := dq_182 (dq_w dwc_219 13 rfl) (dq_w dwc_219 14 rfl) (dq_w dwc_219 15 rfl) rfl
theorem dX5_walkerOf_16 : decode cX5_walkerOf 16 = .ok (.ireturn, 1) := dq_172 (dq_w dwc_220 0 rfl)
theorem dX5_walkerOf_17 : decode cX5_walkerOf 17 = .ok (.iload_n 2, 1) := dq_28 (dq_w dwc_220 1 rfl)
theorem dX5_walkerOf_18 : decode cX5_walkerOf 18 = .ok (.tableswitch 106 0 5 #[38, 48, 58, 68, 78, 96], 38) := by decide +kernel
theorem dX5_walkerOf_56 : decode cX5_walkerOf 56 = .ok (.aload_n 0, 1) := dq_42 (dq_w dwc_221 8 rfl)
theorem dX5_walkerOf_57 : decode cX5_walkerOf 57 = .ok (.getfield 12, 3) := dq_180 (dq_w dwc_221 9 rfl) (dq_w dwc_221 10 rfl) (dq_w dwc_221 11 rfl) rfl
theorem dX5_walkerOf_60 : decode cX5_walkerOf 60 = .ok (.getfield 122, 3) := dq_180 (dq_w dwc_221 12 rfl) (dq_w dwc_221 13 rfl) (dq_w dwc_221 14 rfl) rfl
theorem dX5_walkerOf_63 : decode cX5_walkerOf 63 = .ok (.iload_n 1, 1) := dq_27 (dq_w dwc_221 15 rfl)
theorem dX5_walkerOf_64 : decode cX5_walkerOf 64 = .ok (.iaload, 1) := dq_46 (dq_w dwc_222 0 rfl)
theorem dX5_walkerOf_65 : decode cX5_walkerOf 65 = .ok (.ireturn, 1) := dq_172 (dq_w dwc_222 1 rfl)
theorem dX5_walkerOf_66 : decode cX5_walkerOf 66 = .ok (.aload_n 0, 1) := dq_42 (dq_w dwc_222 2 rfl)
theorem dX5_walkerOf_67 : decode cX5_walkerOf 67 = .ok (.getfield 12, 3) := dq_180 (dq_w dwc_222 3 rfl) (dq_w dwc_222 4 rfl) (dq_w dwc_222 5 rfl) rfl
theorem dX5_walkerOf_70 : decode cX5_walkerOf 70 = .ok (.getfield 125, 3) := dq_180 (dq_w dwc_222 6 rfl) (dq_w dwc_222 7 rfl) (dq_w dwc_222 8 rfl) rfl
theorem dX5_walkerOf_73 : decode cX5_walkerOf 73 = .ok (.iload_n 1, 1) := dq_27 (dq_w dwc_222 9 rfl)
theorem dX5_walkerOf_74 : decode cX5_walkerOf 74 = .ok (.iaload, 1) := dq_46 (dq_w dwc_222 10 rfl)
theorem dX5_walkerOf_75 : decode cX5_walkerOf 75 = .ok (.ireturn, 1) := dq_172 (dq_w dwc_222 11 rfl)
theorem dX5_walkerOf_76 : decode cX5_walkerOf 76 = .ok (.aload_n 0, 1) := dq_42 (dq_w dwc_222 12 rfl)
theorem dX5_walkerOf_77 : decode cX5_walkerOf 77 = .ok (.getfield 12, 3) := dq_180 (dq_w dwc_222 13 rfl) (dq_w dwc_222 14 rfl) (dq_w dwc_222 15 rfl) rfl
theorem dX5_walkerOf_80 : decode cX5_walkerOf 80 = .ok (.getfield 128, 3) := dq_180 (dq_w dwc_223 0 rfl) (dq_w dwc_223 1 rfl) (dq_w dwc_223 2 rfl) rfl
theorem dX5_walkerOf_83 : decode cX5_walkerOf 83 = .ok (.iload_n 1, 1) := dq_27 (dq_w dwc_223 3 rfl)
theorem dX5_walkerOf_84 : decode cX5_walkerOf 84 = .ok (.iaload, 1) := dq_46 (dq_w dwc_223 4 rfl)
theorem dX5_walkerOf_85 : decode cX5_walkerOf 85 = .ok (.ireturn, 1) := dq_172 (dq_w dwc_223 5 rfl)
theorem dX5_walkerOf_86 : decode cX5_walkerOf 86 = .ok (.aload_n 0, 1) := dq_42 (dq_w dwc_223 6 rfl)
theorem dX5_walkerOf_87 : decode cX5_walkerOf 87 = .ok (.getfield 12, 3) := dq_180 (dq_w dwc_223 7 rfl) (dq_w dwc_223 8 rfl) (dq_w dwc_223 9 rfl) rfl
theorem dX5_walkerOf_90 : decode cX5_walkerOf 90 = .ok (.iload_n 1, 1) := dq_27 (dq_w dwc_223 10 rfl)
theorem dX5_walkerOf_91 : decode cX5_walkerOf 91 = .ok (.iconst 0, 1) := dq_3 (dq_w dwc_223 11 rfl)
theorem dX5_walkerOf_92 : decode cX5_walkerOf 92 = .ok (.invokevirtual 131, 3) := dq_182 (dq_w dwc_223 12 rfl) (dq_w dwc_223 13 rfl) (dq_w dwc_223 14 rfl) rfl
theorem dX5_walkerOf_95 : decode cX5_walkerOf 95 = .ok (.ireturn, 1) := dq_172 (dq_w dwc_223 15 rfl)
theorem dX5_walkerOf_96 : decode cX5_walkerOf 96 = .ok (.aload_n 0, 1) := dq_42 (dq_w dwc_224 0 rfl)
theorem dX5_walkerOf_97 : decode cX5_walkerOf 97 = .ok (.getfield 12, 3) := dq_180 (dq_w dwc_224 1 rfl) (dq_w dwc_224 2 rfl) (dq_w dwc_224 3 rfl) rfl
theorem dX5_walkerOf_100 : decode cX5_walkerOf 100 = .ok (.iload_n 1, 1) := dq_27 (dq_w dwc_224 4 rfl)
theorem dX5_walkerOf_101 : decode cX5_walkerOf 101 = .ok (.aload_n 0, 1) := dq_42 (dq_w dwc_224 5 rfl)
theorem dX5_walkerOf_102 : decode cX5_walkerOf 102 = .ok (.getfield 12, 3) := dq_180 (dq_w dwc_224 6 rfl) (dq_w dwc_224 7 rfl) (dq_w dwc_224 8 rfl) rfl
theorem dX5_walkerOf_105 : decode cX5_walkerOf 105 = .ok (.getfield 122, 3) := dq_180 (dq_w dwc_224 9 rfl) (dq_w dwc_224 10 rfl) (dq_w dwc_224 11 rfl) rfl
theorem dX5_walkerOf_108 : decode cX5_walkerOf 108 = .ok (.iload_n 1, 1) := dq_27 (dq_w dwc_224 12 rfl)
theorem dX5_walkerOf_109 : decode cX5_walkerOf 109 = .ok (.iaload, 1) := dq_46 (dq_w dwc_224 13 rfl)
theorem dX5_walkerOf_110 : decode cX5_walkerOf 110 = .ok (.invokevirtual 134, 3) := dq_182 (dq_w dwc_224 14 rfl) (dq_w dwc_224 15 rfl) (dq_w dwc_225 0 rfl) rfl
theorem dX5_walkerOf_113 : decode cX5_walkerOf 113 = .ok (.ireturn, 1) := dq_172 (dq_w dwc_225 1 rfl)
theorem dX5_walkerOf_114 : decode cX5_walkerOf 114 = .ok (.aload_n 0, 1) := dq_42 (dq_w dwc_225 2 rfl)
theorem dX5_walkerOf_115 : decode cX5_walkerOf 115 = .ok (.getfield 12, 3) := dq_180 (dq_w dwc_225 3 rfl) (dq_w dwc_225 4 rfl) (dq_w dwc_225 5 rfl) rfl
theorem dX5_walkerOf_118 : decode cX5_walkerOf 118 = .ok (.iload_n 1, 1) := dq_27 (dq_w dwc_225 6 rfl)
theorem dX5_walkerOf_119 : decode cX5_walkerOf 119 = .ok (.iconst 0, 1) := dq_3 (dq_w dwc_225 7 rfl)
theorem dX5_walkerOf_120 : decode cX5_walkerOf 120 = .ok (.invokevirtual 137, 3) := dq_182 (dq_w dwc_225 8 rfl) (dq_w dwc_225 9 rfl) (dq_w dwc_225 10 rfl) rfl
theorem dX5_walkerOf_123 : decode cX5_walkerOf 123 = .ok (.ireturn, 1) := dq_172 (dq_w dwc_225 11 rfl)
theorem dX5_walkerOf_124 : decode cX5_walkerOf 124 = .ok (.aload_n 0, 1) := dq_42 (dq_w dwc_225 12 rfl)
theorem dX5_walkerOf_125 : decode cX5_walkerOf 125 = .ok (.bipush (-2), 2) := dq_16 (dq_w dwc_225 13 rfl) (dq_w dwc_225 14 rfl) rfl
theorem dX5_walkerOf_127 : decode cX5_walkerOf 127 = .ok (.invokevirtual 65, 3) := dq_182 (dq_w dwc_225 15 rfl) (dq_w dwc_226 0 rfl) (dq_w dwc_226 1 rfl) rfl
theorem dX5_walkerOf_130 : decode cX5_walkerOf 130 = .ok (.ireturn, 1) := dq_172 (dq_w dwc_226 2 rfl)
theorem dwc_227 : (cX5_age.data.toList.drop 0).take 16 = [42, 180, 0, 12, 27, 182, 0, 119, 153, 0, 14, 42, 180, 0, 12, 28] := by decide +kernel
theorem dwc_228 : (cX5_age.data.toList.drop 16).take 16 = [182, 0, 90, 154, 0, 9, 42, 2, 182, 0, 65, 172, 42, 180, 0, 12] := by decide +kernel
theorem dwc_229 : (cX5_age.data.toList.drop 32).take 16 = [27, 28, 182, 0, 140, 153, 0, 16, 42, 180, 0, 12, 27, 28, 3, 182] := by decide +kernel
theorem dwc_230 : (cX5_age.data.toList.drop 48).take 16 = [0, 144, 167, 0, 5, 16, 247, 172] := by decide +kernel
theorem dX5_age_0 : decode cX5_age 0 = .ok (.aload_n 0, 1) := dq_42 (dq_w dwc_227 0 rfl)
theorem dX5_age_1 : decode cX5_age 1 = .ok (.getfield 12, 3) := dq_180 (dq_w dwc_227 1 rfl) (dq_w dwc_227 2 rfl) (dq_w dwc_227 3 rfl) rfl
theorem dX5_age_4 : decode cX5_age 4 = .ok (.iload_n 1, 1) := dq_27 (dq_w dwc_227 4 rfl)
theorem dX5_age_5 : decode cX5_age 5 = .ok (.invokevirtual 119, 3) := dq_182 (dq_w dwc_227 5 rfl) (dq_w dwc_227 6 rfl) (dq_w dwc_227 7 rfl) rfl
theorem dX5_age_8 : decode cX5_age 8 = .ok (.ifCond .eq 14, 3) := dq_153 (dq_w dwc_227 8 rfl) (dq_w dwc_227 9 rfl) (dq_w dwc_227 10 rfl) (dq_p (n := 14) rfl rfl)
theorem dX5_age_11 : decode cX5_age 11 = .ok (.aload_n 0, 1) := dq_42 (dq_w dwc_227 11 rfl)
theorem dX5_age_12 : decode cX5_age 12 = .ok (.getfield 12, 3) := dq_180 (dq_w dwc_227 12 rfl) (dq_w dwc_227 13 rfl) (dq_w dwc_227 14 rfl) rfl
theorem dX5_age_15 : decode cX5_age 15 = .ok (.iload_n 2, 1) := dq_28 (dq_w dwc_227 15 rfl)
theorem dX5_age_16 : decode cX5_age 16 = .ok (.invokevirtual 90, 3) := dq_182 (dq_w dwc_228 0 rfl) (dq_w dwc_228 1 rfl) (dq_w dwc_228 2 rfl) rfl
theorem dX5_age_19 : decode cX5_age 19 = .ok (.ifCond .ne 9, 3) := dq_154 (dq_w dwc_228 3 rfl) (dq_w dwc_228 4 rfl) (dq_w dwc_228 5 rfl) (dq_p (n := 9) rfl rfl)
theorem dX5_age_22 : decode cX5_age 22 = .ok (.aload_n 0, 1) := dq_42 (dq_w dwc_228 6 rfl)
theorem dX5_age_23 : decode cX5_age 23 = .ok (.iconst (-1), 1) := dq_2 (dq_w dwc_228 7 rfl)
theorem dX5_age_24 : decode cX5_age 24 = .ok (.invokevirtual 65, 3) := dq_182 (dq_w dwc_228 8 rfl) (dq_w dwc_228 9 rfl) (dq_w dwc_228 10 rfl) rfl
theorem dX5_age_27 : decode cX5_age 27 = .ok (.ireturn, 1) := dq_172 (dq_w dwc_228 11 rfl)
theorem dX5_age_28 : decode cX5_age 28 = .ok (.aload_n 0, 1) := dq_42 (dq_w dwc_228 12 rfl)
theorem dX5_age_29 : decode cX5_age 29 = .ok (.getfield 12, 3) := dq_180 (dq_w dwc_228 13 rfl) (dq_w dwc_228 14 rfl) (dq_w dwc_228 15 rfl) rfl
theorem dX5_age_32 : decode cX5_age 32 = .ok (.iload_n 1, 1) := dq_27 (dq_w dwc_229 0 rfl)
theorem dX5_age_33 : decode cX5_age 33 = .ok (.iload_n 2, 1) := dq_28 (dq_w dwc_229 1 rfl)
theorem dX5_age_34 : decode cX5_age 34 = .ok (.invokevirtual 140, 3) := dq_182 (dq_w dwc_229 2 rfl) (dq_w dwc_229 3 rfl) (dq_w dwc_229 4 rfl) rfl
theorem dX5_age_37 : decode cX5_age 37 = .ok (.ifCond .eq 16, 3) := dq_153 (dq_w dwc_229 5 rfl) (dq_w dwc_229 6 rfl) (dq_w dwc_229 7 rfl) (dq_p (n := 16) rfl rfl)
theorem dX5_age_40 : decode cX5_age 40 = .ok (.aload_n 0, 1) := dq_42 (dq_w dwc_229 8 rfl)
theorem dX5_age_41 : decode cX5_age 41 = .ok (.getfield 12, 3) := dq_180 (dq_w dwc_229 9 rfl) (dq_w dwc_229 10 rfl) (dq_w dwc_229 11 rfl) rfl
theorem dX5_age_44 : decode cX5_age 44 = .ok (.iload_n 1, 1) := dq_27 (dq_w dwc_229 12 rfl)
theorem dX5_age_45 : decode cX5_age 45 = .ok (.iload_n 2, 1) := dq_28 (dq_w dwc_229 13 rfl)
theorem dX5_age_46 : decode cX5_age 46 = .ok (.iconst 0, 1) := dq_3 (dq_w dwc_229 14 rfl)
theorem dX5_age_47 : decode cX5_age 47 = .ok (.invokevirtual 144, 3) := dq_182 (dq_w dwc_229 15 rfl) (dq_w dwc_230 0 rfl) (dq_w dwc_230 1 rfl) rfl
theorem dX5_age_50 : decode cX5_age 50 = .ok (.goto 5, 3) := dq_167 (dq_w dwc_230 2 rfl) (dq_w dwc_230 3 rfl) (dq_w dwc_230 4 rfl) (dq_p (n := 5) rfl rfl)
theorem dX5_age_53 : decode cX5_age 53 = .ok (.bipush (-9), 2) := dq_16 (dq_w dwc_230 5 rfl) (dq_w dwc_230 6 rfl) rfl
theorem dX5_age_55 : decode cX5_age 55 = .ok (.ireturn, 1) := dq_172 (dq_w dwc_230 7 rfl)
theorem dwc_231 : (cX5_house.data.toList.drop 0).take 16 = [27, 155, 0, 9, 27, 16, 6, 161, 0, 10, 42, 16, 254, 182, 0, 65] := by decide +kernel
theorem dwc_232 : (cX5_house.data.toList.drop 16).take 16 = [172, 28, 156, 0, 10, 42, 16, 252, 182, 0, 65, 172, 28, 16, 10, 162] := by decide +kernel
theorem dwc_233 : (cX5_house.data.toList.drop 32).take 16 = [0, 15, 42, 180, 0, 12, 180, 0, 148, 16, 7, 161, 0, 10, 42, 16] := by decide +kernel
theorem dwc_234 : (cX5_house.data.toList.drop 48).take 16 = [250, 182, 0, 65, 172, 29, 184, 0, 151, 154, 0, 9, 42, 2, 182, 0] := by decide +kernel
theorem dwc_235 : (cX5_house.data.toList.drop 64).take 16 = [65, 172, 42, 180, 0, 12, 27, 28, 29, 182, 0, 154, 87, 42, 180, 0] := by decide +kernel
theorem dwc_236 : (cX5_house.data.toList.drop 80).take 16 = [29, 182, 0, 87, 42, 180, 0, 12, 180, 0, 148, 4, 100, 172] := by decide +kernel
theorem dX5_house_0 : decode cX5_house 0 = .ok (.iload_n 1, 1) := dq_27 (dq_w dwc_231 0 rfl)
theorem dX5_house_1 : decode cX5_house 1 = .ok (.ifCond .lt 9, 3) := dq_155 (dq_w dwc_231 1 rfl) (dq_w dwc_231 2 rfl) (dq_w dwc_231 3 rfl) (dq_p (n := 9) rfl rfl)
theorem dX5_house_4 : decode cX5_house 4 = .ok (.iload_n 1, 1) := dq_27 (dq_w dwc_231 4 rfl)
theorem dX5_house_5 : decode cX5_house 5 = .ok (.bipush 6, 2) := dq_16 (dq_w dwc_231 5 rfl) (dq_w dwc_231 6 rfl) rfl
theorem dX5_house_7 : decode cX5_house 7 = .ok (.if_icmp .lt 10, 3) := dq_161 (dq_w dwc_231 7 rfl) (dq_w dwc_231 8 rfl) (dq_w dwc_231 9 rfl) (dq_p (n := 10) rfl rfl)
theorem dX5_house_10 : decode cX5_house 10 = .ok (.aload_n 0, 1) := dq_42 (dq_w dwc_231 10 rfl)
theorem dX5_house_11 : decode cX5_house 11 = .ok (.bipush (-2), 2) := dq_16 (dq_w dwc_231 11 rfl) (dq_w dwc_231 12 rfl) rfl
theorem dX5_house_13 : decode cX5_house 13 = .ok (.invokevirtual 65, 3) := dq_182 (dq_w dwc_231 13 rfl) (dq_w dwc_231 14 rfl) (dq_w dwc_231 15 rfl) rfl
theorem dX5_house_16 : decode cX5_house 16 = .ok (.ireturn, 1) := dq_172 (dq_w dwc_232 0 rfl)
theorem dX5_house_17 : decode cX5_house 17 = .ok (.iload_n 2, 1) := dq_28 (dq_w dwc_232 1 rfl)
theorem dX5_house_18 : decode cX5_house 18 = .ok (.ifCond .ge 10, 3) := dq_156 (dq_w dwc_232 2 rfl) (dq_w dwc_232 3 rfl) (dq_w dwc_232 4 rfl) (dq_p (n := 10) rfl rfl)
theorem dX5_house_21 : decode cX5_house 21 = .ok (.aload_n 0, 1) := dq_42 (dq_w dwc_232 5 rfl)
theorem dX5_house_22 : decode cX5_house 22 = .ok (.bipush (-4), 2) := dq_16 (dq_w dwc_232 6 rfl) (dq_w dwc_232 7 rfl) rfl
theorem dX5_house_24 : decode cX5_house 24 = .ok (.invokevirtual 65, 3) := dq_182 (dq_w dwc_232 8 rfl) (dq_w dwc_232 9 rfl) (dq_w dwc_232 10 rfl) rfl
theorem dX5_house_27 : decode cX5_house 27 = .ok (.ireturn, 1) := dq_172 (dq_w dwc_232 11 rfl)
theorem dX5_house_28 : decode cX5_house 28 = .ok (.iload_n 2, 1) := dq_28 (dq_w dwc_232 12 rfl)
theorem dX5_house_29 : decode cX5_house 29 = .ok (.bipush 10, 2) := dq_16 (dq_w dwc_232 13 rfl) (dq_w dwc_232 14 rfl) rfl
theorem dX5_house_31 : decode cX5_house 31 = .ok (.if_icmp .ge 15, 3) := dq_162 (dq_w dwc_232 15 rfl) (dq_w dwc_233 0 rfl) (dq_w dwc_233 1 rfl) (dq_p (n := 15) rfl rfl)
theorem dX5_house_34 : decode cX5_house 34 = .ok (.aload_n 0, 1) := dq_42 (dq_w dwc_233 2 rfl)
theorem dX5_house_35 : decode cX5_house 35 = .ok (.getfield 12, 3) := dq_180 (dq_w dwc_233 3 rfl) (dq_w dwc_233 4 rfl) (dq_w dwc_233 5 rfl) rfl
theorem dX5_house_38 : decode cX5_house 38 = .ok (.getfield 148, 3) := dq_180 (dq_w dwc_233 6 rfl) (dq_w dwc_233 7 rfl) (dq_w dwc_233 8 rfl) rfl
theorem dX5_house_41 : decode cX5_house 41 = .ok (.bipush 7, 2) := dq_16 (dq_w dwc_233 9 rfl) (dq_w dwc_233 10 rfl) rfl
theorem dX5_house_43 : decode cX5_house 43 = .ok (.if_icmp .lt 10, 3) := dq_161 (dq_w dwc_233 11 rfl) (dq_w dwc_233 12 rfl) (dq_w dwc_233 13 rfl) (dq_p (n := 10) rfl rfl)
theorem dX5_house_46 : decode cX5_house 46 = .ok (.aload_n 0, 1) := dq_42 (dq_w dwc_233 14 rfl)
theorem dX5_house_47 : decode cX5_house 47 = .ok (.bipush (-6), 2) := dq_16 (dq_w dwc_233 15 rfl) (dq_w dwc_234 0 rfl) rfl
theorem dX5_house_49 : decode cX5_house 49 = .ok (.invokevirtual 65, 3) := dq_182 (dq_w dwc_234 1 rfl) (dq_w dwc_234 2 rfl) (dq_w dwc_234 3 rfl) rfl
theorem dX5_house_52 : decode cX5_house 52 = .ok (.ireturn, 1) := dq_172 (dq_w dwc_234 4 rfl)
theorem dX5_house_53 : decode cX5_house 53 = .ok (.iload_n 3, 1) := dq_29 (dq_w dwc_234 5 rfl)
theorem dX5_house_54 : decode cX5_house 54 = .ok (.invokestatic 151, 3) := dq_184 (dq_w dwc_234 6 rfl) (dq_w dwc_234 7 rfl) (dq_w dwc_234 8 rfl) rfl
theorem dX5_house_57 : decode cX5_house 57 = .ok (.ifCond .ne 9, 3) := dq_154 (dq_w dwc_234 9 rfl) (dq_w dwc_234 10 rfl) (dq_w dwc_234 11 rfl) (dq_p (n := 9) rfl rfl)
theorem dX5_house_60 : decode cX5_house 60 = .ok (.aload_n 0, 1) := dq_42 (dq_w dwc_234 12 rfl)
theorem dX5_house_61 : decode cX5_house 61 = .ok (.iconst (-1), 1) := dq_2 (dq_w dwc_234 13 rfl)
theorem dX5_house_62 : decode cX5_house 62 = .ok (.invokevirtual 65, 3) := dq_182 (dq_w dwc_234 14 rfl) (dq_w dwc_234 15 rfl) (dq_w dwc_235 0 rfl) rfl
theorem dX5_house_65 : decode cX5_house 65 = .ok (.ireturn, 1) := dq_172 (dq_w dwc_235 1 rfl)
theorem dX5_house_66 : decode cX5_house 66 = .ok (.aload_n 0, 1) := dq_42 (dq_w dwc_235 2 rfl)
theorem dX5_house_67 : decode cX5_house 67 = .ok (.getfield 12, 3) := dq_180 (dq_w dwc_235 3 rfl) (dq_w dwc_235 4 rfl) (dq_w dwc_235 5 rfl) rfl
theorem dX5_house_70 : decode cX5_house 70 = .ok (.iload_n 1, 1) := dq_27 (dq_w dwc_235 6 rfl)
theorem dX5_house_71 : decode cX5_house 71 = .ok (.iload_n 2, 1) := dq_28 (dq_w dwc_235 7 rfl)
theorem dX5_house_72 : decode cX5_house 72 = .ok (.iload_n 3, 1) := dq_29 (dq_w dwc_235 8 rfl)
theorem dX5_house_73 : decode cX5_house 73 = .ok (.invokevirtual 154, 3) := dq_182 (dq_w dwc_235 9 rfl) (dq_w dwc_235 10 rfl) (dq_w dwc_235 11 rfl) rfl
theorem dX5_house_76 : decode cX5_house 76 = .ok (.pop, 1) := dq_87 (dq_w dwc_235 12 rfl)
theorem dX5_house_77 : decode cX5_house 77 = .ok (.aload_n 0, 1) := dq_42 (dq_w dwc_235 13 rfl)
theorem dX5_house_78 : decode cX5_house 78 = .ok (.getfield 29, 3) := dq_180 (dq_w dwc_235 14 rfl) (dq_w dwc_235 15 rfl) (dq_w dwc_236 0 rfl) rfl
theorem dX5_house_81 : decode cX5_house 81 = .ok (.invokevirtual 87, 3) := dq_182 (dq_w dwc_236 1 rfl) (dq_w dwc_236 2 rfl) (dq_w dwc_236 3 rfl) rfl
theorem dX5_house_84 : decode cX5_house 84 = .ok (.aload_n 0, 1) := dq_42 (dq_w dwc_236 4 rfl)
theorem dX5_house_85 : decode cX5_house 85 = .ok (.getfield 12, 3) := dq_180 (dq_w dwc_236 5 rfl) (dq_w dwc_236 6 rfl) (dq_w dwc_236 7 rfl) rfl
theorem dX5_house_88 : decode cX5_house 88 = .ok (.getfield 148, 3) := dq_180 (dq_w dwc_236 8 rfl) (dq_w dwc_236 9 rfl) (dq_w dwc_236 10 rfl) rfl
theorem dX5_house_91 : decode cX5_house 91 = .ok (.iconst 1, 1) := dq_4 (dq_w dwc_236 11 rfl)
theorem dX5_house_92 : decode cX5_house 92 = .ok (.isub, 1) := dq_100 (dq_w dwc_236 12 rfl)
theorem dX5_house_93 : decode cX5_house 93 = .ok (.ireturn, 1) := dq_172 (dq_w dwc_236 13 rfl)
theorem dwc_237 : (cX5_walker.data.toList.drop 0).take 16 = [27, 184, 0, 151, 153, 0, 10, 28, 184, 0, 151, 154, 0, 9, 42, 2] := by decide +kernel
theorem dwc_238 : (cX5_walker.data.toList.drop 16).take 16 = [182, 0, 65, 172, 29, 156, 0, 10, 42, 16, 252, 182, 0, 65, 172, 29] := by decide +kernel
theorem dwc_239 : (cX5_walker.data.toList.drop 32).take 16 = [5, 163, 0, 15, 42, 180, 0, 12, 180, 0, 158, 16, 6, 161, 0, 10] := by decide +kernel
theorem dwc_240 : (cX5_walker.data.toList.drop 48).take 16 = [42, 16, 250, 182, 0, 65, 172, 42, 180, 0, 12, 27, 28, 29, 182, 0] := by decide +kernel
theorem dwc_241 : (cX5_walker.data.toList.drop 64).take 16 = [161, 87, 42, 180, 0, 29, 182, 0, 87, 42, 180, 0, 12, 180, 0, 158] := by decide +kernel
theorem dwc_242 : (cX5_walker.data.toList.drop 80).take 16 = [4, 100, 172] := by decide +kernel
theorem dX5_walker_0 : decode cX5_walker 0 = .ok (.iload_n 1, 1) := dq_27 (dq_w dwc_237 0 rfl)
theorem dX5_walker_1 : decode cX5_walker 1 = .ok (.invokestatic 151, 3) := dq_184 (dq_w dwc_237 1 rfl) (dq_w dwc_237 2 rfl) (dq_w dwc_237 3 rfl) rfl
theorem dX5_walker_4 : decode cX5_walker 4 = .ok (.ifCond .eq 10, 3) := dq_153 (dq_w dwc_237 4 rfl) (dq_w dwc_237 5 rfl) (dq_w dwc_237 6 rfl) (dq_p (n := 10) rfl rfl)
theorem dX5_walker_7 : decode cX5_walker 7 = .ok (.iload_n 2, 1) := dq_28 (dq_w dwc_237 7 rfl)
theorem dX5_walker_8 : decode cX5_walker 8 = .ok (.invokestatic 151, 3) := dq_184 (dq_w dwc_237 8 rfl) (dq_w dwc_237 9 rfl) (dq_w dwc_237 10 rfl) rfl
theorem dX5_walker_11 : decode cX5_walker 11 = .ok (.ifCond .ne 9, 3) := dq_154 (dq_w dwc_237 11 rfl) (dq_w dwc_237 12 rfl) (dq_w dwc_237 13 rfl) (dq_p (n := 9) rfl rfl)
theorem dX5_walker_14 : decode cX5_walker 14 = .ok (.aload_n 0, 1) := dq_42 (dq_w dwc_237 14 rfl)
theorem dX5_walker_15 : decode cX5_walker 15 = .ok (.iconst (-1), 1) := dq_2 (dq_w dwc_237 15 rfl)
theorem dX5_walker_16 : decode cX5_walker 16 = .ok (.invokevirtual 65, 3) := dq_182 (dq_w dwc_238 0 rfl) (dq_w dwc_238 1 rfl) (dq_w dwc_238 2 rfl) rfl
theorem dX5_walker_19 : decode cX5_walker 19 = .ok (.ireturn, 1) := dq_172 (dq_w dwc_238 3 rfl)
theorem dX5_walker_20 : decode cX5_walker 20 = .ok (.iload_n 3, 1) := dq_29 (dq_w dwc_238 4 rfl)
theorem dX5_walker_21 : decode cX5_walker 21 = .ok (.ifCond .ge 10, 3) := dq_156 (dq_w dwc_238 5 rfl) (dq_w dwc_238 6 rfl) (dq_w dwc_238 7 rfl) (dq_p (n := 10) rfl rfl)
theorem dX5_walker_24 : decode cX5_walker 24 = .ok (.aload_n 0, 1) := dq_42 (dq_w dwc_238 8 rfl)
theorem dX5_walker_25 : decode cX5_walker 25 = .ok (.bipush (-4), 2) := dq_16 (dq_w dwc_238 9 rfl) (dq_w dwc_238 10 rfl) rfl
theorem dX5_walker_27 : decode cX5_walker 27 = .ok (.invokevirtual 65, 3) := dq_182 (dq_w dwc_238 11 rfl) (dq_w dwc_238 12 rfl) (dq_w dwc_238 13 rfl) rfl
theorem dX5_walker_30 : decode cX5_walker 30 = .ok (.ireturn, 1) := dq_172 (dq_w dwc_238 14 rfl)
theorem dX5_walker_31 : decode cX5_walker 31 = .ok (.iload_n 3, 1) := dq_29 (dq_w dwc_238 15 rfl)
theorem dX5_walker_32 : decode cX5_walker 32 = .ok (.iconst 2, 1) := dq_5 (dq_w dwc_239 0 rfl)
theorem dX5_walker_33 : decode cX5_walker 33 = .ok (.if_icmp .gt 15, 3) := dq_163 (dq_w dwc_239 1 rfl) (dq_w dwc_239 2 rfl) (dq_w dwc_239 3 rfl) (dq_p (n := 15) rfl rfl)
theorem dX5_walker_36 : decode cX5_walker 36 = .ok (.aload_n 0, 1) := dq_42 (dq_w dwc_239 4 rfl)
theorem dX5_walker_37 : decode cX5_walker 37 = .ok (.getfield 12, 3) := dq_180 (dq_w dwc_239 5 rfl) (dq_w dwc_239 6 rfl) (dq_w dwc_239 7 rfl) rfl
theorem dX5_walker_40 : decode cX5_walker 40 = .ok (.getfield 158, 3) := dq_180 (dq_w dwc_239 8 rfl) (dq_w dwc_239 9 rfl) (dq_w dwc_239 10 rfl) rfl
theorem dX5_walker_43 : decode cX5_walker 43 = .ok (.bipush 6, 2) := dq_16 (dq_w dwc_239 11 rfl) (dq_w dwc_239 12 rfl) rfl
theorem dX5_walker_45 : decode cX5_walker 45 = .ok (.if_icmp .lt 10, 3) := dq_161 (dq_w dwc_239 13 rfl) (dq_w dwc_239 14 rfl) (dq_w dwc_239 15 rfl) (dq_p (n := 10) rfl rfl)
theorem dX5_walker_48 : decode cX5_walker 48 = .ok (.aload_n 0, 1) := dq_42 (dq_w dwc_240 0 rfl)
theorem dX5_walker_49 : decode cX5_walker 49 = .ok (.bipush (-6), 2) := dq_16 (dq_w dwc_240 1 rfl) (dq_w dwc_240 2 rfl) rfl
theorem dX5_walker_51 : decode cX5_walker 51 = .ok (.invokevirtual 65, 3) := dq_182 (dq_w dwc_240 3 rfl) (dq_w dwc_240 4 rfl) (dq_w dwc_240 5 rfl) rfl
theorem dX5_walker_54 : decode cX5_walker 54 = .ok (.ireturn, 1) := dq_172 (dq_w dwc_240 6 rfl)
theorem dX5_walker_55 : decode cX5_walker 55 = .ok (.aload_n 0, 1) := dq_42 (dq_w dwc_240 7 rfl)
theorem dX5_walker_56 : decode cX5_walker 56 = .ok (.getfield 12, 3) := dq_180 (dq_w dwc_240 8 rfl) (dq_w dwc_240 9 rfl) (dq_w dwc_240 10 rfl) rfl
theorem dX5_walker_59 : decode cX5_walker 59 = .ok (.iload_n 1, 1) := dq_27 (dq_w dwc_240 11 rfl)
theorem dX5_walker_60 : decode cX5_walker 60 = .ok (.iload_n 2, 1) := dq_28 (dq_w dwc_240 12 rfl)
theorem dX5_walker_61 : decode cX5_walker 61 = .ok (.iload_n 3, 1) := dq_29 (dq_w dwc_240 13 rfl)
theorem dX5_walker_62 : decode cX5_walker 62 = .ok (.invokevirtual 161, 3) := dq_182 (dq_w dwc_240 14 rfl) (dq_w dwc_240 15 rfl) (dq_w dwc_241 0 rfl) rfl
theorem dX5_walker_65 : decode cX5_walker 65 = .ok (.pop, 1) := dq_87 (dq_w dwc_241 1 rfl)
theorem dX5_walker_66 : decode cX5_walker 66 = .ok (.aload_n 0, 1) := dq_42 (dq_w dwc_241 2 rfl)
theorem dX5_walker_67 : decode cX5_walker 67 = .ok (.getfield 29, 3) := dq_180 (dq_w dwc_241 3 rfl) (dq_w dwc_241 4 rfl) (dq_w dwc_241 5 rfl) rfl
theorem dX5_walker_70 : decode cX5_walker 70 = .ok (.invokevirtual 87, 3) := dq_182 (dq_w dwc_241 6 rfl) (dq_w dwc_241 7 rfl) (dq_w dwc_241 8 rfl) rfl
theorem dX5_walker_73 : decode cX5_walker 73 = .ok (.aload_n 0, 1) := dq_42 (dq_w dwc_241 9 rfl)
theorem dX5_walker_74 : decode cX5_walker 74 = .ok (.getfield 12, 3) := dq_180 (dq_w dwc_241 10 rfl) (dq_w dwc_241 11 rfl) (dq_w dwc_241 12 rfl) rfl
theorem dX5_walker_77 : decode cX5_walker 77 = .ok (.getfield 158, 3) := dq_180 (dq_w dwc_241 13 rfl) (dq_w dwc_241 14 rfl) (dq_w dwc_241 15 rfl) rfl
theorem dX5_walker_80 : decode cX5_walker 80 = .ok (.iconst 1, 1) := dq_4 (dq_w dwc_242 0 rfl)
theorem dX5_walker_81 : decode cX5_walker 81 = .ok (.isub, 1) := dq_100 (dq_w dwc_242 1 rfl)
theorem dX5_walker_82 : decode cX5_walker 82 = .ok (.ireturn, 1) := dq_172 (dq_w dwc_242 2 rfl)
theorem dwc_243 : (cX5_lights.data.toList.drop 0).take 16 = [42, 180, 0, 12, 27, 182, 0, 90, 154, 0, 9, 42, 2, 182, 0, 65] := by decide +kernel
theorem dwc_244 : (cX5_lights.data.toList.drop 16).take 16 = [172, 42, 180, 0, 29, 42, 180, 0, 12, 182, 0, 164, 42, 180, 0, 12] := by decide +kernel
theorem dwc_245 : (cX5_lights.data.toList.drop 32).take 16 = [27, 182, 0, 167, 87, 42, 180, 0, 12, 27, 182, 0, 103, 153, 0, 7] := by decide +kernel
theorem dwc_246 : (cX5_lights.data.toList.drop 48).take 16 = [4, 167, 0, 4, 3, 172] := by decide +kernel
theorem dX5_lights_0 : decode cX5_lights 0 = .ok (.aload_n 0, 1) := dq_42 (dq_w dwc_243 0 rfl)
theorem dX5_lights_1 : decode cX5_lights 1 = .ok (.getfield 12, 3) := dq_180 (dq_w dwc_243 1 rfl) (dq_w dwc_243 2 rfl) (dq_w dwc_243 3 rfl) rfl
theorem dX5_lights_4 : decode cX5_lights 4 = .ok (.iload_n 1, 1) := dq_27 (dq_w dwc_243 4 rfl)
theorem dX5_lights_5 : decode cX5_lights 5 = .ok (.invokevirtual 90, 3) := dq_182 (dq_w dwc_243 5 rfl) (dq_w dwc_243 6 rfl) (dq_w dwc_243 7 rfl) rfl
theorem dX5_lights_8 : decode cX5_lights 8 = .ok (.ifCond .ne 9, 3) := dq_154 (dq_w dwc_243 8 rfl) (dq_w dwc_243 9 rfl) (dq_w dwc_243 10 rfl) (dq_p (n := 9) rfl rfl)
theorem dX5_lights_11 : decode cX5_lights 11 = .ok (.aload_n 0, 1) := dq_42 (dq_w dwc_243 11 rfl)
theorem dX5_lights_12 : decode cX5_lights 12 = .ok (.iconst (-1), 1) := dq_2 (dq_w dwc_243 12 rfl)
theorem dX5_lights_13 : decode cX5_lights 13 = .ok (.invokevirtual 65, 3) := dq_182 (dq_w dwc_243 13 rfl) (dq_w dwc_243 14 rfl) (dq_w dwc_243 15 rfl) rfl
theorem dX5_lights_16 : decode cX5_lights 16 = .ok (.ireturn, 1) := dq_172 (dq_w dwc_244 0 rfl)
theorem dX5_lights_17 : decode cX5_lights 17 = .ok (.aload_n 0, 1) := dq_42 (dq_w dwc_244 1 rfl)
theorem dX5_lights_18 : decode cX5_lights 18 = .ok (.getfield 29, 3) := dq_180 (dq_w dwc_244 2 rfl) (dq_w dwc_244 3 rfl) (dq_w dwc_244 4 rfl) rfl
theorem dX5_lights_21 : decode cX5_lights 21 = .ok (.aload_n 0, 1) := dq_42 (dq_w dwc_244 5 rfl)
theorem dX5_lights_22 : decode cX5_lights 22 = .ok (.getfield 12, 3) := dq_180 (dq_w dwc_244 6 rfl) (dq_w dwc_244 7 rfl) (dq_w dwc_244 8 rfl) rfl
theorem dX5_lights_25 : decode cX5_lights 25 = .ok (.invokevirtual 164, 3) := dq_182 (dq_w dwc_244 9 rfl) (dq_w dwc_244 10 rfl) (dq_w dwc_244 11 rfl) rfl
theorem dX5_lights_28 : decode cX5_lights 28 = .ok (.aload_n 0, 1) := dq_42 (dq_w dwc_244 12 rfl)
theorem dX5_lights_29 : decode cX5_lights 29 = .ok (.getfield 12, 3) := dq_180 (dq_w dwc_244 13 rfl) (dq_w dwc_244 14 rfl) (dq_w dwc_244 15 rfl) rfl
theorem dX5_lights_32 : decode cX5_lights 32 = .ok (.iload_n 1, 1) := dq_27 (dq_w dwc_245 0 rfl)
theorem dX5_lights_33 : decode cX5_lights 33 = .ok (.invokevirtual 167, 3) := dq_182 (dq_w dwc_245 1 rfl) (dq_w dwc_245 2 rfl) (dq_w dwc_245 3 rfl) rfl
theorem dX5_lights_36 : decode cX5_lights 36 = .ok (.pop, 1) := dq_87 (dq_w dwc_245 4 rfl)
theorem dX5_lights_37 : decode cX5_lights 37 = .ok (.aload_n 0, 1) := dq_42 (dq_w dwc_245 5 rfl)
theorem dX5_lights_38 : decode cX5_lights 38 = .ok (.getfield 12, 3) := dq_180 (dq_w dwc_245 6 rfl) (dq_w dwc_245 7 rfl) (dq_w dwc_245 8 rfl) rfl
theorem dX5_lights_41 : decode cX5_lights 41 = .ok (.iload_n 1, 1) := dq_27 (dq_w dwc_245 9 rfl)
theorem dX5_lights_42 : decode cX5_lights 42 = .ok (.invokevirtual 103, 3) := dq_182 (dq_w dwc_245 10 rfl) (dq_w dwc_245 11 rfl) (dq_w dwc_245 12 rfl) rfl
theorem dX5_lights_45 : decode cX5_lights 45 = .ok (.ifCond .eq 7, 3) := dq_153 (dq_w dwc_245 13 rfl) (dq_w dwc_245 14 rfl) (dq_w dwc_245 15 rfl) (dq_p (n := 7) rfl rfl)
theorem dX5_lights_48 : decode cX5_lights 48 = .ok (.iconst 1, 1) := dq_4 (dq_w dwc_246 0 rfl)
theorem dX5_lights_49 : decode cX5_lights 49 = .ok (.goto 4, 3) := dq_167 (dq_w dwc_246 1 rfl) (dq_w dwc_246 2 rfl) (dq_w dwc_246 3 rfl) (dq_p (n := 4) rfl rfl)
theorem dX5_lights_52 : decode cX5_lights 52 = .ok (.iconst 0, 1) := dq_3 (dq_w dwc_246 4 rfl)
theorem dX5_lights_53 : decode cX5_lights 53 = .ok (.ireturn, 1) := dq_172 (dq_w dwc_246 5 rfl)
theorem dwc_247 : (cX5_goals.data.toList.drop 0).take 16 = [42, 180, 0, 12, 27, 182, 0, 119, 153, 0, 10, 28, 184, 0, 151, 154] := by decide +kernel
theorem dwc_248 : (cX5_goals.data.toList.drop 16).take 16 = [0, 9, 42, 2, 182, 0, 65, 172, 42, 180, 0, 12, 180, 0, 125, 27] := by decide +kernel
theorem dwc_249 : (cX5_goals.data.toList.drop 32).take 16 = [46, 62, 42, 180, 0, 29, 42, 180, 0, 12, 182, 0, 164, 42, 180, 0] := by decide +kernel
theorem dwc_250 : (cX5_goals.data.toList.drop 48).take 16 = [12, 27, 28, 182, 0, 170, 87, 29, 172] := by decide +kernel
theorem dX5_goals_0 : decode cX5_goals 0 = .ok (.aload_n 0, 1) := dq_42 (dq_w dwc_247 0 rfl)
theorem dX5_goals_1 : decode cX5_goals 1 = .ok (.getfield 12, 3) := dq_180 (dq_w dwc_247 1 rfl) (dq_w dwc_247 2 rfl) (dq_w dwc_247 3 rfl) rfl
theorem dX5_goals_4 : decode cX5_goals 4 = .ok (.iload_n 1, 1) := dq_27 (dq_w dwc_247 4 rfl)
theorem dX5_goals_5 : decode cX5_goals 5 = .ok (.invokevirtual 119, 3) := dq_182 (dq_w dwc_247 5 rfl) (dq_w dwc_247 6 rfl) (dq_w dwc_247 7 rfl) rfl
theorem dX5_goals_8 : decode cX5_goals 8 = .ok (.ifCond .eq 10, 3) := dq_153 (dq_w dwc_247 8 rfl) (dq_w dwc_247 9 rfl) (dq_w dwc_247 10 rfl) (dq_p (n := 10) rfl rfl)
theorem dX5_goals_11 : decode cX5_goals 11 = .ok (.iload_n 2, 1) := dq_28 (dq_w dwc_247 11 rfl)
theorem dX5_goals_12 : decode cX5_goals 12 = .ok (.invokestatic 151, 3) := dq_184 (dq_w dwc_247 12 rfl) (dq_w dwc_247 13 rfl) (dq_w dwc_247 14 rfl) rfl
theorem dX5_goals_15 : decode cX5_goals 15 = .ok (.ifCond .ne 9, 3) := dq_154 (dq_w dwc_247 15 rfl) (dq_w dwc_248 0 rfl) (dq_w dwc_248 1 rfl) (dq_p (n := 9) rfl rfl)
theorem dX5_goals_18 : decode cX5_goals 18 = .ok (.aload_n 0, 1) := dq_42 (dq_w dwc_248 2 rfl)
theorem dX5_goals_19 : decode cX5_goals 19 = .ok (.iconst (-1), 1) := dq_2 (dq_w dwc_248 3 rfl)
theorem dX5_goals_20 : decode cX5_goals 20 = .ok (.invokevirtual 65, 3) := dq_182 (dq_w dwc_248 4 rfl) (dq_w dwc_248 5 rfl) (dq_w dwc_248 6 rfl) rfl
theorem dX5_goals_23 : decode cX5_goals 23 = .ok (.ireturn, 1) := dq_172 (dq_w dwc_248 7 rfl)
theorem dX5_goals_24 : decode cX5_goals 24 = .ok (.aload_n 0, 1) := dq_42 (dq_w dwc_248 8 rfl)
theorem dX5_goals_25 : decode cX5_goals 25 = .ok (.getfield 12, 3) := dq_180 (dq_w dwc_248 9 rfl) (dq_w dwc_248 10 rfl) (dq_w dwc_248 11 rfl) rfl
theorem dX5_goals_28 : decode cX5_goals 28 = .ok (.getfield 125, 3) := dq_180 (dq_w dwc_248 12 rfl) (dq_w dwc_248 13 rfl) (dq_w dwc_248 14 rfl) rfl
theorem dX5_goals_31 : decode cX5_goals 31 = .ok (.iload_n 1, 1) := dq_27 (dq_w dwc_248 15 rfl)
theorem dX5_goals_32 : decode cX5_goals 32 = .ok (.iaload, 1) := dq_46 (dq_w dwc_249 0 rfl)
theorem dX5_goals_33 : decode cX5_goals 33 = .ok (.istore_n 3, 1) := dq_62 (dq_w dwc_249 1 rfl)
theorem dX5_goals_34 : decode cX5_goals 34 = .ok (.aload_n 0, 1) := dq_42 (dq_w dwc_249 2 rfl)
theorem dX5_goals_35 : decode cX5_goals 35 = .ok (.getfield 29, 3) := dq_180 (dq_w dwc_249 3 rfl) (dq_w dwc_249 4 rfl) (dq_w dwc_249 5 rfl) rfl
theorem dX5_goals_38 : decode cX5_goals 38 = .ok (.aload_n 0, 1) := dq_42 (dq_w dwc_249 6 rfl)
theorem dX5_goals_39 : decode cX5_goals 39 = .ok (.getfield 12, 3) := dq_180 (dq_w dwc_249 7 rfl) (dq_w dwc_249 8 rfl) (dq_w dwc_249 9 rfl) rfl
theorem dX5_goals_42 : decode cX5_goals 42 = .ok (.invokevirtual 164, 3) := dq_182 (dq_w dwc_249 10 rfl) (dq_w dwc_249 11 rfl) (dq_w dwc_249 12 rfl) rfl
theorem dX5_goals_45 : decode cX5_goals 45 = .ok (.aload_n 0, 1) := dq_42 (dq_w dwc_249 13 rfl)
theorem dX5_goals_46 : decode cX5_goals 46 = .ok (.getfield 12, 3) := dq_180 (dq_w dwc_249 14 rfl) (dq_w dwc_249 15 rfl) (dq_w dwc_250 0 rfl) rfl
theorem dX5_goals_49 : decode cX5_goals 49 = .ok (.iload_n 1, 1) := dq_27 (dq_w dwc_250 1 rfl)
theorem dX5_goals_50 : decode cX5_goals 50 = .ok (.iload_n 2, 1) := dq_28 (dq_w dwc_250 2 rfl)
theorem dX5_goals_51 : decode cX5_goals 51 = .ok (.invokevirtual 170, 3) := dq_182 (dq_w dwc_250 3 rfl) (dq_w dwc_250 4 rfl) (dq_w dwc_250 5 rfl) rfl
theorem dX5_goals_54 : decode cX5_goals 54 = .ok (.pop, 1) := dq_87 (dq_w dwc_250 6 rfl)
theorem dX5_goals_55 : decode cX5_goals 55 = .ok (.iload_n 3, 1) := dq_29 (dq_w dwc_250 7 rfl)
theorem dX5_goals_56 : decode cX5_goals 56 = .ok (.ireturn, 1) := dq_172 (dq_w dwc_250 8 rfl)
theorem dwc_251 : (cX5_visits.data.toList.drop 0).take 16 = [42, 180, 0, 12, 27, 182, 0, 119, 153, 0, 14, 42, 180, 0, 12, 28] := by decide +kernel
theorem dwc_252 : (cX5_visits.data.toList.drop 16).take 16 = [182, 0, 90, 154, 0, 9, 42, 2, 182, 0, 65, 172, 42, 180, 0, 12] := by decide +kernel
theorem dwc_253 : (cX5_visits.data.toList.drop 32).take 16 = [27, 28, 182, 0, 140, 153, 0, 24, 42, 180, 0, 12, 180, 0, 122, 27] := by decide +kernel
theorem dwc_254 : (cX5_visits.data.toList.drop 48).take 16 = [46, 42, 180, 0, 12, 180, 0, 100, 28, 46, 159, 0, 10, 42, 16, 253] := by decide +kernel
theorem dwc_255 : (cX5_visits.data.toList.drop 64).take 16 = [182, 0, 65, 172, 42, 180, 0, 12, 27, 28, 3, 182, 0, 173, 62, 42] := by decide +kernel
theorem dwc_256 : (cX5_visits.data.toList.drop 80).take 16 = [180, 0, 29, 42, 180, 0, 12, 182, 0, 164, 42, 180, 0, 12, 27, 28] := by decide +kernel
theorem dwc_257 : (cX5_visits.data.toList.drop 96).take 16 = [2, 182, 0, 176, 29, 172] := by decide +kernel
theorem dX5_visits_0 : decode cX5_visits 0 = .ok (.aload_n 0, 1) := dq_42 (dq_w dwc_251 0 rfl)
theorem dX5_visits_1 : decode cX5_visits 1 = .ok (.getfield 12, 3) := dq_180 (dq_w dwc_251 1 rfl) (dq_w dwc_251 2 rfl) (dq_w dwc_251 3 rfl) rfl
theorem dX5_visits_4 : decode cX5_visits 4 = .ok (.iload_n 1, 1) := dq_27 (dq_w dwc_251 4 rfl)
theorem dX5_visits_5 : decode cX5_visits 5 = .ok (.invokevirtual 119, 3) := dq_182 (dq_w dwc_251 5 rfl) (dq_w dwc_251 6 rfl) (dq_w dwc_251 7 rfl) rfl
theorem dX5_visits_8 : decode cX5_visits 8 = .ok (.ifCond .eq 14, 3) := dq_153 (dq_w dwc_251 8 rfl) (dq_w dwc_251 9 rfl) (dq_w dwc_251 10 rfl) (dq_p (n := 14) rfl rfl)
theorem dX5_visits_11 : decode cX5_visits 11 = .ok (.aload_n 0, 1) := dq_42 (dq_w dwc_251 11 rfl)
theorem dX5_visits_12 : decode cX5_visits 12 = .ok (.getfield 12, 3) := dq_180 (dq_w dwc_251 12 rfl) (dq_w dwc_251 13 rfl) (dq_w dwc_251 14 rfl) rfl
theorem dX5_visits_15 : decode cX5_visits 15 = .ok (.iload_n 2, 1) := dq_28 (dq_w dwc_251 15 rfl)
theorem dX5_visits_16 : decode cX5_visits 16 = .ok (.invokevirtual 90, 3) := dq_182 (dq_w dwc_252 0 rfl) (dq_w dwc_252 1 rfl) (dq_w dwc_252 2 rfl) rfl
theorem dX5_visits_19 : decode cX5_visits 19 = .ok (.ifCond .ne 9, 3) := dq_154 (dq_w dwc_252 3 rfl) (dq_w dwc_252 4 rfl) (dq_w dwc_252 5 rfl) (dq_p (n := 9) rfl rfl)
theorem dX5_visits_22 : decode cX5_visits 22 = .ok (.aload_n 0, 1) := dq_42 (dq_w dwc_252 6 rfl)
theorem dX5_visits_23 : decode cX5_visits 23 = .ok (.iconst (-1), 1) := dq_2 (dq_w dwc_252 7 rfl)
theorem dX5_visits_24 : decode cX5_visits 24 = .ok (.invokevirtual 65, 3) := dq_182 (dq_w dwc_252 8 rfl) (dq_w dwc_252 9 rfl) (dq_w dwc_252 10 rfl) rfl
theorem dX5_visits_27 : decode cX5_visits 27 = .ok (.ireturn, 1) := dq_172 (dq_w dwc_252 11 rfl)
theorem dX5_visits_28 : decode cX5_visits 28 = .ok (.aload_n 0, 1) := dq_42 (dq_w dwc_252 12 rfl)
theorem dX5_visits_29 : decode cX5_visits 29 = .ok (.getfield 12, 3) := dq_180 (dq_w dwc_252 13 rfl) (dq_w dwc_252 14 rfl) (dq_w dwc_252 15 rfl) rfl
theorem dX5_visits_32 : decode cX5_visits 32 = .ok (.iload_n 1, 1) := dq_27 (dq_w dwc_253 0 rfl)
theorem dX5_visits_33 : decode cX5_visits 33 = .ok (.iload_n 2, 1) := dq_28 (dq_w dwc_253 1 rfl)
theorem dX5_visits_34 : decode cX5_visits 34 = .ok (.invokevirtual 140, 3) := dq_182 (dq_w dwc_253 2 rfl) (dq_w dwc_253 3 rfl) (dq_w dwc_253 4 rfl) rfl
theorem dX5_visits_37 : decode cX5_visits 37 = .ok (.ifCond .eq 24, 3) := dq_153 (dq_w dwc_253 5 rfl) (dq_w dwc_253 6 rfl) (dq_w dwc_253 7 rfl) (dq_p (n := 24) rfl rfl)
theorem dX5_visits_40 : decode cX5_visits 40 = .ok (.aload_n 0, 1) := dq_42 (dq_w dwc_253 8 rfl)
theorem dX5_visits_41 : decode cX5_visits 41 = .ok (.getfield 12, 3) := dq_180 (dq_w dwc_253 9 rfl) (dq_w dwc_253 10 rfl) (dq_w dwc_253 11 rfl) rfl
theorem dX5_visits_44 : decode cX5_visits 44 = .ok (.getfield 122, 3) := dq_180 (dq_w dwc_253 12 rfl) (dq_w dwc_253 13 rfl) (dq_w dwc_253 14 rfl) rfl
theorem dX5_visits_47 : decode cX5_visits 47 = .ok (.iload_n 1, 1) := dq_27 (dq_w dwc_253 15 rfl)
theorem dX5_visits_48 : decode cX5_visits 48 = .ok (.iaload, 1) := dq_46 (dq_w dwc_254 0 rfl)
theorem dX5_visits_49 : decode cX5_visits 49 = .ok (.aload_n 0, 1) := dq_42 (dq_w dwc_254 1 rfl)
theorem dX5_visits_50 : decode cX5_visits 50 = .ok (.getfield 12, 3) := dq_180 (dq_w dwc_254 2 rfl) (dq_w dwc_254 3 rfl) (dq_w dwc_254 4 rfl) rfl
theorem dX5_visits_53 : decode cX5_visits 53 = .ok (.getfield 100, 3) := dq_180 (dq_w dwc_254 5 rfl) (dq_w dwc_254 6 rfl) (dq_w dwc_254 7 rfl) rfl
theorem dX5_visits_56 : decode cX5_visits 56 = .ok (.iload_n 2, 1) := dq_28 (dq_w dwc_254 8 rfl)
theorem dX5_visits_57 : decode cX5_visits 57 = .ok (.iaload, 1) := dq_46 (dq_w dwc_254 9 rfl)
theorem dX5_visits_58 : decode cX5_visits 58 = .ok (.if_icmp .eq 10, 3) := dq_159 (dq_w dwc_254 10 rfl) (dq_w dwc_254 11 rfl) (dq_w dwc_254 12 rfl) (dq_p (n := 10) rfl rfl)
theorem dX5_visits_61 : decode cX5_visits 61 = .ok (.aload_n 0, 1) := dq_42 (dq_w dwc_254 13 rfl)
theorem dX5_visits_62 : decode cX5_visits 62 = .ok (.bipush (-3), 2) := dq_16 (dq_w dwc_254 14 rfl) (dq_w dwc_254 15 rfl) rfl
theorem dX5_visits_64 : decode cX5_visits 64 = .ok (.invokevirtual 65, 3) := dq_182 (dq_w dwc_255 0 rfl) (dq_w dwc_255 1 rfl) (dq_w dwc_255 2 rfl) rfl
theorem dX5_visits_67 : decode cX5_visits 67 = .ok (.ireturn, 1) := dq_172 (dq_w dwc_255 3 rfl)
theorem dX5_visits_68 : decode cX5_visits 68 = .ok (.aload_n 0, 1) := dq_42 (dq_w dwc_255 4 rfl)
theorem dX5_visits_69 : decode cX5_visits 69 = .ok (.getfield 12, 3) := dq_180 (dq_w dwc_255 5 rfl) (dq_w dwc_255 6 rfl) (dq_w dwc_255 7 rfl) rfl
theorem dX5_visits_72 : decode cX5_visits 72 = .ok (.iload_n 1, 1) := dq_27 (dq_w dwc_255 8 rfl)
theorem dX5_visits_73 : decode cX5_visits 73 = .ok (.iload_n 2, 1) := dq_28 (dq_w dwc_255 9 rfl)
theorem dX5_visits_74 : decode cX5_visits 74 = .ok (.iconst 0, 1) := dq_3 (dq_w dwc_255 10 rfl)
theorem dX5_visits_75 : decode cX5_visits 75 = .ok (.invokevirtual 173, 3) := dq_182 (dq_w dwc_255 11 rfl) (dq_w dwc_255 12 rfl) (dq_w dwc_255 13 rfl) rfl
theorem dX5_visits_78 : decode cX5_visits 78 = .ok (.istore_n 3, 1) := dq_62 (dq_w dwc_255 14 rfl)
theorem dX5_visits_79 : decode cX5_visits 79 = .ok (.aload_n 0, 1) := dq_42 (dq_w dwc_255 15 rfl)
theorem dX5_visits_80 : decode cX5_visits 80 = .ok (.getfield 29, 3) := dq_180 (dq_w dwc_256 0 rfl) (dq_w dwc_256 1 rfl) (dq_w dwc_256 2 rfl) rfl
theorem dX5_visits_83 : decode cX5_visits 83 = .ok (.aload_n 0, 1) := dq_42 (dq_w dwc_256 3 rfl)
theorem dX5_visits_84 : decode cX5_visits 84 = .ok (.getfield 12, 3) := dq_180 (dq_w dwc_256 4 rfl) (dq_w dwc_256 5 rfl) (dq_w dwc_256 6 rfl) rfl
theorem dX5_visits_87 : decode cX5_visits 87 = .ok (.invokevirtual 164, 3) := dq_182 (dq_w dwc_256 7 rfl) (dq_w dwc_256 8 rfl) (dq_w dwc_256 9 rfl) rfl
theorem dX5_visits_90 : decode cX5_visits 90 = .ok (.aload_n 0, 1) := dq_42 (dq_w dwc_256 10 rfl)
theorem dX5_visits_91 : decode cX5_visits 91 = .ok (.getfield 12, 3) := dq_180 (dq_w dwc_256 11 rfl) (dq_w dwc_256 12 rfl) (dq_w dwc_256 13 rfl) rfl
theorem dX5_visits_94 : decode cX5_visits 94 = .ok (.iload_n 1, 1) := dq_27 (dq_w dwc_256 14 rfl)
theorem dX5_visits_95 : decode cX5_visits 95 = .ok (.iload_n 2, 1) := dq_28 (dq_w dwc_256 15 rfl)
theorem dX5_visits_96 : decode cX5_visits 96 = .ok (.iconst (-1), 1) := dq_2 (dq_w dwc_257 0 rfl)
theorem dX5_visits_97 : decode cX5_visits 97 = .ok (.invokevirtual 176, 3) := dq_182 (dq_w dwc_257 1 rfl) (dq_w dwc_257 2 rfl) (dq_w dwc_257 3 rfl) rfl
theorem dX5_visits_100 : decode cX5_visits 100 = .ok (.iload_n 3, 1) := dq_29 (dq_w dwc_257 4 rfl)
theorem dX5_visits_101 : decode cX5_visits 101 = .ok (.ireturn, 1) := dq_172 (dq_w dwc_257 5 rfl)
theorem dwc_258 : (cX5_trades.data.toList.drop 0).take 16 = [42, 180, 0, 12, 27, 182, 0, 90, 153, 0, 25, 42, 180, 0, 12, 28] := by decide +kernel
theorem dwc_259 : (cX5_trades.data.toList.drop 16).take 16 = [182, 0, 119, 153, 0, 14, 42, 180, 0, 12, 29, 182, 0, 119, 154, 0] := by decide +kernel
theorem dwc_260 : (cX5_trades.data.toList.drop 32).take 16 = [9, 42, 2, 182, 0, 65, 172, 28, 29, 160, 0, 9, 42, 2, 182, 0] := by decide +kernel
theorem dwc_261 : (cX5_trades.data.toList.drop 48).take 16 = [65, 172, 42, 180, 0, 12, 28, 27, 182, 0, 140, 153, 0, 15, 42, 180] := by decide +kernel
theorem dwc_262 : (cX5_trades.data.toList.drop 64).take 16 = [0, 12, 29, 27, 182, 0, 140, 153, 0, 10, 42, 16, 253, 182, 0, 65] := by decide +kernel
theorem dwc_263 : (cX5_trades.data.toList.drop 80).take 16 = [172, 42, 180, 0, 12, 28, 27, 3, 182, 0, 144, 54, 4, 42, 180, 0] := by decide +kernel
theorem dwc_264 : (cX5_trades.data.toList.drop 96).take 16 = [29, 42, 180, 0, 12, 182, 0, 164, 42, 180, 0, 12, 28, 27, 2, 182] := by decide +kernel
theorem dwc_265 : (cX5_trades.data.toList.drop 112).take 16 = [0, 176, 42, 180, 0, 12, 29, 27, 21, 4, 182, 0, 176, 21, 4, 172] := by decide +kernel
theorem dX5_trades_0 : decode cX5_trades 0 = .ok (.aload_n 0, 1) := dq_42 (dq_w dwc_258 0 rfl)
theorem dX5_trades_1 : decode cX5_trades 1 = .ok (.getfield 12, 3) := dq_180 (dq_w dwc_258 1 rfl) (dq_w dwc_258 2 rfl) (dq_w dwc_258 3 rfl) rfl
theorem dX5_trades_4 : decode cX5_trades 4 = .ok (.iload_n 1, 1) := dq_27 (dq_w dwc_258 4 rfl)
theorem dX5_trades_5 : decode cX5_trades 5 = .ok (.invokevirtual 90, 3) := dq_182 (dq_w dwc_258 5 rfl) (dq_w dwc_258 6 rfl) (dq_w dwc_258 7 rfl) rfl
theorem dX5_trades_8 : decode cX5_trades 8 = .ok (.ifCond .eq 25, 3) := dq_153 (dq_w dwc_258 8 rfl) (dq_w dwc_258 9 rfl) (dq_w dwc_258 10 rfl) (dq_p (n := 25) rfl rfl)
theorem dX5_trades_11 : decode cX5_trades 11 = .ok (.aload_n 0, 1) := dq_42 (dq_w dwc_258 11 rfl)
theorem dX5_trades_12 : decode cX5_trades 12 = .ok (.getfield 12, 3) := dq_180 (dq_w dwc_258 12 rfl) (dq_w dwc_258 13 rfl) (dq_w dwc_258 14 rfl) rfl
theorem dX5_trades_15 : decode cX5_trades 15 = .ok (.iload_n 2, 1) := dq_28 (dq_w dwc_258 15 rfl)
theorem dX5_trades_16 : decode cX5_trades 16 = .ok (.invokevirtual 119, 3) := dq_182 (dq_w dwc_259 0 rfl) (dq_w dwc_259 1 rfl) (dq_w dwc_259 2 rfl) rfl
theorem dX5_trades_19 : decode cX5_trades 19 = .ok (.ifCond .eq 14, 3) := dq_153 (dq_w dwc_259 3 rfl) (dq_w dwc_259 4 rfl) (dq_w dwc_259 5 rfl) (dq_p (n := 14) rfl rfl)
theorem dX5_trades_22 : decode cX5_trades 22 = .ok (.aload_n 0, 1) := dq_42 (dq_w dwc_259 6 rfl)
theorem dX5_trades_23 : decode cX5_trades 23 = .ok (.getfield 12, 3) := dq_180 (dq_w dwc_259 7 rfl) (dq_w dwc_259 8 rfl) (dq_w dwc_259 9 rfl) rfl
theorem dX5_trades_26 : decode cX5_trades 26 = .ok (.iload_n 3, 1) := dq_29 (dq_w dwc_259 10 rfl)
theorem dX5_trades_27 : decode cX5_trades 27 = .ok (.invokevirtual 119, 3) := dq_182 (dq_w dwc_259 11 rfl) (dq_w dwc_259 12 rfl) (dq_w dwc_259 13 rfl) rfl
theorem dX5_trades_30 : decode cX5_trades 30 = .ok (.ifCond .ne 9, 3) := dq_154 (dq_w dwc_259 14 rfl) (dq_w dwc_259 15 rfl) (dq_w dwc_260 0 rfl) (dq_p (n := 9) rfl rfl)
theorem dX5_trades_33 : decode cX5_trades 33 = .ok (.aload_n 0, 1) := dq_42 (dq_w dwc_260 1 rfl)
theorem dX5_trades_34 : decode cX5_trades 34 = .ok (.iconst (-1), 1) := dq_2 (dq_w dwc_260 2 rfl)
theorem dX5_trades_35 : decode cX5_trades 35 = .ok (.invokevirtual 65, 3) := dq_182 (dq_w dwc_260 3 rfl) (dq_w dwc_260 4 rfl) (dq_w dwc_260 5 rfl) rfl
theorem dX5_trades_38 : decode cX5_trades 38 = .ok (.ireturn, 1) := dq_172 (dq_w dwc_260 6 rfl)
theorem dX5_trades_39 : decode cX5_trades 39 = .ok (.iload_n 2, 1) := dq_28 (dq_w dwc_260 7 rfl)
theorem dX5_trades_40 : decode cX5_trades 40 = .ok (.iload_n 3, 1) := dq_29 (dq_w dwc_260 8 rfl)
theorem dX5_trades_41 : decode cX5_trades 41 = .ok (.if_icmp .ne 9, 3) := dq_160 (dq_w dwc_260 9 rfl) (dq_w dwc_260 10 rfl) (dq_w dwc_260 11 rfl) (dq_p (n := 9) rfl rfl)
theorem dX5_trades_44 : decode cX5_trades 44 = .ok (.aload_n 0, 1) := dq_42 (dq_w dwc_260 12 rfl)
theorem dX5_trades_45 : decode cX5_trades 45 = .ok (.iconst (-1), 1) := dq_2 (dq_w dwc_260 13 rfl)
theorem dX5_trades_46 : decode cX5_trades 46 = .ok (.invokevirtual 65, 3) := dq_182 (dq_w dwc_260 14 rfl) (dq_w dwc_260 15 rfl) (dq_w dwc_261 0 rfl) rfl
theorem dX5_trades_49 : decode cX5_trades 49 = .ok (.ireturn, 1) := dq_172 (dq_w dwc_261 1 rfl)
theorem dX5_trades_50 : decode cX5_trades 50 = .ok (.aload_n 0, 1) := dq_42 (dq_w dwc_261 2 rfl)
theorem dX5_trades_51 : decode cX5_trades 51 = .ok (.getfield 12, 3) := dq_180 (dq_w dwc_261 3 rfl) (dq_w dwc_261 4 rfl) (dq_w dwc_261 5 rfl) rfl
theorem dX5_trades_54 : decode cX5_trades 54 = .ok (.iload_n 2, 1) := dq_28 (dq_w dwc_261 6 rfl)
theorem dX5_trades_55 : decode cX5_trades 55 = .ok (.iload_n 1, 1) := dq_27 (dq_w dwc_261 7 rfl)
theorem dX5_trades_56 : decode cX5_trades 56 = .ok (.invokevirtual 140, 3) := dq_182 (dq_w dwc_261 8 rfl) (dq_w dwc_261 9 rfl) (dq_w dwc_261 10 rfl) rfl
theorem dX5_trades_59 : decode cX5_trades 59 = .ok (.ifCond .eq 15, 3) := dq_153 (dq_w dwc_261 11 rfl) (dq_w dwc_261 12 rfl) (dq_w dwc_261 13 rfl) (dq_p (n := 15) rfl rfl)
theorem dX5_trades_62 : decode cX5_trades 62 = .ok (.aload_n 0, 1) := dq_42 (dq_w dwc_261 14 rfl)
theorem dX5_trades_63 : decode cX5_trades 63 = .ok (.getfield 12, 3) := dq_180 (dq_w dwc_261 15 rfl) (dq_w dwc_262 0 rfl) (dq_w dwc_262 1 rfl) rfl
theorem dX5_trades_66 : decode cX5_trades 66 = .ok (.iload_n 3, 1) := dq_29 (dq_w dwc_262 2 rfl)
theorem dX5_trades_67 : decode cX5_trades 67 = .ok (.iload_n 1, 1) := dq_27 (dq_w dwc_262 3 rfl)
theorem dX5_trades_68 : decode cX5_trades 68 = .ok (.invokevirtual 140, 3) := dq_182 (dq_w dwc_262 4 rfl) (dq_w dwc_262 5 rfl) (dq_w dwc_262 6 rfl) rfl
theorem dX5_trades_71 : decode cX5_trades 71 = .ok (.ifCond .eq 10, 3) := dq_153 (dq_w dwc_262 7 rfl) (dq_w dwc_262 8 rfl) (dq_w dwc_262 9 rfl) (dq_p (n := 10) rfl rfl)
theorem dX5_trades_74 : decode cX5_trades 74 = .ok (.aload_n 0, 1) := dq_42 (dq_w dwc_262 10 rfl)
theorem dX5_trades_75 : decode cX5_trades 75 = .ok (.bipush (-3), 2) := dq_16 (dq_w dwc_262 11 rfl) (dq_w dwc_262 12 rfl) rfl
theorem dX5_trades_77 : decode cX5_trades 77 = .ok (.invokevirtual 65, 3) := dq_182 (dq_w dwc_262 13 rfl) (dq_w dwc_262 14 rfl) (dq_w dwc_262 15 rfl) rfl
theorem dX5_trades_80 : decode cX5_trades 80 = .ok (.ireturn, 1) := dq_172 (dq_w dwc_263 0 rfl)
theorem dX5_trades_81 : decode cX5_trades 81 = .ok (.aload_n 0, 1) := dq_42 (dq_w dwc_263 1 rfl)
theorem dX5_trades_82 : decode cX5_trades 82 = .ok (.getfield 12, 3) := dq_180 (dq_w dwc_263 2 rfl) (dq_w dwc_263 3 rfl) (dq_w dwc_263 4 rfl) rfl
theorem dX5_trades_85 : decode cX5_trades 85 = .ok (.iload_n 2, 1) := dq_28 (dq_w dwc_263 5 rfl)
theorem dX5_trades_86 : decode cX5_trades 86 = .ok (.iload_n 1, 1) := dq_27 (dq_w dwc_263 6 rfl)
theorem dX5_trades_87 : decode cX5_trades 87 = .ok (.iconst 0, 1) := dq_3 (dq_w dwc_263 7 rfl)
theorem dX5_trades_88 : decode cX5_trades 88 = .ok (.invokevirtual 144, 3) := dq_182 (dq_w dwc_263 8 rfl) (dq_w dwc_263 9 rfl) (dq_w dwc_263 10 rfl) rfl
theorem dX5_trades_91 : decode cX5_trades 91 = .ok (.istore 4, 2) := dq_54 (dq_w dwc_263 11 rfl) (dq_w dwc_263 12 rfl) rfl
theorem dX5_trades_93 : decode cX5_trades 93 = .ok (.aload_n 0, 1) := dq_42 (dq_w dwc_263 13 rfl)
theorem dX5_trades_94 : decode cX5_trades 94 = .ok (.getfield 29, 3) := dq_180 (dq_w dwc_263 14 rfl) (dq_w dwc_263 15 rfl) (dq_w dwc_264 0 rfl) rfl
theorem dX5_trades_97 : decode cX5_trades 97 = .ok (.aload_n 0, 1) := dq_42 (dq_w dwc_264 1 rfl)
theorem dX5_trades_98 : decode cX5_trades 98 = .ok (.getfield 12, 3) := dq_180 (dq_w dwc_264 2 rfl) (dq_w dwc_264 3 rfl) (dq_w dwc_264 4 rfl) rfl
theorem dX5_trades_101 : decode cX5_trades 101 = .ok (.invokevirtual 164, 3) := dq_182 (dq_w dwc_264 5 rfl) (dq_w dwc_264 6 rfl) (dq_w dwc_264 7 rfl) rfl
theorem dX5_trades_104 : decode cX5_trades 104 = .ok (.aload_n 0, 1) := dq_42 (dq_w dwc_264 8 rfl)
theorem dX5_trades_105 : decode cX5_trades 105 = .ok (.getfield 12, 3) := dq_180 (dq_w dwc_264 9 rfl) (dq_w dwc_264 10 rfl) (dq_w dwc_264 11 rfl) rfl
theorem dX5_trades_108 : decode cX5_trades 108 = .ok (.iload_n 2, 1) := dq_28 (dq_w dwc_264 12 rfl)
theorem dX5_trades_109 : decode cX5_trades 109 = .ok (.iload_n 1, 1) := dq_27 (dq_w dwc_264 13 rfl)
theorem dX5_trades_110 : decode cX5_trades 110 = .ok (.iconst (-1), 1) := dq_2 (dq_w dwc_264 14 rfl)
theorem dX5_trades_111 : decode cX5_trades 111 = .ok (.invokevirtual 176, 3) := dq_182 (dq_w dwc_264 15 rfl) (dq_w dwc_265 0 rfl) (dq_w dwc_265 1 rfl) rfl
theorem dX5_trades_114 : decode cX5_trades 114 = .ok (.aload_n 0, 1) := dq_42 (dq_w dwc_265 2 rfl)
theorem dX5_trades_115 : decode cX5_trades 115 = .ok (.getfield 12, 3) := dq_180 (dq_w dwc_265 3 rfl) (dq_w dwc_265 4 rfl) (dq_w dwc_265 5 rfl) rfl
theorem dX5_trades_118 : decode cX5_trades 118 = .ok (.iload_n 3, 1) := dq_29 (dq_w dwc_265 6 rfl)
theorem dX5_trades_119 : decode cX5_trades 119 = .ok (.iload_n 1, 1) := dq_27 (dq_w dwc_265 7 rfl)
theorem dX5_trades_120 : decode cX5_trades 120 = .ok (.iload 4, 2) := dq_21 (dq_w dwc_265 8 rfl) (dq_w dwc_265 9 rfl) rfl
theorem dX5_trades_122 : decode cX5_trades 122 = .ok (.invokevirtual 176, 3) := dq_182 (dq_w dwc_265 10 rfl) (dq_w dwc_265 11 rfl) (dq_w dwc_265 12 rfl) rfl
theorem dX5_trades_125 : decode cX5_trades 125 = .ok (.iload 4, 2) := dq_21 (dq_w dwc_265 13 rfl) (dq_w dwc_265 14 rfl) rfl
theorem dX5_trades_127 : decode cX5_trades 127 = .ok (.ireturn, 1) := dq_172 (dq_w dwc_265 15 rfl)
theorem dwc_266 : (cX5_evenings.data.toList.drop 0).take 16 = [27, 4, 162, 0, 10, 42, 16, 252, 182, 0, 65, 172, 27, 16, 60, 163] := by decide +kernel
theorem dwc_267 : (cX5_evenings.data.toList.drop 16).take 16 = [0, 18, 42, 180, 0, 12, 180, 0, 180, 27, 96, 17, 3, 231, 164, 0] := by decide +kernel
theorem dwc_268 : (cX5_evenings.data.toList.drop 32).take 16 = [10, 42, 16, 250, 182, 0, 65, 172, 42, 180, 0, 29, 42, 180, 0, 12] := by decide +kernel
theorem dwc_269 : (cX5_evenings.data.toList.drop 48).take 16 = [182, 0, 164, 42, 180, 0, 12, 27, 182, 0, 183, 87, 42, 180, 0, 12] := by decide +kernel
theorem dwc_270 : (cX5_evenings.data.toList.drop 64).take 16 = [3, 182, 0, 186, 172] := by decide +kernel
theorem dX5_evenings_0 : decode cX5_evenings 0 = .ok (.iload_n 1, 1) := dq_27 (dq_w dwc_266 0 rfl)
theorem dX5_evenings_1 : decode cX5_evenings 1 = .ok (.iconst 1, 1) := dq_4 (dq_w dwc_266 1 rfl)
theorem dX5_evenings_2 : decode cX5_evenings 2 = .ok (.if_icmp .ge 10, 3) := dq_162 (dq_w dwc_266 2 rfl) (dq_w dwc_266 3 rfl) (dq_w dwc_266 4 rfl) (dq_p (n := 10) rfl rfl)
theorem dX5_evenings_5 : decode cX5_evenings 5 = .ok (.aload_n 0, 1) := dq_42 (dq_w dwc_266 5 rfl)
theorem dX5_evenings_6 : decode cX5_evenings 6 = .ok (.bipush (-4), 2) := dq_16 (dq_w dwc_266 6 rfl) (dq_w dwc_266 7 rfl) rfl
theorem dX5_evenings_8 : decode cX5_evenings 8 = .ok (.invokevirtual 65, 3) := dq_182 (dq_w dwc_266 8 rfl) (dq_w dwc_266 9 rfl) (dq_w dwc_266 10 rfl) rfl
theorem dX5_evenings_11 : decode cX5_evenings 11 = .ok (.ireturn, 1) := dq_172 (dq_w dwc_266 11 rfl)
theorem dX5_evenings_12 : decode cX5_evenings 12 = .ok (.iload_n 1, 1) := dq_27 (dq_w dwc_266 12 rfl)
theorem dX5_evenings_13 : decode cX5_evenings 13 = .ok (.bipush 60, 2) := dq_16 (dq_w dwc_266 13 rfl) (dq_w dwc_266 14 rfl) rfl
theorem dX5_evenings_15 : decode cX5_evenings 15 = .ok (.if_icmp .gt 18, 3) := dq_163 (dq_w dwc_266 15 rfl) (dq_w dwc_267 0 rfl) (dq_w dwc_267 1 rfl) (dq_p (n := 18) rfl rfl)
theorem dX5_evenings_18 : decode cX5_evenings 18 = .ok (.aload_n 0, 1) := dq_42 (dq_w dwc_267 2 rfl)
theorem dX5_evenings_19 : decode cX5_evenings 19 = .ok (.getfield 12, 3) := dq_180 (dq_w dwc_267 3 rfl) (dq_w dwc_267 4 rfl) (dq_w dwc_267 5 rfl) rfl
theorem dX5_evenings_22 : decode cX5_evenings 22 = .ok (.getfield 180, 3) := dq_180 (dq_w dwc_267 6 rfl) (dq_w dwc_267 7 rfl) (dq_w dwc_267 8 rfl) rfl
theorem dX5_evenings_25 : decode cX5_evenings 25 = .ok (.iload_n 1, 1) := dq_27 (dq_w dwc_267 9 rfl)
theorem dX5_evenings_26 : decode cX5_evenings 26 = .ok (.iadd, 1) := dq_96 (dq_w dwc_267 10 rfl)
theorem dX5_evenings_27 : decode cX5_evenings 27 = .ok (.sipush 999, 3) := dq_17 (dq_w dwc_267 11 rfl) (dq_w dwc_267 12 rfl) (dq_w dwc_267 13 rfl) (dq_p (n := 999) rfl rfl)
theorem dX5_evenings_30 : decode cX5_evenings 30 = .ok (.if_icmp .le 10, 3) := dq_164 (dq_w dwc_267 14 rfl) (dq_w dwc_267 15 rfl) (dq_w dwc_268 0 rfl) (dq_p (n := 10) rfl rfl)
theorem dX5_evenings_33 : decode cX5_evenings 33 = .ok (.aload_n 0, 1) := dq_42 (dq_w dwc_268 1 rfl)
theorem dX5_evenings_34 : decode cX5_evenings 34 = .ok (.bipush (-6), 2) := dq_16 (dq_w dwc_268 2 rfl) (dq_w dwc_268 3 rfl) rfl
theorem dX5_evenings_36 : decode cX5_evenings 36 = .ok (.invokevirtual 65, 3) := dq_182 (dq_w dwc_268 4 rfl) (dq_w dwc_268 5 rfl) (dq_w dwc_268 6 rfl) rfl
theorem dX5_evenings_39 : decode cX5_evenings 39 = .ok (.ireturn, 1) := dq_172 (dq_w dwc_268 7 rfl)
theorem dX5_evenings_40 : decode cX5_evenings 40 = .ok (.aload_n 0, 1) := dq_42 (dq_w dwc_268 8 rfl)
theorem dX5_evenings_41 : decode cX5_evenings 41 = .ok (.getfield 29, 3) := dq_180 (dq_w dwc_268 9 rfl) (dq_w dwc_268 10 rfl) (dq_w dwc_268 11 rfl) rfl
theorem dX5_evenings_44 : decode cX5_evenings 44 = .ok (.aload_n 0, 1) := dq_42 (dq_w dwc_268 12 rfl)
theorem dX5_evenings_45 : decode cX5_evenings 45 = .ok (.getfield 12, 3) := dq_180 (dq_w dwc_268 13 rfl) (dq_w dwc_268 14 rfl) (dq_w dwc_268 15 rfl) rfl
theorem dX5_evenings_48 : decode cX5_evenings 48 = .ok (.invokevirtual 164, 3) := dq_182 (dq_w dwc_269 0 rfl) (dq_w dwc_269 1 rfl) (dq_w dwc_269 2 rfl) rfl
theorem dX5_evenings_51 : decode cX5_evenings 51 = .ok (.aload_n 0, 1) := dq_42 (dq_w dwc_269 3 rfl)
theorem dX5_evenings_52 : decode cX5_evenings 52 = .ok (.getfield 12, 3) := dq_180 (dq_w dwc_269 4 rfl) (dq_w dwc_269 5 rfl) (dq_w dwc_269 6 rfl) rfl
theorem dX5_evenings_55 : decode cX5_evenings 55 = .ok (.iload_n 1, 1) := dq_27 (dq_w dwc_269 7 rfl)
theorem dX5_evenings_56 : decode cX5_evenings 56 = .ok (.invokevirtual 183, 3) := dq_182 (dq_w dwc_269 8 rfl) (dq_w dwc_269 9 rfl) (dq_w dwc_269 10 rfl) rfl
theorem dX5_evenings_59 : decode cX5_evenings 59 = .ok (.pop, 1) := dq_87 (dq_w dwc_269 11 rfl)
theorem dX5_evenings_60 : decode cX5_evenings 60 = .ok (.aload_n 0, 1) := dq_42 (dq_w dwc_269 12 rfl)
theorem dX5_evenings_61 : decode cX5_evenings 61 = .ok (.getfield 12, 3) := dq_180 (dq_w dwc_269 13 rfl) (dq_w dwc_269 14 rfl) (dq_w dwc_269 15 rfl) rfl
theorem dX5_evenings_64 : decode cX5_evenings 64 = .ok (.iconst 0, 1) := dq_3 (dq_w dwc_270 0 rfl)
theorem dX5_evenings_65 : decode cX5_evenings 65 = .ok (.invokevirtual 186, 3) := dq_182 (dq_w dwc_270 1 rfl) (dq_w dwc_270 2 rfl) (dq_w dwc_270 3 rfl) rfl
theorem dX5_evenings_68 : decode cX5_evenings 68 = .ok (.ireturn, 1) := dq_172 (dq_w dwc_270 4 rfl)
theorem dwc_271 : (cX5_back.data.toList.drop 0).take 16 = [42, 180, 0, 29, 180, 0, 189, 154, 0, 10, 42, 16, 253, 182, 0, 65] := by decide +kernel
theorem dwc_272 : (cX5_back.data.toList.drop 16).take 16 = [172, 42, 180, 0, 29, 42, 180, 0, 12, 182, 0, 192, 42, 180, 0, 29] := by decide +kernel
theorem dwc_273 : (cX5_back.data.toList.drop 32).take 16 = [180, 0, 189, 172] := by decide +kernel
theorem dX5_back_0 : decode cX5_back 0 = .ok (.aload_n 0, 1) := dq_42 (dq_w dwc_271 0 rfl)
theorem dX5_back_1 : decode cX5_back 1 = .ok (.getfield 29, 3) := dq_180 (dq_w dwc_271 1 rfl) (dq_w dwc_271 2 rfl) (dq_w dwc_271 3 rfl) rfl
theorem dX5_back_4 : decode cX5_back 4 = .ok (.getfield 189, 3) := dq_180 (dq_w dwc_271 4 rfl) (dq_w dwc_271 5 rfl) (dq_w dwc_271 6 rfl) rfl
theorem dX5_back_7 : decode cX5_back 7 = .ok (.ifCond .ne 10, 3) := dq_154 (dq_w dwc_271 7 rfl) (dq_w dwc_271 8 rfl) (dq_w dwc_271 9 rfl) (dq_p (n := 10) rfl rfl)
theorem dX5_back_10 : decode cX5_back 10 = .ok (.aload_n 0, 1) := dq_42 (dq_w dwc_271 10 rfl)
theorem dX5_back_11 : decode cX5_back 11 = .ok (.bipush (-3), 2) := dq_16 (dq_w dwc_271 11 rfl) (dq_w dwc_271 12 rfl) rfl
theorem dX5_back_13 : decode cX5_back 13 = .ok (.invokevirtual 65, 3) := dq_182 (dq_w dwc_271 13 rfl) (dq_w dwc_271 14 rfl) (dq_w dwc_271 15 rfl) rfl
theorem dX5_back_16 : decode cX5_back 16 = .ok (.ireturn, 1) := dq_172 (dq_w dwc_272 0 rfl)
theorem dX5_back_17 : decode cX5_back 17 = .ok (.aload_n 0, 1) := dq_42 (dq_w dwc_272 1 rfl)
theorem dX5_back_18 : decode cX5_back 18 = .ok (.getfield 29, 3) := dq_180 (dq_w dwc_272 2 rfl) (dq_w dwc_272 3 rfl) (dq_w dwc_272 4 rfl) rfl
theorem dX5_back_21 : decode cX5_back 21 = .ok (.aload_n 0, 1) := dq_42 (dq_w dwc_272 5 rfl)
theorem dX5_back_22 : decode cX5_back 22 = .ok (.getfield 12, 3) := dq_180 (dq_w dwc_272 6 rfl) (dq_w dwc_272 7 rfl) (dq_w dwc_272 8 rfl) rfl
theorem dX5_back_25 : decode cX5_back 25 = .ok (.invokevirtual 192, 3) := dq_182 (dq_w dwc_272 9 rfl) (dq_w dwc_272 10 rfl) (dq_w dwc_272 11 rfl) rfl
theorem dX5_back_28 : decode cX5_back 28 = .ok (.aload_n 0, 1) := dq_42 (dq_w dwc_272 12 rfl)
theorem dX5_back_29 : decode cX5_back 29 = .ok (.getfield 29, 3) := dq_180 (dq_w dwc_272 13 rfl) (dq_w dwc_272 14 rfl) (dq_w dwc_272 15 rfl) rfl
theorem dX5_back_32 : decode cX5_back 32 = .ok (.getfield 189, 3) := dq_180 (dq_w dwc_273 0 rfl) (dq_w dwc_273 1 rfl) (dq_w dwc_273 2 rfl) rfl
theorem dX5_back_35 : decode cX5_back 35 = .ok (.ireturn, 1) := dq_172 (dq_w dwc_273 3 rfl)
theorem dwc_274 : (cX5_walkerIn.data.toList.drop 0).take 16 = [42, 180, 0, 12, 27, 182, 0, 119, 154, 0, 9, 42, 2, 182, 0, 65] := by decide +kernel
theorem dwc_275 : (cX5_walkerIn.data.toList.drop 16).take 16 = [172, 28, 156, 0, 10, 42, 16, 252, 182, 0, 65, 172, 28, 16, 60, 164] := by decide +kernel
theorem dwc_276 : (cX5_walkerIn.data.toList.drop 32).take 16 = [0, 10, 42, 16, 250, 182, 0, 65, 172, 29, 170, 0, 0, 0, 0, 56] := by decide +kernel
theorem dwc_277 : (cX5_walkerIn.data.toList.drop 64).take 16 = [0, 0, 0, 46, 42, 180, 0, 12, 27, 28, 182, 0, 195, 172, 42, 180] := by decide +kernel
theorem dwc_278 : (cX5_walkerIn.data.toList.drop 80).take 16 = [0, 12, 27, 28, 182, 0, 131, 172, 42, 180, 0, 12, 27, 28, 182, 0] := by decide +kernel
theorem dwc_279 : (cX5_walkerIn.data.toList.drop 96).take 16 = [137, 172, 42, 16, 254, 182, 0, 65, 172] := by decide +kernel
theorem dX5_walkerIn_0 : decode cX5_walkerIn 0 = .ok (.aload_n 0, 1) := dq_42 (dq_w dwc_274 0 rfl)
theorem dX5_walkerIn_1 : decode cX5_walkerIn 1 = .ok (.getfield 12, 3) := dq_180 (dq_w dwc_274 1 rfl) (dq_w dwc_274 2 rfl) (dq_w dwc_274 3 rfl) rfl
theorem dX5_walkerIn_4 : decode cX5_walkerIn 4 = .ok (.iload_n 1, 1) := dq_27 (dq_w dwc_274 4 rfl)
theorem dX5_walkerIn_5 : decode cX5_walkerIn 5 = .ok (.invokevirtual 119, 3) := dq_182 (dq_w dwc_274 5 rfl) (dq_w dwc_274 6 rfl) (dq_w dwc_274 7 rfl) rfl
theorem dX5_walkerIn_8 : decode cX5_walkerIn 8 = .ok (.ifCond .ne 9, 3) := dq_154 (dq_w dwc_274 8 rfl) (dq_w dwc_274 9 rfl) (dq_w dwc_274 10 rfl) (dq_p (n := 9) rfl rfl)
theorem dX5_walkerIn_11 : decode cX5_walkerIn 11 = .ok (.aload_n 0, 1) := dq_42 (dq_w dwc_274 11 rfl)
theorem dX5_walkerIn_12 : decode cX5_walkerIn 12 = .ok (.iconst (-1), 1) := dq_2 (dq_w dwc_274 12 rfl)
theorem dX5_walkerIn_13 : decode cX5_walkerIn 13 = .ok (.invokevirtual 65, 3) := dq_182 (dq_w dwc_274 13 rfl) (dq_w dwc_274 14 rfl) (dq_w dwc_274 15 rfl) rfl
theorem dX5_walkerIn_16 : decode cX5_walkerIn 16 = .ok (.ireturn, 1) := dq_172 (dq_w dwc_275 0 rfl)
theorem dX5_walkerIn_17 : decode cX5_walkerIn 17 = .ok (.iload_n 2, 1) := dq_28 (dq_w dwc_275 1 rfl)
theorem dX5_walkerIn_18 : decode cX5_walkerIn 18 = .ok (.ifCond .ge 10, 3) := dq_156 (dq_w dwc_275 2 rfl) (dq_w dwc_275 3 rfl) (dq_w dwc_275 4 rfl) (dq_p (n := 10) rfl rfl)
theorem dX5_walkerIn_21 : decode cX5_walkerIn 21 = .ok (.aload_n 0, 1) := dq_42 (dq_w dwc_275 5 rfl)
theorem dX5_walkerIn_22 : decode cX5_walkerIn 22 = .ok (.bipush (-4), 2) := dq_16 (dq_w dwc_275 6 rfl) (dq_w dwc_275 7 rfl) rfl
theorem dX5_walkerIn_24 : decode cX5_walkerIn 24 = .ok (.invokevirtual 65, 3) := dq_182 (dq_w dwc_275 8 rfl) (dq_w dwc_275 9 rfl) (dq_w dwc_275 10 rfl) rfl
theorem dX5_walkerIn_27 : decode cX5_walkerIn 27 = .ok (.ireturn, 1) := dq_172 (dq_w dwc_275 11 rfl)
theorem dX5_walkerIn_28 : decode cX5_walkerIn 28 = .ok (.iload_n 2, 1) := dq_28 (dq_w dwc_275 12 rfl)
theorem dX5_walkerIn_29 : decode cX5_walkerIn 29 = .ok (.bipush 60, 2) := dq_16 (dq_w dwc_275 13 rfl) (dq_w dwc_275 14 rfl) rfl
theorem dX5_walkerIn_31 : decode cX5_walkerIn 31 = .ok (.if_icmp .le 10, 3) := dq_164 (dq_w dwc_275 15 rfl) (dq_w dwc_276 0 rfl) (dq_w dwc_276 1 rfl) (dq_p (n := 10) rfl rfl)
theorem dX5_walkerIn_34 : decode cX5_walkerIn 34 = .ok (.aload_n 0, 1) := dq_42 (dq_w dwc_276 2 rfl)
theorem dX5_walkerIn_35 : decode cX5_walkerIn 35 = .ok (.bipush (-6), 2) := dq_16 (dq_w dwc_276 3 rfl) (dq_w dwc_276 4 rfl) rfl
theorem dX5_walkerIn_37 : decode cX5_walkerIn 37 = .ok (.invokevirtual 65, 3) := dq_182 (dq_w dwc_276 5 rfl) (dq_w dwc_276 6 rfl) (dq_w dwc_276 7 rfl) rfl
theorem dX5_walkerIn_40 : decode cX5_walkerIn 40 = .ok (.ireturn, 1) := dq_172 (dq_w dwc_276 8 rfl)
theorem dX5_walkerIn_41 : decode cX5_walkerIn 41 = .ok (.iload_n 3, 1) := dq_29 (dq_w dwc_276 9 rfl)
theorem dX5_walkerIn_42 : decode cX5_walkerIn 42 = .ok (.tableswitch 56 0 2 #[26, 36, 46], 26) := by decide +kernel
theorem dX5_walkerIn_68 : decode cX5_walkerIn 68 = .ok (.aload_n 0, 1) := dq_42 (dq_w dwc_277 4 rfl)
theorem dX5_walkerIn_69 : decode cX5_walkerIn 69 = .ok (.getfield 12, 3) := dq_180 (dq_w dwc_277 5 rfl) (dq_w dwc_277 6 rfl) (dq_w dwc_277 7 rfl) rfl
theorem dX5_walkerIn_72 : decode cX5_walkerIn 72 = .ok (.iload_n 1, 1) := dq_27 (dq_w dwc_277 8 rfl)
theorem dX5_walkerIn_73 : decode cX5_walkerIn 73 = .ok (.iload_n 2, 1) := dq_28 (dq_w dwc_277 9 rfl)
theorem dX5_walkerIn_74 : decode cX5_walkerIn 74 = .ok (.invokevirtual 195, 3) := dq_182 (dq_w dwc_277 10 rfl) (dq_w dwc_277 11 rfl) (dq_w dwc_277 12 rfl) rfl
theorem dX5_walkerIn_77 : decode cX5_walkerIn 77 = .ok (.ireturn, 1) := dq_172 (dq_w dwc_277 13 rfl)
theorem dX5_walkerIn_78 : decode cX5_walkerIn 78 = .ok (.aload_n 0, 1) := dq_42 (dq_w dwc_277 14 rfl)
theorem dX5_walkerIn_79 : decode cX5_walkerIn 79 = .ok (.getfield 12, 3) := dq_180 (dq_w dwc_277 15 rfl) (dq_w dwc_278 0 rfl) (dq_w dwc_278 1 rfl) rfl
theorem dX5_walkerIn_82 : decode cX5_walkerIn 82 = .ok (.iload_n 1, 1) := dq_27 (dq_w dwc_278 2 rfl)
theorem dX5_walkerIn_83 : decode cX5_walkerIn 83 = .ok (.iload_n 2, 1) := dq_28 (dq_w dwc_278 3 rfl)
theorem dX5_walkerIn_84 : decode cX5_walkerIn 84 = .ok (.invokevirtual 131, 3) := dq_182 (dq_w dwc_278 4 rfl) (dq_w dwc_278 5 rfl) (dq_w dwc_278 6 rfl) rfl
theorem dX5_walkerIn_87 : decode cX5_walkerIn 87 = .ok (.ireturn, 1) := dq_172 (dq_w dwc_278 7 rfl)
theorem dX5_walkerIn_88 : decode cX5_walkerIn 88 = .ok (.aload_n 0, 1) := dq_42 (dq_w dwc_278 8 rfl)
theorem dX5_walkerIn_89 : decode cX5_walkerIn 89 = .ok (.getfield 12, 3) := dq_180 (dq_w dwc_278 9 rfl) (dq_w dwc_278 10 rfl) (dq_w dwc_278 11 rfl) rfl
theorem dX5_walkerIn_92 : decode cX5_walkerIn 92 = .ok (.iload_n 1, 1) := dq_27 (dq_w dwc_278 12 rfl)
theorem dX5_walkerIn_93 : decode cX5_walkerIn 93 = .ok (.iload_n 2, 1) := dq_28 (dq_w dwc_278 13 rfl)
theorem dX5_walkerIn_94 : decode cX5_walkerIn 94 = .ok (.invokevirtual 137, 3) := dq_182 (dq_w dwc_278 14 rfl) (dq_w dwc_278 15 rfl) (dq_w dwc_279 0 rfl) rfl
theorem dX5_walkerIn_97 : decode cX5_walkerIn 97 = .ok (.ireturn, 1) := dq_172 (dq_w dwc_279 1 rfl)
theorem dX5_walkerIn_98 : decode cX5_walkerIn 98 = .ok (.aload_n 0, 1) := dq_42 (dq_w dwc_279 2 rfl)
theorem dX5_walkerIn_99 : decode cX5_walkerIn 99 = .ok (.bipush (-2), 2) := dq_16 (dq_w dwc_279 3 rfl) (dq_w dwc_279 4 rfl) rfl
theorem dX5_walkerIn_101 : decode cX5_walkerIn 101 = .ok (.invokevirtual 65, 3) := dq_182 (dq_w dwc_279 5 rfl) (dq_w dwc_279 6 rfl) (dq_w dwc_279 7 rfl) rfl
theorem dX5_walkerIn_104 : decode cX5_walkerIn 104 = .ok (.ireturn, 1) := dq_172 (dq_w dwc_279 8 rfl)
theorem dwc_280 : (cX5_prices.data.toList.drop 0).take 16 = [27, 156, 0, 10, 42, 16, 252, 182, 0, 65, 172, 27, 16, 60, 164, 0] := by decide +kernel
theorem dwc_281 : (cX5_prices.data.toList.drop 16).take 16 = [10, 42, 16, 250, 182, 0, 65, 172, 42, 180, 0, 12, 27, 182, 0, 198] := by decide +kernel
theorem dwc_282 : (cX5_prices.data.toList.drop 32).take 16 = [172] := by decide +kernel
theorem dX5_prices_0 : decode cX5_prices 0 = .ok (.iload_n 1, 1) := dq_27 (dq_w dwc_280 0 rfl)
theorem dX5_prices_1 : decode cX5_prices 1 = .ok (.ifCond .ge 10, 3) := dq_156 (dq_w dwc_280 1 rfl) (dq_w dwc_280 2 rfl) (dq_w dwc_280 3 rfl) (dq_p (n := 10) rfl rfl)
theorem dX5_prices_4 : decode cX5_prices 4 = .ok (.aload_n 0, 1) := dq_42 (dq_w dwc_280 4 rfl)
theorem dX5_prices_5 : decode cX5_prices 5 = .ok (.bipush (-4), 2) := dq_16 (dq_w dwc_280 5 rfl) (dq_w dwc_280 6 rfl) rfl
theorem dX5_prices_7 : decode cX5_prices 7 = .ok (.invokevirtual 65, 3) := dq_182 (dq_w dwc_280 7 rfl) (dq_w dwc_280 8 rfl) (dq_w dwc_280 9 rfl) rfl
theorem dX5_prices_10 : decode cX5_prices 10 = .ok (.ireturn, 1) := dq_172 (dq_w dwc_280 10 rfl)
theorem dX5_prices_11 : decode cX5_prices 11 = .ok (.iload_n 1, 1) := dq_27 (dq_w dwc_280 11 rfl)
theorem dX5_prices_12 : decode cX5_prices 12 = .ok (.bipush 60, 2) := dq_16 (dq_w dwc_280 12 rfl) (dq_w dwc_280 13 rfl) rfl
theorem dX5_prices_14 : decode cX5_prices 14 = .ok (.if_icmp .le 10, 3) := dq_164 (dq_w dwc_280 14 rfl) (dq_w dwc_280 15 rfl) (dq_w dwc_281 0 rfl) (dq_p (n := 10) rfl rfl)
theorem dX5_prices_17 : decode cX5_prices 17 = .ok (.aload_n 0, 1) := dq_42 (dq_w dwc_281 1 rfl)
theorem dX5_prices_18 : decode cX5_prices 18 = .ok (.bipush (-6), 2) := dq_16 (dq_w dwc_281 2 rfl) (dq_w dwc_281 3 rfl) rfl
theorem dX5_prices_20 : decode cX5_prices 20 = .ok (.invokevirtual 65, 3) := dq_182 (dq_w dwc_281 4 rfl) (dq_w dwc_281 5 rfl) (dq_w dwc_281 6 rfl) rfl
theorem dX5_prices_23 : decode cX5_prices 23 = .ok (.ireturn, 1) := dq_172 (dq_w dwc_281 7 rfl)
theorem dX5_prices_24 : decode cX5_prices 24 = .ok (.aload_n 0, 1) := dq_42 (dq_w dwc_281 8 rfl)
theorem dX5_prices_25 : decode cX5_prices 25 = .ok (.getfield 12, 3) := dq_180 (dq_w dwc_281 9 rfl) (dq_w dwc_281 10 rfl) (dq_w dwc_281 11 rfl) rfl
theorem dX5_prices_28 : decode cX5_prices 28 = .ok (.iload_n 1, 1) := dq_27 (dq_w dwc_281 12 rfl)
theorem dX5_prices_29 : decode cX5_prices 29 = .ok (.invokevirtual 198, 3) := dq_182 (dq_w dwc_281 13 rfl) (dq_w dwc_281 14 rfl) (dq_w dwc_281 15 rfl) rfl
theorem dX5_prices_32 : decode cX5_prices 32 = .ok (.ireturn, 1) := dq_172 (dq_w dwc_282 0 rfl)
theorem dwc_283 : (cX5_owed.data.toList.drop 0).take 16 = [42, 180, 0, 12, 27, 182, 0, 119, 153, 0, 14, 42, 180, 0, 12, 28] := by decide +kernel
theorem dwc_284 : (cX5_owed.data.toList.drop 16).take 16 = [182, 0, 90, 154, 0, 9, 42, 2, 182, 0, 65, 172, 42, 180, 0, 12] := by decide +kernel
theorem dwc_285 : (cX5_owed.data.toList.drop 32).take 16 = [27, 28, 182, 0, 140, 153, 0, 5, 3, 172, 42, 180, 0, 12, 27, 28] := by decide +kernel
theorem dwc_286 : (cX5_owed.data.toList.drop 48).take 16 = [16, 60, 182, 0, 201, 172] := by decide +kernel
theorem dX5_owed_0 : decode cX5_owed 0 = .ok (.aload_n 0, 1) := dq_42 (dq_w dwc_283 0 rfl)
theorem dX5_owed_1 : decode cX5_owed 1 = .ok (.getfield 12, 3) := dq_180 (dq_w dwc_283 1 rfl) (dq_w dwc_283 2 rfl) (dq_w dwc_283 3 rfl) rfl
theorem dX5_owed_4 : decode cX5_owed 4 = .ok (.iload_n 1, 1) := dq_27 (dq_w dwc_283 4 rfl)
theorem dX5_owed_5 : decode cX5_owed 5 = .ok (.invokevirtual 119, 3) := dq_182 (dq_w dwc_283 5 rfl) (dq_w dwc_283 6 rfl) (dq_w dwc_283 7 rfl) rfl
theorem dX5_owed_8 : decode cX5_owed 8 = .ok (.ifCond .eq 14, 3) := dq_153 (dq_w dwc_283 8 rfl) (dq_w dwc_283 9 rfl) (dq_w dwc_283 10 rfl) (dq_p (n := 14) rfl rfl)
theorem dX5_owed_11 : decode cX5_owed 11 = .ok (.aload_n 0, 1) := dq_42 (dq_w dwc_283 11 rfl)
theorem dX5_owed_12 : decode cX5_owed 12 = .ok (.getfield 12, 3) := dq_180 (dq_w dwc_283 12 rfl) (dq_w dwc_283 13 rfl) (dq_w dwc_283 14 rfl) rfl
theorem dX5_owed_15 : decode cX5_owed 15 = .ok (.iload_n 2, 1) := dq_28 (dq_w dwc_283 15 rfl)
theorem dX5_owed_16 : decode cX5_owed 16 = .ok (.invokevirtual 90, 3) := dq_182 (dq_w dwc_284 0 rfl) (dq_w dwc_284 1 rfl) (dq_w dwc_284 2 rfl) rfl
theorem dX5_owed_19 : decode cX5_owed 19 = .ok (.ifCond .ne 9, 3) := dq_154 (dq_w dwc_284 3 rfl) (dq_w dwc_284 4 rfl) (dq_w dwc_284 5 rfl) (dq_p (n := 9) rfl rfl)
theorem dX5_owed_22 : decode cX5_owed 22 = .ok (.aload_n 0, 1) := dq_42 (dq_w dwc_284 6 rfl)
theorem dX5_owed_23 : decode cX5_owed 23 = .ok (.iconst (-1), 1) := dq_2 (dq_w dwc_284 7 rfl)
theorem dX5_owed_24 : decode cX5_owed 24 = .ok (.invokevirtual 65, 3) := dq_182 (dq_w dwc_284 8 rfl) (dq_w dwc_284 9 rfl) (dq_w dwc_284 10 rfl) rfl
theorem dX5_owed_27 : decode cX5_owed 27 = .ok (.ireturn, 1) := dq_172 (dq_w dwc_284 11 rfl)
theorem dX5_owed_28 : decode cX5_owed 28 = .ok (.aload_n 0, 1) := dq_42 (dq_w dwc_284 12 rfl)
theorem dX5_owed_29 : decode cX5_owed 29 = .ok (.getfield 12, 3) := dq_180 (dq_w dwc_284 13 rfl) (dq_w dwc_284 14 rfl) (dq_w dwc_284 15 rfl) rfl
theorem dX5_owed_32 : decode cX5_owed 32 = .ok (.iload_n 1, 1) := dq_27 (dq_w dwc_285 0 rfl)
theorem dX5_owed_33 : decode cX5_owed 33 = .ok (.iload_n 2, 1) := dq_28 (dq_w dwc_285 1 rfl)
theorem dX5_owed_34 : decode cX5_owed 34 = .ok (.invokevirtual 140, 3) := dq_182 (dq_w dwc_285 2 rfl) (dq_w dwc_285 3 rfl) (dq_w dwc_285 4 rfl) rfl
theorem dX5_owed_37 : decode cX5_owed 37 = .ok (.ifCond .eq 5, 3) := dq_153 (dq_w dwc_285 5 rfl) (dq_w dwc_285 6 rfl) (dq_w dwc_285 7 rfl) (dq_p (n := 5) rfl rfl)
theorem dX5_owed_40 : decode cX5_owed 40 = .ok (.iconst 0, 1) := dq_3 (dq_w dwc_285 8 rfl)
theorem dX5_owed_41 : decode cX5_owed 41 = .ok (.ireturn, 1) := dq_172 (dq_w dwc_285 9 rfl)
theorem dX5_owed_42 : decode cX5_owed 42 = .ok (.aload_n 0, 1) := dq_42 (dq_w dwc_285 10 rfl)
theorem dX5_owed_43 : decode cX5_owed 43 = .ok (.getfield 12, 3) := dq_180 (dq_w dwc_285 11 rfl) (dq_w dwc_285 12 rfl) (dq_w dwc_285 13 rfl) rfl
theorem dX5_owed_46 : decode cX5_owed 46 = .ok (.iload_n 1, 1) := dq_27 (dq_w dwc_285 14 rfl)
theorem dX5_owed_47 : decode cX5_owed 47 = .ok (.iload_n 2, 1) := dq_28 (dq_w dwc_285 15 rfl)
theorem dX5_owed_48 : decode cX5_owed 48 = .ok (.bipush 60, 2) := dq_16 (dq_w dwc_286 0 rfl) (dq_w dwc_286 1 rfl) rfl
theorem dX5_owed_50 : decode cX5_owed 50 = .ok (.invokevirtual 201, 3) := dq_182 (dq_w dwc_286 2 rfl) (dq_w dwc_286 3 rfl) (dq_w dwc_286 4 rfl) rfl
theorem dX5_owed_53 : decode cX5_owed 53 = .ok (.ireturn, 1) := dq_172 (dq_w dwc_286 5 rfl)
theorem dwc_287 : (cX5_home.data.toList.drop 0).take 16 = [42, 180, 0, 12, 27, 182, 0, 119, 154, 0, 9, 42, 2, 182, 0, 65] := by decide +kernel
theorem dwc_288 : (cX5_home.data.toList.drop 16).take 16 = [172, 42, 180, 0, 12, 180, 0, 122, 27, 46, 42, 180, 0, 12, 180, 0] := by decide +kernel
theorem dwc_289 : (cX5_home.data.toList.drop 32).take 16 = [125, 27, 46, 184, 0, 204, 172] := by decide +kernel
theorem dX5_home_0 : decode cX5_home 0 = .ok (.aload_n 0, 1) := dq_42 (dq_w dwc_287 0 rfl)
theorem dX5_home_1 : decode cX5_home 1 = .ok (.getfield 12, 3) := dq_180 (dq_w dwc_287 1 rfl) (dq_w dwc_287 2 rfl) (dq_w dwc_287 3 rfl) rfl
theorem dX5_home_4 : decode cX5_home 4 = .ok (.iload_n 1, 1) := dq_27 (dq_w dwc_287 4 rfl)
theorem dX5_home_5 : decode cX5_home 5 = .ok (.invokevirtual 119, 3) := dq_182 (dq_w dwc_287 5 rfl) (dq_w dwc_287 6 rfl) (dq_w dwc_287 7 rfl) rfl
theorem dX5_home_8 : decode cX5_home 8 = .ok (.ifCond .ne 9, 3) := dq_154 (dq_w dwc_287 8 rfl) (dq_w dwc_287 9 rfl) (dq_w dwc_287 10 rfl) (dq_p (n := 9) rfl rfl)
theorem dX5_home_11 : decode cX5_home 11 = .ok (.aload_n 0, 1) := dq_42 (dq_w dwc_287 11 rfl)
theorem dX5_home_12 : decode cX5_home 12 = .ok (.iconst (-1), 1) := dq_2 (dq_w dwc_287 12 rfl)
theorem dX5_home_13 : decode cX5_home 13 = .ok (.invokevirtual 65, 3) := dq_182 (dq_w dwc_287 13 rfl) (dq_w dwc_287 14 rfl) (dq_w dwc_287 15 rfl) rfl
theorem dX5_home_16 : decode cX5_home 16 = .ok (.ireturn, 1) := dq_172 (dq_w dwc_288 0 rfl)
theorem dX5_home_17 : decode cX5_home 17 = .ok (.aload_n 0, 1) := dq_42 (dq_w dwc_288 1 rfl)
theorem dX5_home_18 : decode cX5_home 18 = .ok (.getfield 12, 3) := dq_180 (dq_w dwc_288 2 rfl) (dq_w dwc_288 3 rfl) (dq_w dwc_288 4 rfl) rfl
theorem dX5_home_21 : decode cX5_home 21 = .ok (.getfield 122, 3) := dq_180 (dq_w dwc_288 5 rfl) (dq_w dwc_288 6 rfl) (dq_w dwc_288 7 rfl) rfl
theorem dX5_home_24 : decode cX5_home 24 = .ok (.iload_n 1, 1) := dq_27 (dq_w dwc_288 8 rfl)
theorem dX5_home_25 : decode cX5_home 25 = .ok (.iaload, 1) := dq_46 (dq_w dwc_288 9 rfl)
theorem dX5_home_26 : decode cX5_home 26 = .ok (.aload_n 0, 1) := dq_42 (dq_w dwc_288 10 rfl)
theorem dX5_home_27 : decode cX5_home 27 = .ok (.getfield 12, 3) := dq_180 (dq_w dwc_288 11 rfl) (dq_w dwc_288 12 rfl) (dq_w dwc_288 13 rfl) rfl
theorem dX5_home_30 : decode cX5_home 30 = .ok (.getfield 125, 3) := dq_180 (dq_w dwc_288 14 rfl) (dq_w dwc_288 15 rfl) (dq_w dwc_289 0 rfl) rfl
theorem dX5_home_33 : decode cX5_home 33 = .ok (.iload_n 1, 1) := dq_27 (dq_w dwc_289 1 rfl)
theorem dX5_home_34 : decode cX5_home 34 = .ok (.iaload, 1) := dq_46 (dq_w dwc_289 2 rfl)
theorem dX5_home_35 : decode cX5_home 35 = .ok (.invokestatic 204, 3) := dq_184 (dq_w dwc_289 3 rfl) (dq_w dwc_289 4 rfl) (dq_w dwc_289 5 rfl) rfl
theorem dX5_home_38 : decode cX5_home 38 = .ok (.ireturn, 1) := dq_172 (dq_w dwc_289 6 rfl)
theorem dwc_290 : (cX5_richest.data.toList.drop 0).take 16 = [27, 153, 0, 15, 27, 4, 159, 0, 10, 42, 16, 254, 182, 0, 65, 172] := by decide +kernel
theorem dwc_291 : (cX5_richest.data.toList.drop 16).take 16 = [27, 154, 0, 10, 42, 182, 0, 207, 167, 0, 7, 42, 182, 0, 211, 172] := by decide +kernel
theorem dX5_richest_0 : decode cX5_richest 0 = .ok (.iload_n 1, 1) := dq_27 (dq_w dwc_290 0 rfl)
theorem dX5_richest_1 : decode cX5_richest 1 = .ok (.ifCond .eq 15, 3) := dq_153 (dq_w dwc_290 1 rfl) (dq_w dwc_290 2 rfl) (dq_w dwc_290 3 rfl) (dq_p (n := 15) rfl rfl)
theorem dX5_richest_4 : decode cX5_richest 4 = .ok (.iload_n 1, 1) := dq_27 (dq_w dwc_290 4 rfl)
theorem dX5_richest_5 : decode cX5_richest 5 = .ok (.iconst 1, 1) := dq_4 (dq_w dwc_290 5 rfl)
theorem dX5_richest_6 : decode cX5_richest 6 = .ok (.if_icmp .eq 10, 3) := dq_159 (dq_w dwc_290 6 rfl) (dq_w dwc_290 7 rfl) (dq_w dwc_290 8 rfl) (dq_p (n := 10) rfl rfl)
theorem dX5_richest_9 : decode cX5_richest 9 = .ok (.aload_n 0, 1) := dq_42 (dq_w dwc_290 9 rfl)
theorem dX5_richest_10 : decode cX5_richest 10 = .ok (.bipush (-2), 2) := dq_16 (dq_w dwc_290 10 rfl) (dq_w dwc_290 11 rfl) rfl
theorem dX5_richest_12 : decode cX5_richest 12 = .ok (.invokevirtual 65, 3) := dq_182 (dq_w dwc_290 12 rfl) (dq_w dwc_290 13 rfl) (dq_w dwc_290 14 rfl) rfl
theorem dX5_richest_15 : decode cX5_richest 15 = .ok (.ireturn, 1) := dq_172 (dq_w dwc_290 15 rfl)
theorem dX5_richest_16 : decode cX5_richest 16 = .ok (.iload_n 1, 1) := dq_27 (dq_w dwc_291 0 rfl)
theorem dX5_richest_17 : decode cX5_richest 17 = .ok (.ifCond .ne 10, 3) := dq_154 (dq_w dwc_291 1 rfl) (dq_w dwc_291 2 rfl) (dq_w dwc_291 3 rfl) (dq_p (n := 10) rfl rfl)
theorem dX5_richest_20 : decode cX5_richest 20 = .ok (.aload_n 0, 1) := dq_42 (dq_w dwc_291 4 rfl)
theorem dX5_richest_21 : decode cX5_richest 21 = .ok (.invokevirtual 207, 3) := dq_182 (dq_w dwc_291 5 rfl) (dq_w dwc_291 6 rfl) (dq_w dwc_291 7 rfl) rfl
theorem dX5_richest_24 : decode cX5_richest 24 = .ok (.goto 7, 3) := dq_167 (dq_w dwc_291 8 rfl) (dq_w dwc_291 9 rfl) (dq_w dwc_291 10 rfl) (dq_p (n := 7) rfl rfl)
theorem dX5_richest_27 : decode cX5_richest 27 = .ok (.aload_n 0, 1) := dq_42 (dq_w dwc_291 11 rfl)
theorem dX5_richest_28 : decode cX5_richest 28 = .ok (.invokevirtual 211, 3) := dq_182 (dq_w dwc_291 12 rfl) (dq_w dwc_291 13 rfl) (dq_w dwc_291 14 rfl) rfl
theorem dX5_richest_31 : decode cX5_richest 31 = .ok (.ireturn, 1) := dq_172 (dq_w dwc_291 15 rfl)
theorem dwc_292 : (cX5_way.data.toList.drop 0).take 16 = [42, 180, 0, 12, 27, 182, 0, 119, 153, 0, 10, 28, 184, 0, 151, 154] := by decide +kernel
theorem dwc_293 : (cX5_way.data.toList.drop 16).take 16 = [0, 9, 42, 2, 182, 0, 65, 172, 29, 153, 0, 15, 29, 4, 159, 0] := by decide +kernel
theorem dwc_294 : (cX5_way.data.toList.drop 32).take 16 = [10, 42, 16, 254, 182, 0, 65, 172, 42, 180, 0, 43, 42, 180, 0, 12] := by decide +kernel
theorem dwc_295 : (cX5_way.data.toList.drop 48).take 16 = [27, 28, 182, 0, 214, 29, 154, 0, 13, 42, 180, 0, 43, 180, 0, 218] := by decide +kernel
theorem dwc_296 : (cX5_way.data.toList.drop 64).take 16 = [167, 0, 10, 42, 180, 0, 43, 180, 0, 221, 172] := by decide +kernel
theorem dX5_way_0 : decode cX5_way 0 = .ok (.aload_n 0, 1) := dq_42 (dq_w dwc_292 0 rfl)
theorem dX5_way_1 : decode cX5_way 1 = .ok (.getfield 12, 3) := dq_180 (dq_w dwc_292 1 rfl) (dq_w dwc_292 2 rfl) (dq_w dwc_292 3 rfl) rfl
theorem dX5_way_4 : decode cX5_way 4 = .ok (.iload_n 1, 1) := dq_27 (dq_w dwc_292 4 rfl)
theorem dX5_way_5 : decode cX5_way 5 = .ok (.invokevirtual 119, 3) := dq_182 (dq_w dwc_292 5 rfl) (dq_w dwc_292 6 rfl) (dq_w dwc_292 7 rfl) rfl
theorem dX5_way_8 : decode cX5_way 8 = .ok (.ifCond .eq 10, 3) := dq_153 (dq_w dwc_292 8 rfl) (dq_w dwc_292 9 rfl) (dq_w dwc_292 10 rfl) (dq_p (n := 10) rfl rfl)
theorem dX5_way_11 : decode cX5_way 11 = .ok (.iload_n 2, 1) := dq_28 (dq_w dwc_292 11 rfl)
theorem dX5_way_12 : decode cX5_way 12 = .ok (.invokestatic 151, 3) := dq_184 (dq_w dwc_292 12 rfl) (dq_w dwc_292 13 rfl) (dq_w dwc_292 14 rfl) rfl
theorem dX5_way_15 : decode cX5_way 15 = .ok (.ifCond .ne 9, 3) := dq_154 (dq_w dwc_292 15 rfl) (dq_w dwc_293 0 rfl) (dq_w dwc_293 1 rfl) (dq_p (n := 9) rfl rfl)
theorem dX5_way_18 : decode cX5_way 18 = .ok (.aload_n 0, 1) := dq_42 (dq_w dwc_293 2 rfl)
theorem dX5_way_19 : decode cX5_way 19 = .ok (.iconst (-1), 1) := dq_2 (dq_w dwc_293 3 rfl)
theorem dX5_way_20 : decode cX5_way 20 = .ok (.invokevirtual 65, 3) := dq_182 (dq_w dwc_293 4 rfl) (dq_w dwc_293 5 rfl) (dq_w dwc_293 6 rfl) rfl
theorem dX5_way_23 : decode cX5_way 23 = .ok (.ireturn, 1) := dq_172 (dq_w dwc_293 7 rfl)
theorem dX5_way_24 : decode cX5_way 24 = .ok (.iload_n 3, 1) := dq_29 (dq_w dwc_293 8 rfl)
theorem dX5_way_25 : decode cX5_way 25 = .ok (.ifCond .eq 15, 3) := dq_153 (dq_w dwc_293 9 rfl) (dq_w dwc_293 10 rfl) (dq_w dwc_293 11 rfl) (dq_p (n := 15) rfl rfl)
theorem dX5_way_28 : decode cX5_way 28 = .ok (.iload_n 3, 1) := dq_29 (dq_w dwc_293 12 rfl)
theorem dX5_way_29 : decode cX5_way 29 = .ok (.iconst 1, 1) := dq_4 (dq_w dwc_293 13 rfl)
theorem dX5_way_30 : decode cX5_way 30 = .ok (.if_icmp .eq 10, 3) := dq_159 (dq_w dwc_293 14 rfl) (dq_w dwc_293 15 rfl) (dq_w dwc_294 0 rfl) (dq_p (n := 10) rfl rfl)
theorem dX5_way_33 : decode cX5_way 33 = .ok (.aload_n 0, 1) := dq_42 (dq_w dwc_294 1 rfl)
theorem dX5_way_34 : decode cX5_way 34 = .ok (.bipush (-2), 2) := dq_16 (dq_w dwc_294 2 rfl) (dq_w dwc_294 3 rfl) rfl
theorem dX5_way_36 : decode cX5_way 36 = .ok (.invokevirtual 65, 3) := dq_182 (dq_w dwc_294 4 rfl) (dq_w dwc_294 5 rfl) (dq_w dwc_294 6 rfl) rfl
theorem dX5_way_39 : decode cX5_way 39 = .ok (.ireturn, 1) := dq_172 (dq_w dwc_294 7 rfl)
theorem dX5_way_40 : decode cX5_way 40 = .ok (.aload_n 0, 1) := dq_42 (dq_w dwc_294 8 rfl)
theorem dX5_way_41 : decode cX5_way 41 = .ok (.getfield 43, 3) := dq_180 (dq_w dwc_294 9 rfl) (dq_w dwc_294 10 rfl) (dq_w dwc_294 11 rfl) rfl
theorem dX5_way_44 : decode cX5_way 44 = .ok (.aload_n 0, 1) := dq_42 (dq_w dwc_294 12 rfl)
theorem dX5_way_45 : decode cX5_way 45 = .ok (.getfield 12, 3) := dq_180 (dq_w dwc_294 13 rfl) (dq_w dwc_294 14 rfl) (dq_w dwc_294 15 rfl) rfl
theorem dX5_way_48 : decode cX5_way 48 = .ok (.iload_n 1, 1) := dq_27 (dq_w dwc_295 0 rfl)
theorem dX5_way_49 : decode cX5_way 49 = .ok (.iload_n 2, 1) := dq_28 (dq_w dwc_295 1 rfl)
theorem dX5_way_50 : decode cX5_way 50 = .ok (.invokevirtual 214, 3) := dq_182 (dq_w dwc_295 2 rfl) (dq_w dwc_295 3 rfl) (dq_w dwc_295 4 rfl) rfl
theorem dX5_way_53 : decode cX5_way 53 = .ok (.iload_n 3, 1) := dq_29 (dq_w dwc_295 5 rfl)
theorem dX5_way_54 : decode cX5_way 54 = .ok (.ifCond .ne 13, 3) := dq_154 (dq_w dwc_295 6 rfl) (dq_w dwc_295 7 rfl) (dq_w dwc_295 8 rfl) (dq_p (n := 13) rfl rfl)
theorem dX5_way_57 : decode cX5_way 57 = .ok (.aload_n 0, 1) := dq_42 (dq_w dwc_295 9 rfl)
theorem dX5_way_58 : decode cX5_way 58 = .ok (.getfield 43, 3) := dq_180 (dq_w dwc_295 10 rfl) (dq_w dwc_295 11 rfl) (dq_w dwc_295 12 rfl) rfl
theorem dX5_way_61 : decode cX5_way 61 = .ok (.getfield 218, 3) := dq_180 (dq_w dwc_295 13 rfl) (dq_w dwc_295 14 rfl) (dq_w dwc_295 15 rfl) rfl
theorem dX5_way_64 : decode cX5_way 64 = .ok (.goto 10, 3) := dq_167 (dq_w dwc_296 0 rfl) (dq_w dwc_296 1 rfl) (dq_w dwc_296 2 rfl) (dq_p (n := 10) rfl rfl)
theorem dX5_way_67 : decode cX5_way 67 = .ok (.aload_n 0, 1) := dq_42 (dq_w dwc_296 3 rfl)
theorem dX5_way_68 : decode cX5_way 68 = .ok (.getfield 43, 3) := dq_180 (dq_w dwc_296 4 rfl) (dq_w dwc_296 5 rfl) (dq_w dwc_296 6 rfl) rfl
theorem dX5_way_71 : decode cX5_way 71 = .ok (.getfield 221, 3) := dq_180 (dq_w dwc_296 7 rfl) (dq_w dwc_296 8 rfl) (dq_w dwc_296 9 rfl) rfl
theorem dX5_way_74 : decode cX5_way 74 = .ok (.ireturn, 1) := dq_172 (dq_w dwc_296 10 rfl)
theorem dwc_297 : (cX5_payAll.data.toList.drop 0).take 16 = [42, 180, 0, 12, 27, 182, 0, 119, 154, 0, 9, 42, 2, 182, 0, 65] := by decide +kernel
theorem dwc_298 : (cX5_payAll.data.toList.drop 16).take 16 = [172, 28, 2, 162, 0, 10, 42, 16, 252, 182, 0, 65, 172, 42, 180, 0] := by decide +kernel
theorem dwc_299 : (cX5_payAll.data.toList.drop 32).take 16 = [50, 42, 180, 0, 12, 27, 182, 0, 224, 28, 2, 160, 0, 43, 42, 180] := by decide +kernel
theorem dwc_300 : (cX5_payAll.data.toList.drop 48).take 16 = [0, 12, 27, 3, 182, 0, 137, 6, 42, 180, 0, 50, 42, 180, 0, 12] := by decide +kernel
theorem dwc_301 : (cX5_payAll.data.toList.drop 64).take 16 = [42, 180, 0, 12, 180, 0, 122, 27, 46, 42, 180, 0, 50, 180, 0, 228] := by decide +kernel
theorem dwc_302 : (cX5_payAll.data.toList.drop 80).take 16 = [182, 0, 231, 104, 96, 172, 42, 180, 0, 50, 42, 180, 0, 12, 42, 180] := by decide +kernel
theorem dwc_303 : (cX5_payAll.data.toList.drop 96).take 16 = [0, 12, 180, 0, 122, 27, 46, 28, 182, 0, 235, 172] := by decide +kernel
theorem dX5_payAll_0 : decode cX5_payAll 0 = .ok (.aload_n 0, 1) := dq_42 (dq_w dwc_297 0 rfl)
theorem dX5_payAll_1 : decode cX5_payAll 1 = .ok (.getfield 12, 3) := dq_180 (dq_w dwc_297 1 rfl) (dq_w dwc_297 2 rfl) (dq_w dwc_297 3 rfl) rfl
theorem dX5_payAll_4 : decode cX5_payAll 4 = .ok (.iload_n 1, 1) := dq_27 (dq_w dwc_297 4 rfl)
theorem dX5_payAll_5 : decode cX5_payAll 5 = .ok (.invokevirtual 119, 3) := dq_182 (dq_w dwc_297 5 rfl) (dq_w dwc_297 6 rfl) (dq_w dwc_297 7 rfl) rfl
theorem dX5_payAll_8 : decode cX5_payAll 8 = .ok (.ifCond .ne 9, 3) := dq_154 (dq_w dwc_297 8 rfl) (dq_w dwc_297 9 rfl) (dq_w dwc_297 10 rfl) (dq_p (n := 9) rfl rfl)
theorem dX5_payAll_11 : decode cX5_payAll 11 = .ok (.aload_n 0, 1) := dq_42 (dq_w dwc_297 11 rfl)
theorem dX5_payAll_12 : decode cX5_payAll 12 = .ok (.iconst (-1), 1) := dq_2 (dq_w dwc_297 12 rfl)
theorem dX5_payAll_13 : decode cX5_payAll 13 = .ok (.invokevirtual 65, 3) := dq_182 (dq_w dwc_297 13 rfl) (dq_w dwc_297 14 rfl) (dq_w dwc_297 15 rfl) rfl
theorem dX5_payAll_16 : decode cX5_payAll 16 = .ok (.ireturn, 1) := dq_172 (dq_w dwc_298 0 rfl)
theorem dX5_payAll_17 : decode cX5_payAll 17 = .ok (.iload_n 2, 1) := dq_28 (dq_w dwc_298 1 rfl)
theorem dX5_payAll_18 : decode cX5_payAll 18 = .ok (.iconst (-1), 1) := dq_2 (dq_w dwc_298 2 rfl)
theorem dX5_payAll_19 : decode cX5_payAll 19 = .ok (.if_icmp .ge 10, 3) := dq_162 (dq_w dwc_298 3 rfl) (dq_w dwc_298 4 rfl) (dq_w dwc_298 5 rfl) (dq_p (n := 10) rfl rfl)
theorem dX5_payAll_22 : decode cX5_payAll 22 = .ok (.aload_n 0, 1) := dq_42 (dq_w dwc_298 6 rfl)
theorem dX5_payAll_23 : decode cX5_payAll 23 = .ok (.bipush (-4), 2) := dq_16 (dq_w dwc_298 7 rfl) (dq_w dwc_298 8 rfl) rfl
theorem dX5_payAll_25 : decode cX5_payAll 25 = .ok (.invokevirtual 65, 3) := dq_182 (dq_w dwc_298 9 rfl) (dq_w dwc_298 10 rfl) (dq_w dwc_298 11 rfl) rfl
theorem dX5_payAll_28 : decode cX5_payAll 28 = .ok (.ireturn, 1) := dq_172 (dq_w dwc_298 12 rfl)
theorem dX5_payAll_29 : decode cX5_payAll 29 = .ok (.aload_n 0, 1) := dq_42 (dq_w dwc_298 13 rfl)
theorem dX5_payAll_30 : decode cX5_payAll 30 = .ok (.getfield 50, 3) := dq_180 (dq_w dwc_298 14 rfl) (dq_w dwc_298 15 rfl) (dq_w dwc_299 0 rfl) rfl
theorem dX5_payAll_33 : decode cX5_payAll 33 = .ok (.aload_n 0, 1) := dq_42 (dq_w dwc_299 1 rfl)
theorem dX5_payAll_34 : decode cX5_payAll 34 = .ok (.getfield 12, 3) := dq_180 (dq_w dwc_299 2 rfl) (dq_w dwc_299 3 rfl) (dq_w dwc_299 4 rfl) rfl
theorem dX5_payAll_37 : decode cX5_payAll 37 = .ok (.iload_n 1, 1) := dq_27 (dq_w dwc_299 5 rfl)
theorem dX5_payAll_38 : decode cX5_payAll 38 = .ok (.invokevirtual 224, 3) := dq_182 (dq_w dwc_299 6 rfl) (dq_w dwc_299 7 rfl) (dq_w dwc_299 8 rfl) rfl
theorem dX5_payAll_41 : decode cX5_payAll 41 = .ok (.iload_n 2, 1) := dq_28 (dq_w dwc_299 9 rfl)
theorem dX5_payAll_42 : decode cX5_payAll 42 = .ok (.iconst (-1), 1) := dq_2 (dq_w dwc_299 10 rfl)
theorem dX5_payAll_43 : decode cX5_payAll 43 = .ok (.if_icmp .ne 43, 3) := dq_160 (dq_w dwc_299 11 rfl) (dq_w dwc_299 12 rfl) (dq_w dwc_299 13 rfl) (dq_p (n := 43) rfl rfl)
theorem dX5_payAll_46 : decode cX5_payAll 46 = .ok (.aload_n 0, 1) := dq_42 (dq_w dwc_299 14 rfl)
theorem dX5_payAll_47 : decode cX5_payAll 47 = .ok (.getfield 12, 3) := dq_180 (dq_w dwc_299 15 rfl) (dq_w dwc_300 0 rfl) (dq_w dwc_300 1 rfl) rfl
theorem dX5_payAll_50 : decode cX5_payAll 50 = .ok (.iload_n 1, 1) := dq_27 (dq_w dwc_300 2 rfl)
theorem dX5_payAll_51 : decode cX5_payAll 51 = .ok (.iconst 0, 1) := dq_3 (dq_w dwc_300 3 rfl)
theorem dX5_payAll_52 : decode cX5_payAll 52 = .ok (.invokevirtual 137, 3) := dq_182 (dq_w dwc_300 4 rfl) (dq_w dwc_300 5 rfl) (dq_w dwc_300 6 rfl) rfl
theorem dX5_payAll_55 : decode cX5_payAll 55 = .ok (.iconst 3, 1) := dq_6 (dq_w dwc_300 7 rfl)
theorem dX5_payAll_56 : decode cX5_payAll 56 = .ok (.aload_n 0, 1) := dq_42 (dq_w dwc_300 8 rfl)
theorem dX5_payAll_57 : decode cX5_payAll 57 = .ok (.getfield 50, 3) := dq_180 (dq_w dwc_300 9 rfl) (dq_w dwc_300 10 rfl) (dq_w dwc_300 11 rfl) rfl
theorem dX5_payAll_60 : decode cX5_payAll 60 = .ok (.aload_n 0, 1) := dq_42 (dq_w dwc_300 12 rfl)
theorem dX5_payAll_61 : decode cX5_payAll 61 = .ok (.getfield 12, 3) := dq_180 (dq_w dwc_300 13 rfl) (dq_w dwc_300 14 rfl) (dq_w dwc_300 15 rfl) rfl
theorem dX5_payAll_64 : decode cX5_payAll 64 = .ok (.aload_n 0, 1) := dq_42 (dq_w dwc_301 0 rfl)
theorem dX5_payAll_65 : decode cX5_payAll 65 = .ok (.getfield 12, 3) := dq_180 (dq_w dwc_301 1 rfl) (dq_w dwc_301 2 rfl) (dq_w dwc_301 3 rfl) rfl
theorem dX5_payAll_68 : decode cX5_payAll 68 = .ok (.getfield 122, 3) := dq_180 (dq_w dwc_301 4 rfl) (dq_w dwc_301 5 rfl) (dq_w dwc_301 6 rfl) rfl
theorem dX5_payAll_71 : decode cX5_payAll 71 = .ok (.iload_n 1, 1) := dq_27 (dq_w dwc_301 7 rfl)
theorem dX5_payAll_72 : decode cX5_payAll 72 = .ok (.iaload, 1) := dq_46 (dq_w dwc_301 8 rfl)
theorem dX5_payAll_73 : decode cX5_payAll 73 = .ok (.aload_n 0, 1) := dq_42 (dq_w dwc_301 9 rfl)
theorem dX5_payAll_74 : decode cX5_payAll 74 = .ok (.getfield 50, 3) := dq_180 (dq_w dwc_301 10 rfl) (dq_w dwc_301 11 rfl) (dq_w dwc_301 12 rfl) rfl
theorem dX5_payAll_77 : decode cX5_payAll 77 = .ok (.getfield 228, 3) := dq_180 (dq_w dwc_301 13 rfl) (dq_w dwc_301 14 rfl) (dq_w dwc_301 15 rfl) rfl
theorem dX5_payAll_80 : decode cX5_payAll 80 = .ok (.invokevirtual 231, 3) := dq_182 (dq_w dwc_302 0 rfl) (dq_w dwc_302 1 rfl) (dq_w dwc_302 2 rfl) rfl
theorem dX5_payAll_83 : decode cX5_payAll 83 = .ok (.imul, 1) := dq_104 (dq_w dwc_302 3 rfl)
theorem dX5_payAll_84 : decode cX5_payAll 84 = .ok (.iadd, 1) := dq_96 (dq_w dwc_302 4 rfl)
theorem dX5_payAll_85 : decode cX5_payAll 85 = .ok (.ireturn, 1) := dq_172 (dq_w dwc_302 5 rfl)
theorem dX5_payAll_86 : decode cX5_payAll 86 = .ok (.aload_n 0, 1) := dq_42 (dq_w dwc_302 6 rfl)
theorem dX5_payAll_87 : decode cX5_payAll 87 = .ok (.getfield 50, 3) := dq_180 (dq_w dwc_302 7 rfl) (dq_w dwc_302 8 rfl) (dq_w dwc_302 9 rfl) rfl
theorem dX5_payAll_90 : decode cX5_payAll 90 = .ok (.aload_n 0, 1) := dq_42 (dq_w dwc_302 10 rfl)
theorem dX5_payAll_91 : decode cX5_payAll 91 = .ok (.getfield 12, 3) := dq_180 (dq_w dwc_302 11 rfl) (dq_w dwc_302 12 rfl) (dq_w dwc_302 13 rfl) rfl
theorem dX5_payAll_94 : decode cX5_payAll 94 = .ok (.aload_n 0, 1) := dq_42 (dq_w dwc_302 14 rfl)
theorem dX5_payAll_95 : decode cX5_payAll 95 = .ok (.getfield 12, 3) := dq_180 (dq_w dwc_302 15 rfl) (dq_w dwc_303 0 rfl) (dq_w dwc_303 1 rfl) rfl
theorem dX5_payAll_98 : decode cX5_payAll 98 = .ok (.getfield 122, 3) := dq_180 (dq_w dwc_303 2 rfl) (dq_w dwc_303 3 rfl) (dq_w dwc_303 4 rfl) rfl
theorem dX5_payAll_101 : decode cX5_payAll 101 = .ok (.iload_n 1, 1) := dq_27 (dq_w dwc_303 5 rfl)
theorem dX5_payAll_102 : decode cX5_payAll 102 = .ok (.iaload, 1) := dq_46 (dq_w dwc_303 6 rfl)
theorem dX5_payAll_103 : decode cX5_payAll 103 = .ok (.iload_n 2, 1) := dq_28 (dq_w dwc_303 7 rfl)
theorem dX5_payAll_104 : decode cX5_payAll 104 = .ok (.invokevirtual 235, 3) := dq_182 (dq_w dwc_303 8 rfl) (dq_w dwc_303 9 rfl) (dq_w dwc_303 10 rfl) rfl
theorem dX5_payAll_107 : decode cX5_payAll 107 = .ok (.ireturn, 1) := dq_172 (dq_w dwc_303 11 rfl)
theorem dwc_304 : (cX5_clear.data.toList.drop 0).take 16 = [42, 180, 0, 12, 27, 182, 0, 90, 153, 0, 19, 42, 180, 0, 12, 28] := by decide +kernel
theorem dwc_305 : (cX5_clear.data.toList.drop 16).take 16 = [182, 0, 90, 153, 0, 8, 27, 28, 160, 0, 12, 18, 238, 42, 2, 182] := by decide +kernel
theorem dwc_306 : (cX5_clear.data.toList.drop 32).take 16 = [0, 65, 100, 172, 42, 180, 0, 12, 27, 3, 182, 0, 113, 62, 42, 180] := by decide +kernel
theorem dwc_307 : (cX5_clear.data.toList.drop 48).take 16 = [0, 12, 28, 3, 182, 0, 113, 54, 4, 29, 21, 4, 2, 130, 126, 184] := by decide +kernel
theorem dwc_308 : (cX5_clear.data.toList.drop 64).take 16 = [0, 239, 21, 4, 29, 2, 130, 126, 184, 0, 239, 100, 172] := by decide +kernel
theorem dX5_clear_0 : decode cX5_clear 0 = .ok (.aload_n 0, 1) := dq_42 (dq_w dwc_304 0 rfl)
theorem dX5_clear_1 : decode cX5_clear 1 = .ok (.getfield 12, 3) := dq_180 (dq_w dwc_304 1 rfl) (dq_w dwc_304 2 rfl) (dq_w dwc_304 3 rfl) rfl
theorem dX5_clear_4 : decode cX5_clear 4 = .ok (.iload_n 1, 1) := dq_27 (dq_w dwc_304 4 rfl)
theorem dX5_clear_5 : decode cX5_clear 5 = .ok (.invokevirtual 90, 3) := dq_182 (dq_w dwc_304 5 rfl) (dq_w dwc_304 6 rfl) (dq_w dwc_304 7 rfl) rfl
theorem dX5_clear_8 : decode cX5_clear 8 = .ok (.ifCond .eq 19, 3) := dq_153 (dq_w dwc_304 8 rfl) (dq_w dwc_304 9 rfl) (dq_w dwc_304 10 rfl) (dq_p (n := 19) rfl rfl)
theorem dX5_clear_11 : decode cX5_clear 11 = .ok (.aload_n 0, 1) := dq_42 (dq_w dwc_304 11 rfl)
theorem dX5_clear_12 : decode cX5_clear 12 = .ok (.getfield 12, 3) := dq_180 (dq_w dwc_304 12 rfl) (dq_w dwc_304 13 rfl) (dq_w dwc_304 14 rfl) rfl
theorem dX5_clear_15 : decode cX5_clear 15 = .ok (.iload_n 2, 1) := dq_28 (dq_w dwc_304 15 rfl)
theorem dX5_clear_16 : decode cX5_clear 16 = .ok (.invokevirtual 90, 3) := dq_182 (dq_w dwc_305 0 rfl) (dq_w dwc_305 1 rfl) (dq_w dwc_305 2 rfl) rfl
theorem dX5_clear_19 : decode cX5_clear 19 = .ok (.ifCond .eq 8, 3) := dq_153 (dq_w dwc_305 3 rfl) (dq_w dwc_305 4 rfl) (dq_w dwc_305 5 rfl) (dq_p (n := 8) rfl rfl)
theorem dX5_clear_22 : decode cX5_clear 22 = .ok (.iload_n 1, 1) := dq_27 (dq_w dwc_305 6 rfl)
theorem dX5_clear_23 : decode cX5_clear 23 = .ok (.iload_n 2, 1) := dq_28 (dq_w dwc_305 7 rfl)
theorem dX5_clear_24 : decode cX5_clear 24 = .ok (.if_icmp .ne 12, 3) := dq_160 (dq_w dwc_305 8 rfl) (dq_w dwc_305 9 rfl) (dq_w dwc_305 10 rfl) (dq_p (n := 12) rfl rfl)
theorem dX5_clear_27 : decode cX5_clear 27 = .ok (.ldc 238, 2) := dq_18 (dq_w dwc_305 11 rfl) (dq_w dwc_305 12 rfl) rfl
theorem dX5_clear_29 : decode cX5_clear 29 = .ok (.aload_n 0, 1) := dq_42 (dq_w dwc_305 13 rfl)
theorem dX5_clear_30 : decode cX5_clear 30 = .ok (.iconst (-1), 1) := dq_2 (dq_w dwc_305 14 rfl)
theorem dX5_clear_31 : decode cX5_clear 31 = .ok (.invokevirtual 65, 3) := dq_182 (dq_w dwc_305 15 rfl) (dq_w dwc_306 0 rfl) (dq_w dwc_306 1 rfl) rfl
theorem dX5_clear_34 : decode cX5_clear 34 = .ok (.isub, 1) := dq_100 (dq_w dwc_306 2 rfl)
theorem dX5_clear_35 : decode cX5_clear 35 = .ok (.ireturn, 1) := dq_172 (dq_w dwc_306 3 rfl)
theorem dX5_clear_36 : decode cX5_clear 36 = .ok (.aload_n 0, 1) := dq_42 (dq_w dwc_306 4 rfl)
theorem dX5_clear_37 : decode cX5_clear 37 = .ok (.getfield 12, 3) := dq_180 (dq_w dwc_306 5 rfl) (dq_w dwc_306 6 rfl) (dq_w dwc_306 7 rfl) rfl
theorem dX5_clear_40 : decode cX5_clear 40 = .ok (.iload_n 1, 1) := dq_27 (dq_w dwc_306 8 rfl)
theorem dX5_clear_41 : decode cX5_clear 41 = .ok (.iconst 0, 1) := dq_3 (dq_w dwc_306 9 rfl)
theorem dX5_clear_42 : decode cX5_clear 42 = .ok (.invokevirtual 113, 3) := dq_182 (dq_w dwc_306 10 rfl) (dq_w dwc_306 11 rfl) (dq_w dwc_306 12 rfl) rfl
theorem dX5_clear_45 : decode cX5_clear 45 = .ok (.istore_n 3, 1) := dq_62 (dq_w dwc_306 13 rfl)
theorem dX5_clear_46 : decode cX5_clear 46 = .ok (.aload_n 0, 1) := dq_42 (dq_w dwc_306 14 rfl)
theorem dX5_clear_47 : decode cX5_clear 47 = .ok (.getfield 12, 3) := dq_180 (dq_w dwc_306 15 rfl) (dq_w dwc_307 0 rfl) (dq_w dwc_307 1 rfl) rfl
theorem dX5_clear_50 : decode cX5_clear 50 = .ok (.iload_n 2, 1) := dq_28 (dq_w dwc_307 2 rfl)
theorem dX5_clear_51 : decode cX5_clear 51 = .ok (.iconst 0, 1) := dq_3 (dq_w dwc_307 3 rfl)
theorem dX5_clear_52 : decode cX5_clear 52 = .ok (.invokevirtual 113, 3) := dq_182 (dq_w dwc_307 4 rfl) (dq_w dwc_307 5 rfl) (dq_w dwc_307 6 rfl) rfl
theorem dX5_clear_55 : decode cX5_clear 55 = .ok (.istore 4, 2) := dq_54 (dq_w dwc_307 7 rfl) (dq_w dwc_307 8 rfl) rfl
theorem dX5_clear_57 : decode cX5_clear 57 = .ok (.iload_n 3, 1) := dq_29 (dq_w dwc_307 9 rfl)
theorem dX5_clear_58 : decode cX5_clear 58 = .ok (.iload 4, 2) := dq_21 (dq_w dwc_307 10 rfl) (dq_w dwc_307 11 rfl) rfl
theorem dX5_clear_60 : decode cX5_clear 60 = .ok (.iconst (-1), 1) := dq_2 (dq_w dwc_307 12 rfl)
theorem dX5_clear_61 : decode cX5_clear 61 = .ok (.ixor, 1) := dq_130 (dq_w dwc_307 13 rfl)
theorem dX5_clear_62 : decode cX5_clear 62 = .ok (.iand, 1) := dq_126 (dq_w dwc_307 14 rfl)
theorem dX5_clear_63 : decode cX5_clear 63 = .ok (.invokestatic 239, 3) := dq_184 (dq_w dwc_307 15 rfl) (dq_w dwc_308 0 rfl) (dq_w dwc_308 1 rfl) rfl
theorem dX5_clear_66 : decode cX5_clear 66 = .ok (.iload 4, 2) := dq_21 (dq_w dwc_308 2 rfl) (dq_w dwc_308 3 rfl) rfl
theorem dX5_clear_68 : decode cX5_clear 68 = .ok (.iload_n 3, 1) := dq_29 (dq_w dwc_308 4 rfl)
theorem dX5_clear_69 : decode cX5_clear 69 = .ok (.iconst (-1), 1) := dq_2 (dq_w dwc_308 5 rfl)
theorem dX5_clear_70 : decode cX5_clear 70 = .ok (.ixor, 1) := dq_130 (dq_w dwc_308 6 rfl)
theorem dX5_clear_71 : decode cX5_clear 71 = .ok (.iand, 1) := dq_126 (dq_w dwc_308 7 rfl)
theorem dX5_clear_72 : decode cX5_clear 72 = .ok (.invokestatic 239, 3) := dq_184 (dq_w dwc_308 8 rfl) (dq_w dwc_308 9 rfl) (dq_w dwc_308 10 rfl) rfl
theorem dX5_clear_75 : decode cX5_clear 75 = .ok (.isub, 1) := dq_100 (dq_w dwc_308 11 rfl)
theorem dX5_clear_76 : decode cX5_clear 76 = .ok (.ireturn, 1) := dq_172 (dq_w dwc_308 12 rfl)
theorem dwc_309 : (cX5_burn.data.toList.drop 0).take 16 = [27, 4, 162, 0, 10, 42, 16, 252, 182, 0, 65, 172, 27, 16, 30, 164] := by decide +kernel
theorem dwc_310 : (cX5_burn.data.toList.drop 16).take 16 = [0, 10, 42, 16, 250, 182, 0, 65, 172, 28, 153, 0, 15, 28, 4, 159] := by decide +kernel
theorem dwc_311 : (cX5_burn.data.toList.drop 32).take 16 = [0, 10, 42, 16, 254, 182, 0, 65, 172, 3, 62, 3, 54, 4, 42, 180] := by decide +kernel
theorem dwc_312 : (cX5_burn.data.toList.drop 48).take 16 = [0, 16, 42, 180, 0, 12, 182, 0, 76, 42, 180, 0, 16, 182, 0, 244] := by decide +kernel
theorem dwc_313 : (cX5_burn.data.toList.drop 64).take 16 = [54, 5, 3, 54, 6, 21, 6, 16, 49, 162, 0, 50, 42, 180, 0, 16] := by decide +kernel
theorem dwc_314 : (cX5_burn.data.toList.drop 80).take 16 = [180, 0, 100, 21, 5, 21, 6, 79, 42, 180, 0, 16, 21, 5, 27, 182] := by decide +kernel
theorem dwc_315 : (cX5_burn.data.toList.drop 96).take 16 = [0, 113, 184, 0, 239, 54, 7, 21, 7, 21, 4, 164, 0, 10, 21, 7] := by decide +kernel
theorem dwc_316 : (cX5_burn.data.toList.drop 112).take 16 = [54, 4, 21, 6, 62, 132, 6, 1, 167, 255, 205, 28, 154, 0, 7, 29] := by decide +kernel
theorem dwc_317 : (cX5_burn.data.toList.drop 128).take 16 = [167, 0, 5, 21, 4, 172] := by decide +kernel
theorem dX5_burn_0 : decode cX5_burn 0 = .ok (.iload_n 1, 1) := dq_27 (dq_w dwc_309 0 rfl)
theorem dX5_burn_1 : decode cX5_burn 1 = .ok (.iconst 1, 1) := dq_4 (dq_w dwc_309 1 rfl)
theorem dX5_burn_2 : decode cX5_burn 2 = .ok (.if_icmp .ge 10, 3) := dq_162 (dq_w dwc_309 2 rfl) (dq_w dwc_309 3 rfl) (dq_w dwc_309 4 rfl) (dq_p (n := 10) rfl rfl)
theorem dX5_burn_5 : decode cX5_burn 5 = .ok (.aload_n 0, 1) := dq_42 (dq_w dwc_309 5 rfl)
theorem dX5_burn_6 : decode cX5_burn 6 = .ok (.bipush (-4), 2) := dq_16 (dq_w dwc_309 6 rfl) (dq_w dwc_309 7 rfl) rfl
theorem dX5_burn_8 : decode cX5_burn 8 = .ok (.invokevirtual 65, 3) := dq_182 (dq_w dwc_309 8 rfl) (dq_w dwc_309 9 rfl) (dq_w dwc_309 10 rfl) rfl
theorem dX5_burn_11 : decode cX5_burn 11 = .ok (.ireturn, 1) := dq_172 (dq_w dwc_309 11 rfl)
theorem dX5_burn_12 : decode cX5_burn 12 = .ok (.iload_n 1, 1) := dq_27 (dq_w dwc_309 12 rfl)
theorem dX5_burn_13 : decode cX5_burn 13 = .ok (.bipush 30, 2) := dq_16 (dq_w dwc_309 13 rfl) (dq_w dwc_309 14 rfl) rfl
theorem dX5_burn_15 : decode cX5_burn 15 = .ok (.if_icmp .le 10, 3) := dq_164 (dq_w dwc_309 15 rfl) (dq_w dwc_310 0 rfl) (dq_w dwc_310 1 rfl) (dq_p (n := 10) rfl rfl)
theorem dX5_burn_18 : decode cX5_burn 18 = .ok (.aload_n 0, 1) := dq_42 (dq_w dwc_310 2 rfl)
theorem dX5_burn_19 : decode cX5_burn 19 = .ok (.bipush (-6), 2) := dq_16 (dq_w dwc_310 3 rfl) (dq_w dwc_310 4 rfl) rfl
theorem dX5_burn_21 : decode cX5_burn 21 = .ok (.invokevirtual 65, 3) := dq_182 (dq_w dwc_310 5 rfl) (dq_w dwc_310 6 rfl) (dq_w dwc_310 7 rfl) rfl
theorem dX5_burn_24 : decode cX5_burn 24 = .ok (.ireturn, 1) := dq_172 (dq_w dwc_310 8 rfl)
theorem dX5_burn_25 : decode cX5_burn 25 = .ok (.iload_n 2, 1) := dq_28 (dq_w dwc_310 9 rfl)
theorem dX5_burn_26 : decode cX5_burn 26 = .ok (.ifCond .eq 15, 3) := dq_153 (dq_w dwc_310 10 rfl) (dq_w dwc_310 11 rfl) (dq_w dwc_310 12 rfl) (dq_p (n := 15) rfl rfl)
theorem dX5_burn_29 : decode cX5_burn 29 = .ok (.iload_n 2, 1) := dq_28 (dq_w dwc_310 13 rfl)
theorem dX5_burn_30 : decode cX5_burn 30 = .ok (.iconst 1, 1) := dq_4 (dq_w dwc_310 14 rfl)
theorem dX5_burn_31 : decode cX5_burn 31 = .ok (.if_icmp .eq 10, 3) := dq_159 (dq_w dwc_310 15 rfl) (dq_w dwc_311 0 rfl) (dq_w dwc_311 1 rfl) (dq_p (n := 10) rfl rfl)
theorem dX5_burn_34 : decode cX5_burn 34 = .ok (.aload_n 0, 1) := dq_42 (dq_w dwc_311 2 rfl)
theorem dX5_burn_35 : decode cX5_burn 35 = .ok (.bipush (-2), 2) := dq_16 (dq_w dwc_311 3 rfl) (dq_w dwc_311 4 rfl) rfl
theorem dX5_burn_37 : decode cX5_burn 37 = .ok (.invokevirtual 65, 3) := dq_182 (dq_w dwc_311 5 rfl) (dq_w dwc_311 6 rfl) (dq_w dwc_311 7 rfl) rfl
theorem dX5_burn_40 : decode cX5_burn 40 = .ok (.ireturn, 1) := dq_172 (dq_w dwc_311 8 rfl)
theorem dX5_burn_41 : decode cX5_burn 41 = .ok (.iconst 0, 1) := dq_3 (dq_w dwc_311 9 rfl)
theorem dX5_burn_42 : decode cX5_burn 42 = .ok (.istore_n 3, 1) := dq_62 (dq_w dwc_311 10 rfl)
theorem dX5_burn_43 : decode cX5_burn 43 = .ok (.iconst 0, 1) := dq_3 (dq_w dwc_311 11 rfl)
theorem dX5_burn_44 : decode cX5_burn 44 = .ok (.istore 4, 2) := dq_54 (dq_w dwc_311 12 rfl) (dq_w dwc_311 13 rfl) rfl
theorem dX5_burn_46 : decode cX5_burn 46 = .ok (.aload_n 0, 1) := dq_42 (dq_w dwc_311 14 rfl)
theorem dX5_burn_47 : decode cX5_burn 47 = .ok (.getfield 16, 3) := dq_180 (dq_w dwc_311 15 rfl) (dq_w dwc_312 0 rfl) (dq_w dwc_312 1 rfl) rfl
theorem dX5_burn_50 : decode cX5_burn 50 = .ok (.aload_n 0, 1) := dq_42 (dq_w dwc_312 2 rfl)
theorem dX5_burn_51 : decode cX5_burn 51 = .ok (.getfield 12, 3) := dq_180 (dq_w dwc_312 3 rfl) (dq_w dwc_312 4 rfl) (dq_w dwc_312 5 rfl) rfl
theorem dX5_burn_54 : decode cX5_burn 54 = .ok (.invokevirtual 76, 3) := dq_182 (dq_w dwc_312 6 rfl) (dq_w dwc_312 7 rfl) (dq_w dwc_312 8 rfl) rfl
theorem dX5_burn_57 : decode cX5_burn 57 = .ok (.aload_n 0, 1) := dq_42 (dq_w dwc_312 9 rfl)
theorem dX5_burn_58 : decode cX5_burn 58 = .ok (.getfield 16, 3) := dq_180 (dq_w dwc_312 10 rfl) (dq_w dwc_312 11 rfl) (dq_w dwc_312 12 rfl) rfl
theorem dX5_burn_61 : decode cX5_burn 61 = .ok (.invokevirtual 244, 3) := dq_182 (dq_w dwc_312 13 rfl) (dq_w dwc_312 14 rfl) (dq_w dwc_312 15 rfl) rfl
theorem dX5_burn_64 : decode cX5_burn 64 = .ok (.istore 5, 2) := dq_54 (dq_w dwc_313 0 rfl) (dq_w dwc_313 1 rfl) rfl
theorem dX5_burn_66 : decode cX5_burn 66 = .ok (.iconst 0, 1) := dq_3 (dq_w dwc_313 2 rfl)
theorem dX5_burn_67 : decode cX5_burn 67 = .ok (.istore 6, 2) := dq_54 (dq_w dwc_313 3 rfl) (dq_w dwc_313 4 rfl) rfl
theorem dX5_burn_69 : decode cX5_burn 69 = .ok (.iload 6, 2) := dq_21 (dq_w dwc_313 5 rfl) (dq_w dwc_313 6 rfl) rfl
theorem dX5_burn_71 : decode cX5_burn 71 = .ok (.bipush 49, 2) := dq_16 (dq_w dwc_313 7 rfl) (dq_w dwc_313 8 rfl) rfl
theorem dX5_burn_73 : decode cX5_burn 73 = .ok (.if_icmp .ge 50, 3) := dq_162 (dq_w dwc_313 9 rfl) (dq_w dwc_313 10 rfl) (dq_w dwc_313 11 rfl) (dq_p (n := 50) rfl rfl)
theorem dX5_burn_76 : decode cX5_burn 76 = .ok (.aload_n 0, 1) := dq_42 (dq_w dwc_313 12 rfl)
theorem dX5_burn_77 : decode cX5_burn 77 = .ok (.getfield 16, 3) := dq_180 (dq_w dwc_313 13 rfl) (dq_w dwc_313 14 rfl) (dq_w dwc_313 15 rfl) rfl
theorem dX5_burn_80 : decode cX5_burn 80 = .ok (.getfield 100, 3) := dq_180 (dq_w dwc_314 0 rfl) (dq_w dwc_314 1 rfl) (dq_w dwc_314 2 rfl) rfl
theorem dX5_burn_83 : decode cX5_burn 83 = .ok (.iload 5, 2) := dq_21 (dq_w dwc_314 3 rfl) (dq_w dwc_314 4 rfl) rfl
theorem dX5_burn_85 : decode cX5_burn 85 = .ok (.iload 6, 2) := dq_21 (dq_w dwc_314 5 rfl) (dq_w dwc_314 6 rfl) rfl
theorem dX5_burn_87 : decode cX5_burn 87 = .ok (.iastore, 1) := dq_79 (dq_w dwc_314 7 rfl)
theorem dX5_burn_88 : decode cX5_burn 88 = .ok (.aload_n 0, 1) := dq_42 (dq_w dwc_314 8 rfl)
theorem dX5_burn_89 : decode cX5_burn 89 = .ok (.getfield 16, 3) := dq_180 (dq_w dwc_314 9 rfl) (dq_w dwc_314 10 rfl) (dq_w dwc_314 11 rfl) rfl
theorem dX5_burn_92 : decode cX5_burn 92 = .ok (.iload 5, 2) := dq_21 (dq_w dwc_314 12 rfl) (dq_w dwc_314 13 rfl) rfl
theorem dX5_burn_94 : decode cX5_burn 94 = .ok (.iload_n 1, 1) := dq_27 (dq_w dwc_314 14 rfl)
theorem dX5_burn_95 : decode cX5_burn 95 = .ok (.invokevirtual 113, 3) := dq_182 (dq_w dwc_314 15 rfl) (dq_w dwc_315 0 rfl) (dq_w dwc_315 1 rfl) rfl
theorem dX5_burn_98 : decode cX5_burn 98 = .ok (.invokestatic 239, 3) := dq_184 (dq_w dwc_315 2 rfl) (dq_w dwc_315 3 rfl) (dq_w dwc_315 4 rfl) rfl
theorem dX5_burn_101 : decode cX5_burn 101 = .ok (.istore 7, 2) := dq_54 (dq_w dwc_315 5 rfl) (dq_w dwc_315 6 rfl) rfl
theorem dX5_burn_103 : decode cX5_burn 103 = .ok (.iload 7, 2) := dq_21 (dq_w dwc_315 7 rfl) (dq_w dwc_315 8 rfl) rfl
theorem dX5_burn_105 : decode cX5_burn 105 = .ok (.iload 4, 2) := dq_21 (dq_w dwc_315 9 rfl) (dq_w dwc_315 10 rfl) rfl
theorem dX5_burn_107 : decode cX5_burn 107 = .ok (.if_icmp .le 10, 3) := dq_164 (dq_w dwc_315 11 rfl) (dq_w dwc_315 12 rfl) (dq_w dwc_315 13 rfl) (dq_p (n := 10) rfl rfl)
theorem dX5_burn_110 : decode cX5_burn 110 = .ok (.iload 7, 2) := dq_21 (dq_w dwc_315 14 rfl) (dq_w dwc_315 15 rfl) rfl
theorem dX5_burn_112 : decode cX5_burn 112 = .ok (.istore 4, 2) := dq_54 (dq_w dwc_316 0 rfl) (dq_w dwc_316 1 rfl) rfl
theorem dX5_burn_114 : decode cX5_burn 114 = .ok (.iload 6, 2) := dq_21 (dq_w dwc_316 2 rfl) (dq_w dwc_316 3 rfl) rfl
theorem dX5_burn_116 : decode cX5_burn 116 = .ok (.istore_n 3, 1) := dq_62 (dq_w dwc_316 4 rfl)
theorem dX5_burn_117 : decode cX5_burn 117 = .ok (.iinc 6 1, 3) := dq_132 (dq_w dwc_316 5 rfl) (dq_w dwc_316 6 rfl) rfl (dq_w dwc_316 7 rfl) rfl
theorem dX5_burn_120 : decode cX5_burn 120 = .ok (.goto (-51), 3) := dq_167 (dq_w dwc_316 8 rfl) (dq_w dwc_316 9 rfl) (dq_w dwc_316 10 rfl) (dq_n (m := 51) rfl rfl)
theorem dX5_burn_123 : decode cX5_burn 123 = .ok (.iload_n 2, 1) := dq_28 (dq_w dwc_316 11 rfl)
theorem dX5_burn_124 : decode cX5_burn 124 = .ok (.ifCond .ne 7, 3) := dq_154 (dq_w dwc_316 12 rfl) (dq_w dwc_316 13 rfl) (dq_w dwc_316 14 rfl) (dq_p (n := 7) rfl rfl)
theorem dX5_burn_127 : decode cX5_burn 127 = .ok (.iload_n 3, 1) := dq_29 (dq_w dwc_316 15 rfl)
theorem dX5_burn_128 : decode cX5_burn 128 = .ok (.goto 5, 3) := dq_167 (dq_w dwc_317 0 rfl) (dq_w dwc_317 1 rfl) (dq_w dwc_317 2 rfl) (dq_p (n := 5) rfl rfl)
theorem dX5_burn_131 : decode cX5_burn 131 = .ok (.iload 4, 2) := dq_21 (dq_w dwc_317 3 rfl) (dq_w dwc_317 4 rfl) rfl
theorem dX5_burn_133 : decode cX5_burn 133 = .ok (.ireturn, 1) := dq_172 (dq_w dwc_317 5 rfl)
theorem dwc_318 : (cX5_shut.data.toList.drop 0).take 16 = [27, 156, 0, 10, 42, 16, 252, 182, 0, 65, 172, 27, 16, 60, 164, 0] := by decide +kernel
theorem dwc_319 : (cX5_shut.data.toList.drop 16).take 16 = [10, 42, 16, 250, 182, 0, 65, 172, 16, 247, 61, 42, 180, 0, 12, 27] := by decide +kernel
theorem dwc_320 : (cX5_shut.data.toList.drop 32).take 16 = [182, 0, 198, 62, 3, 54, 4, 21, 4, 42, 180, 0, 12, 180, 0, 148] := by decide +kernel
theorem dwc_321 : (cX5_shut.data.toList.drop 48).take 16 = [162, 0, 67, 42, 180, 0, 12, 21, 4, 182, 0, 103, 154, 0, 6, 167] := by decide +kernel
theorem dwc_322 : (cX5_shut.data.toList.drop 64).take 16 = [0, 46, 42, 180, 0, 16, 42, 180, 0, 12, 182, 0, 76, 42, 180, 0] := by decide +kernel
theorem dwc_323 : (cX5_shut.data.toList.drop 80).take 16 = [16, 21, 4, 182, 0, 167, 87, 42, 180, 0, 16, 27, 182, 0, 198, 54] := by decide +kernel
theorem dwc_324 : (cX5_shut.data.toList.drop 96).take 16 = [5, 21, 5, 29, 162, 0, 9, 21, 5, 62, 21, 4, 61, 132, 4, 1] := by decide +kernel
theorem dwc_325 : (cX5_shut.data.toList.drop 112).take 16 = [167, 255, 183, 28, 172] := by decide +kernel
theorem dX5_shut_0 : decode cX5_shut 0 = .ok (.iload_n 1, 1) := dq_27 (dq_w dwc_318 0 rfl)
theorem dX5_shut_1 : decode cX5_shut 1 = .ok (.ifCond .ge 10, 3) := dq_156 (dq_w dwc_318 1 rfl) (dq_w dwc_318 2 rfl) (dq_w dwc_318 3 rfl) (dq_p (n := 10) rfl rfl)
theorem dX5_shut_4 : decode cX5_shut 4 = .ok (.aload_n 0, 1) := dq_42 (dq_w dwc_318 4 rfl)
theorem dX5_shut_5 : decode cX5_shut 5 = .ok (.bipush (-4), 2) := dq_16 (dq_w dwc_318 5 rfl) (dq_w dwc_318 6 rfl) rfl
theorem dX5_shut_7 : decode cX5_shut 7 = .ok (.invokevirtual 65, 3) := dq_182 (dq_w dwc_318 7 rfl) (dq_w dwc_318 8 rfl) (dq_w dwc_318 9 rfl) rfl
theorem dX5_shut_10 : decode cX5_shut 10 = .ok (.ireturn, 1) := dq_172 (dq_w dwc_318 10 rfl)
theorem dX5_shut_11 : decode cX5_shut 11 = .ok (.iload_n 1, 1) := dq_27 (dq_w dwc_318 11 rfl)
theorem dX5_shut_12 : decode cX5_shut 12 = .ok (.bipush 60, 2) := dq_16 (dq_w dwc_318 12 rfl) (dq_w dwc_318 13 rfl) rfl
theorem dX5_shut_14 : decode cX5_shut 14 = .ok (.if_icmp .le 10, 3) := dq_164 (dq_w dwc_318 14 rfl) (dq_w dwc_318 15 rfl) (dq_w dwc_319 0 rfl) (dq_p (n := 10) rfl rfl)
theorem dX5_shut_17 : decode cX5_shut 17 = .ok (.aload_n 0, 1) := dq_42 (dq_w dwc_319 1 rfl)
theorem dX5_shut_18 : decode cX5_shut 18 = .ok (.bipush (-6), 2) := dq_16 (dq_w dwc_319 2 rfl) (dq_w dwc_319 3 rfl) rfl
theorem dX5_shut_20 : decode cX5_shut 20 = .ok (.invokevirtual 65, 3) := dq_182 (dq_w dwc_319 4 rfl) (dq_w dwc_319 5 rfl) (dq_w dwc_319 6 rfl) rfl
theorem dX5_shut_23 : decode cX5_shut 23 = .ok (.ireturn, 1) := dq_172 (dq_w dwc_319 7 rfl)
theorem dX5_shut_24 : decode cX5_shut 24 = .ok (.bipush (-9), 2) := dq_16 (dq_w dwc_319 8 rfl) (dq_w dwc_319 9 rfl) rfl
theorem dX5_shut_26 : decode cX5_shut 26 = .ok (.istore_n 2, 1) := dq_61 (dq_w dwc_319 10 rfl)
theorem dX5_shut_27 : decode cX5_shut 27 = .ok (.aload_n 0, 1) := dq_42 (dq_w dwc_319 11 rfl)
theorem dX5_shut_28 : decode cX5_shut 28 = .ok (.getfield 12, 3) := dq_180 (dq_w dwc_319 12 rfl) (dq_w dwc_319 13 rfl) (dq_w dwc_319 14 rfl) rfl
theorem dX5_shut_31 : decode cX5_shut 31 = .ok (.iload_n 1, 1) := dq_27 (dq_w dwc_319 15 rfl)
theorem dX5_shut_32 : decode cX5_shut 32 = .ok (.invokevirtual 198, 3) := dq_182 (dq_w dwc_320 0 rfl) (dq_w dwc_320 1 rfl) (dq_w dwc_320 2 rfl) rfl
theorem dX5_shut_35 : decode cX5_shut 35 = .ok (.istore_n 3, 1) := dq_62 (dq_w dwc_320 3 rfl)
theorem dX5_shut_36 : decode cX5_shut 36 = .ok (.iconst 0, 1) := dq_3 (dq_w dwc_320 4 rfl)
theorem dX5_shut_37 : decode cX5_shut 37 = .ok (.istore 4, 2) := dq_54 (dq_w dwc_320 5 rfl) (dq_w dwc_320 6 rfl) rfl
theorem dX5_shut_39 : decode cX5_shut 39 = .ok (.iload 4, 2) := dq_21 (dq_w dwc_320 7 rfl) (dq_w dwc_320 8 rfl) rfl
theorem dX5_shut_41 : decode cX5_shut 41 = .ok (.aload_n 0, 1) := dq_42 (dq_w dwc_320 9 rfl)
theorem dX5_shut_42 : decode cX5_shut 42 = .ok (.getfield 12, 3) := dq_180 (dq_w dwc_320 10 rfl) (dq_w dwc_320 11 rfl) (dq_w dwc_320 12 rfl) rfl
theorem dX5_shut_45 : decode cX5_shut 45 = .ok (.getfield 148, 3) := dq_180 (dq_w dwc_320 13 rfl) (dq_w dwc_320 14 rfl) (dq_w dwc_320 15 rfl) rfl
theorem dX5_shut_48 : decode cX5_shut 48 = .ok (.if_icmp .ge 67, 3) := dq_162 (dq_w dwc_321 0 rfl) (dq_w dwc_321 1 rfl) (dq_w dwc_321 2 rfl) (dq_p (n := 67) rfl rfl)
theorem dX5_shut_51 : decode cX5_shut 51 = .ok (.aload_n 0, 1) := dq_42 (dq_w dwc_321 3 rfl)
theorem dX5_shut_52 : decode cX5_shut 52 = .ok (.getfield 12, 3) := dq_180 (dq_w dwc_321 4 rfl) (dq_w dwc_321 5 rfl) (dq_w dwc_321 6 rfl) rfl
theorem dX5_shut_55 : decode cX5_shut 55 = .ok (.iload 4, 2) := dq_21 (dq_w dwc_321 7 rfl) (dq_w dwc_321 8 rfl) rfl
theorem dX5_shut_57 : decode cX5_shut 57 = .ok (.invokevirtual 103, 3) := dq_182 (dq_w dwc_321 9 rfl) (dq_w dwc_321 10 rfl) (dq_w dwc_321 11 rfl) rfl
theorem dX5_shut_60 : decode cX5_shut 60 = .ok (.ifCond .ne 6, 3) := dq_154 (dq_w dwc_321 12 rfl) (dq_w dwc_321 13 rfl) (dq_w dwc_321 14 rfl) (dq_p (n := 6) rfl rfl)
theorem dX5_shut_63 : decode cX5_shut 63 = .ok (.goto 46, 3) := dq_167 (dq_w dwc_321 15 rfl) (dq_w dwc_322 0 rfl) (dq_w dwc_322 1 rfl) (dq_p (n := 46) rfl rfl)
theorem dX5_shut_66 : decode cX5_shut 66 = .ok (.aload_n 0, 1) := dq_42 (dq_w dwc_322 2 rfl)
theorem dX5_shut_67 : decode cX5_shut 67 = .ok (.getfield 16, 3) := dq_180 (dq_w dwc_322 3 rfl) (dq_w dwc_322 4 rfl) (dq_w dwc_322 5 rfl) rfl
theorem dX5_shut_70 : decode cX5_shut 70 = .ok (.aload_n 0, 1) := dq_42 (dq_w dwc_322 6 rfl)
theorem dX5_shut_71 : decode cX5_shut 71 = .ok (.getfield 12, 3) := dq_180 (dq_w dwc_322 7 rfl) (dq_w dwc_322 8 rfl) (dq_w dwc_322 9 rfl) rfl
theorem dX5_shut_74 : decode cX5_shut 74 = .ok (.invokevirtual 76, 3) := dq_182 (dq_w dwc_322 10 rfl) (dq_w dwc_322 11 rfl) (dq_w dwc_322 12 rfl) rfl
theorem dX5_shut_77 : decode cX5_shut 77 = .ok (.aload_n 0, 1) := dq_42 (dq_w dwc_322 13 rfl)
theorem dX5_shut_78 : decode cX5_shut 78 = .ok (.getfield 16, 3) := dq_180 (dq_w dwc_322 14 rfl) (dq_w dwc_322 15 rfl) (dq_w dwc_323 0 rfl) rfl
theorem dX5_shut_81 : decode cX5_shut 81 = .ok (.iload 4, 2) := dq_21 (dq_w dwc_323 1 rfl) (dq_w dwc_323 2 rfl) rfl
theorem dX5_shut_83 : decode cX5_shut 83 = .ok (.invokevirtual 167, 3) := dq_182 (dq_w dwc_323 3 rfl) (dq_w dwc_323 4 rfl) (dq_w dwc_323 5 rfl) rfl
theorem dX5_shut_86 : decode cX5_shut 86 = .ok (.pop, 1) := dq_87 (dq_w dwc_323 6 rfl)
theorem dX5_shut_87 : decode cX5_shut 87 = .ok (.aload_n 0, 1) := dq_42 (dq_w dwc_323 7 rfl)
theorem dX5_shut_88 : decode cX5_shut 88 = .ok (.getfield 16, 3) := dq_180 (dq_w dwc_323 8 rfl) (dq_w dwc_323 9 rfl) (dq_w dwc_323 10 rfl) rfl
theorem dX5_shut_91 : decode cX5_shut 91 = .ok (.iload_n 1, 1) := dq_27 (dq_w dwc_323 11 rfl)
theorem dX5_shut_92 : decode cX5_shut 92 = .ok (.invokevirtual 198, 3) := dq_182 (dq_w dwc_323 12 rfl) (dq_w dwc_323 13 rfl) (dq_w dwc_323 14 rfl) rfl
theorem dX5_shut_95 : decode cX5_shut 95 = .ok (.istore 5, 2) := dq_54 (dq_w dwc_323 15 rfl) (dq_w dwc_324 0 rfl) rfl
theorem dX5_shut_97 : decode cX5_shut 97 = .ok (.iload 5, 2) := dq_21 (dq_w dwc_324 1 rfl) (dq_w dwc_324 2 rfl) rfl
theorem dX5_shut_99 : decode cX5_shut 99 = .ok (.iload_n 3, 1) := dq_29 (dq_w dwc_324 3 rfl)
theorem dX5_shut_100 : decode cX5_shut 100 = .ok (.if_icmp .ge 9, 3) := dq_162 (dq_w dwc_324 4 rfl) (dq_w dwc_324 5 rfl) (dq_w dwc_324 6 rfl) (dq_p (n := 9) rfl rfl)
theorem dX5_shut_103 : decode cX5_shut 103 = .ok (.iload 5, 2) := dq_21 (dq_w dwc_324 7 rfl) (dq_w dwc_324 8 rfl) rfl
theorem dX5_shut_105 : decode cX5_shut 105 = .ok (.istore_n 3, 1) := dq_62 (dq_w dwc_324 9 rfl)
theorem dX5_shut_106 : decode cX5_shut 106 = .ok (.iload 4, 2) := dq_21 (dq_w dwc_324 10 rfl) (dq_w dwc_324 11 rfl) rfl
theorem dX5_shut_108 : decode cX5_shut 108 = .ok (.istore_n 2, 1) := dq_61 (dq_w dwc_324 12 rfl)
theorem dX5_shut_109 : decode cX5_shut 109 = .ok (.iinc 4 1, 3) := dq_132 (dq_w dwc_324 13 rfl) (dq_w dwc_324 14 rfl) rfl (dq_w dwc_324 15 rfl) rfl
theorem dX5_shut_112 : decode cX5_shut 112 = .ok (.goto (-73), 3) := dq_167 (dq_w dwc_325 0 rfl) (dq_w dwc_325 1 rfl) (dq_w dwc_325 2 rfl) (dq_n (m := 73) rfl rfl)
theorem dX5_shut_115 : decode cX5_shut 115 = .ok (.iload_n 2, 1) := dq_28 (dq_w dwc_325 3 rfl)
theorem dX5_shut_116 : decode cX5_shut 116 = .ok (.ireturn, 1) := dq_172 (dq_w dwc_325 4 rfl)
theorem dwc_326 : (cX5_trade.data.toList.drop 0).take 16 = [42, 180, 0, 12, 27, 182, 0, 119, 153, 0, 14, 42, 180, 0, 12, 28] := by decide +kernel
theorem dwc_327 : (cX5_trade.data.toList.drop 16).take 16 = [182, 0, 90, 154, 0, 9, 42, 2, 182, 0, 65, 172, 42, 180, 0, 12] := by decide +kernel
theorem dwc_328 : (cX5_trade.data.toList.drop 32).take 16 = [27, 28, 182, 0, 140, 154, 0, 10, 42, 16, 253, 182, 0, 65, 172, 16] := by decide +kernel
theorem dwc_329 : (cX5_trade.data.toList.drop 48).take 16 = [247, 62, 42, 180, 0, 12, 182, 0, 247, 54, 4, 3, 54, 5, 21, 5] := by decide +kernel
theorem dwc_330 : (cX5_trade.data.toList.drop 64).take 16 = [42, 180, 0, 12, 180, 0, 158, 162, 0, 89, 42, 180, 0, 12, 21, 5] := by decide +kernel
theorem dwc_331 : (cX5_trade.data.toList.drop 80).take 16 = [28, 182, 0, 140, 153, 0, 6, 167, 0, 67, 42, 180, 0, 16, 42, 180] := by decide +kernel
theorem dwc_332 : (cX5_trade.data.toList.drop 96).take 16 = [0, 12, 182, 0, 76, 42, 180, 0, 16, 27, 28, 2, 182, 0, 176, 42] := by decide +kernel
theorem dwc_333 : (cX5_trade.data.toList.drop 112).take 16 = [180, 0, 16, 21, 5, 28, 42, 180, 0, 12, 27, 28, 3, 182, 0, 144] := by decide +kernel
theorem dwc_334 : (cX5_trade.data.toList.drop 128).take 16 = [182, 0, 176, 42, 180, 0, 16, 182, 0, 247, 54, 6, 21, 6, 21, 4] := by decide +kernel
theorem dwc_335 : (cX5_trade.data.toList.drop 144).take 16 = [162, 0, 10, 21, 6, 54, 4, 21, 5, 62, 132, 5, 1, 167, 255, 161] := by decide +kernel
theorem dwc_336 : (cX5_trade.data.toList.drop 160).take 16 = [29, 172] := by decide +kernel
theorem dX5_trade_0 : decode cX5_trade 0 = .ok (.aload_n 0, 1) := dq_42 (dq_w dwc_326 0 rfl)
theorem dX5_trade_1 : decode cX5_trade 1 = .ok (.getfield 12, 3) := dq_180 (dq_w dwc_326 1 rfl) (dq_w dwc_326 2 rfl) (dq_w dwc_326 3 rfl) rfl
theorem dX5_trade_4 : decode cX5_trade 4 = .ok (.iload_n 1, 1) := dq_27 (dq_w dwc_326 4 rfl)
theorem dX5_trade_5 : decode cX5_trade 5 = .ok (.invokevirtual 119, 3) := dq_182 (dq_w dwc_326 5 rfl) (dq_w dwc_326 6 rfl) (dq_w dwc_326 7 rfl) rfl
theorem dX5_trade_8 : decode cX5_trade 8 = .ok (.ifCond .eq 14, 3) := dq_153 (dq_w dwc_326 8 rfl) (dq_w dwc_326 9 rfl) (dq_w dwc_326 10 rfl) (dq_p (n := 14) rfl rfl)
theorem dX5_trade_11 : decode cX5_trade 11 = .ok (.aload_n 0, 1) := dq_42 (dq_w dwc_326 11 rfl)
theorem dX5_trade_12 : decode cX5_trade 12 = .ok (.getfield 12, 3) := dq_180 (dq_w dwc_326 12 rfl) (dq_w dwc_326 13 rfl) (dq_w dwc_326 14 rfl) rfl
theorem dX5_trade_15 : decode cX5_trade 15 = .ok (.iload_n 2, 1) := dq_28 (dq_w dwc_326 15 rfl)
theorem dX5_trade_16 : decode cX5_trade 16 = .ok (.invokevirtual 90, 3) := dq_182 (dq_w dwc_327 0 rfl) (dq_w dwc_327 1 rfl) (dq_w dwc_327 2 rfl) rfl
theorem dX5_trade_19 : decode cX5_trade 19 = .ok (.ifCond .ne 9, 3) := dq_154 (dq_w dwc_327 3 rfl) (dq_w dwc_327 4 rfl) (dq_w dwc_327 5 rfl) (dq_p (n := 9) rfl rfl)
theorem dX5_trade_22 : decode cX5_trade 22 = .ok (.aload_n 0, 1) := dq_42 (dq_w dwc_327 6 rfl)
theorem dX5_trade_23 : decode cX5_trade 23 = .ok (.iconst (-1), 1) := dq_2 (dq_w dwc_327 7 rfl)
theorem dX5_trade_24 : decode cX5_trade 24 = .ok (.invokevirtual 65, 3) := dq_182 (dq_w dwc_327 8 rfl) (dq_w dwc_327 9 rfl) (dq_w dwc_327 10 rfl) rfl
theorem dX5_trade_27 : decode cX5_trade 27 = .ok (.ireturn, 1) := dq_172 (dq_w dwc_327 11 rfl)
theorem dX5_trade_28 : decode cX5_trade 28 = .ok (.aload_n 0, 1) := dq_42 (dq_w dwc_327 12 rfl)
theorem dX5_trade_29 : decode cX5_trade 29 = .ok (.getfield 12, 3) := dq_180 (dq_w dwc_327 13 rfl) (dq_w dwc_327 14 rfl) (dq_w dwc_327 15 rfl) rfl
theorem dX5_trade_32 : decode cX5_trade 32 = .ok (.iload_n 1, 1) := dq_27 (dq_w dwc_328 0 rfl)
theorem dX5_trade_33 : decode cX5_trade 33 = .ok (.iload_n 2, 1) := dq_28 (dq_w dwc_328 1 rfl)
theorem dX5_trade_34 : decode cX5_trade 34 = .ok (.invokevirtual 140, 3) := dq_182 (dq_w dwc_328 2 rfl) (dq_w dwc_328 3 rfl) (dq_w dwc_328 4 rfl) rfl
theorem dX5_trade_37 : decode cX5_trade 37 = .ok (.ifCond .ne 10, 3) := dq_154 (dq_w dwc_328 5 rfl) (dq_w dwc_328 6 rfl) (dq_w dwc_328 7 rfl) (dq_p (n := 10) rfl rfl)
theorem dX5_trade_40 : decode cX5_trade 40 = .ok (.aload_n 0, 1) := dq_42 (dq_w dwc_328 8 rfl)
theorem dX5_trade_41 : decode cX5_trade 41 = .ok (.bipush (-3), 2) := dq_16 (dq_w dwc_328 9 rfl) (dq_w dwc_328 10 rfl) rfl
theorem dX5_trade_43 : decode cX5_trade 43 = .ok (.invokevirtual 65, 3) := dq_182 (dq_w dwc_328 11 rfl) (dq_w dwc_328 12 rfl) (dq_w dwc_328 13 rfl) rfl
theorem dX5_trade_46 : decode cX5_trade 46 = .ok (.ireturn, 1) := dq_172 (dq_w dwc_328 14 rfl)
theorem dX5_trade_47 : decode cX5_trade 47 = .ok (.bipush (-9), 2) := dq_16 (dq_w dwc_328 15 rfl) (dq_w dwc_329 0 rfl) rfl
theorem dX5_trade_49 : decode cX5_trade 49 = .ok (.istore_n 3, 1) := dq_62 (dq_w dwc_329 1 rfl)
theorem dX5_trade_50 : decode cX5_trade 50 = .ok (.aload_n 0, 1) := dq_42 (dq_w dwc_329 2 rfl)
theorem dX5_trade_51 : decode cX5_trade 51 = .ok (.getfield 12, 3) := dq_180 (dq_w dwc_329 3 rfl) (dq_w dwc_329 4 rfl) (dq_w dwc_329 5 rfl) rfl
theorem dX5_trade_54 : decode cX5_trade 54 = .ok (.invokevirtual 247, 3) := dq_182 (dq_w dwc_329 6 rfl) (dq_w dwc_329 7 rfl) (dq_w dwc_329 8 rfl) rfl
theorem dX5_trade_57 : decode cX5_trade 57 = .ok (.istore 4, 2) := dq_54 (dq_w dwc_329 9 rfl) (dq_w dwc_329 10 rfl) rfl
theorem dX5_trade_59 : decode cX5_trade 59 = .ok (.iconst 0, 1) := dq_3 (dq_w dwc_329 11 rfl)
theorem dX5_trade_60 : decode cX5_trade 60 = .ok (.istore 5, 2) := dq_54 (dq_w dwc_329 12 rfl) (dq_w dwc_329 13 rfl) rfl
theorem dX5_trade_62 : decode cX5_trade 62 = .ok (.iload 5, 2) := dq_21 (dq_w dwc_329 14 rfl) (dq_w dwc_329 15 rfl) rfl
theorem dX5_trade_64 : decode cX5_trade 64 = .ok (.aload_n 0, 1) := dq_42 (dq_w dwc_330 0 rfl)
theorem dX5_trade_65 : decode cX5_trade 65 = .ok (.getfield 12, 3) := dq_180 (dq_w dwc_330 1 rfl) (dq_w dwc_330 2 rfl) (dq_w dwc_330 3 rfl) rfl
theorem dX5_trade_68 : decode cX5_trade 68 = .ok (.getfield 158, 3) := dq_180 (dq_w dwc_330 4 rfl) (dq_w dwc_330 5 rfl) (dq_w dwc_330 6 rfl) rfl
theorem dX5_trade_71 : decode cX5_trade 71 = .ok (.if_icmp .ge 89, 3) := dq_162 (dq_w dwc_330 7 rfl) (dq_w dwc_330 8 rfl) (dq_w dwc_330 9 rfl) (dq_p (n := 89) rfl rfl)
theorem dX5_trade_74 : decode cX5_trade 74 = .ok (.aload_n 0, 1) := dq_42 (dq_w dwc_330 10 rfl)
theorem dX5_trade_75 : decode cX5_trade 75 = .ok (.getfield 12, 3) := dq_180 (dq_w dwc_330 11 rfl) (dq_w dwc_330 12 rfl) (dq_w dwc_330 13 rfl) rfl
theorem dX5_trade_78 : decode cX5_trade 78 = .ok (.iload 5, 2) := dq_21 (dq_w dwc_330 14 rfl) (dq_w dwc_330 15 rfl) rfl
theorem dX5_trade_80 : decode cX5_trade 80 = .ok (.iload_n 2, 1) := dq_28 (dq_w dwc_331 0 rfl)
theorem dX5_trade_81 : decode cX5_trade 81 = .ok (.invokevirtual 140, 3) := dq_182 (dq_w dwc_331 1 rfl) (dq_w dwc_331 2 rfl) (dq_w dwc_331 3 rfl) rfl
theorem dX5_trade_84 : decode cX5_trade 84 = .ok (.ifCond .eq 6, 3) := dq_153 (dq_w dwc_331 4 rfl) (dq_w dwc_331 5 rfl) (dq_w dwc_331 6 rfl) (dq_p (n := 6) rfl rfl)
theorem dX5_trade_87 : decode cX5_trade 87 = .ok (.goto 67, 3) := dq_167 (dq_w dwc_331 7 rfl) (dq_w dwc_331 8 rfl) (dq_w dwc_331 9 rfl) (dq_p (n := 67) rfl rfl)
theorem dX5_trade_90 : decode cX5_trade 90 = .ok (.aload_n 0, 1) := dq_42 (dq_w dwc_331 10 rfl)
theorem dX5_trade_91 : decode cX5_trade 91 = .ok (.getfield 16, 3) := dq_180 (dq_w dwc_331 11 rfl) (dq_w dwc_331 12 rfl) (dq_w dwc_331 13 rfl) rfl
theorem dX5_trade_94 : decode cX5_trade 94 = .ok (.aload_n 0, 1) := dq_42 (dq_w dwc_331 14 rfl)
theorem dX5_trade_95 : decode cX5_trade 95 = .ok (.getfield 12, 3) := dq_180 (dq_w dwc_331 15 rfl) (dq_w dwc_332 0 rfl) (dq_w dwc_332 1 rfl) rfl
theorem dX5_trade_98 : decode cX5_trade 98 = .ok (.invokevirtual 76, 3) := dq_182 (dq_w dwc_332 2 rfl) (dq_w dwc_332 3 rfl) (dq_w dwc_332 4 rfl) rfl
theorem dX5_trade_101 : decode cX5_trade 101 = .ok (.aload_n 0, 1) := dq_42 (dq_w dwc_332 5 rfl)
theorem dX5_trade_102 : decode cX5_trade 102 = .ok (.getfield 16, 3) := dq_180 (dq_w dwc_332 6 rfl) (dq_w dwc_332 7 rfl) (dq_w dwc_332 8 rfl) rfl
theorem dX5_trade_105 : decode cX5_trade 105 = .ok (.iload_n 1, 1) := dq_27 (dq_w dwc_332 9 rfl)
theorem dX5_trade_106 : decode cX5_trade 106 = .ok (.iload_n 2, 1) := dq_28 (dq_w dwc_332 10 rfl)
theorem dX5_trade_107 : decode cX5_trade 107 = .ok (.iconst (-1), 1) := dq_2 (dq_w dwc_332 11 rfl)
theorem dX5_trade_108 : decode cX5_trade 108 = .ok (.invokevirtual 176, 3) := dq_182 (dq_w dwc_332 12 rfl) (dq_w dwc_332 13 rfl) (dq_w dwc_332 14 rfl) rfl
theorem dX5_trade_111 : decode cX5_trade 111 = .ok (.aload_n 0, 1) := dq_42 (dq_w dwc_332 15 rfl)
theorem dX5_trade_112 : decode cX5_trade 112 = .ok (.getfield 16, 3) := dq_180 (dq_w dwc_333 0 rfl) (dq_w dwc_333 1 rfl) (dq_w dwc_333 2 rfl) rfl
theorem dX5_trade_115 : decode cX5_trade 115 = .ok (.iload 5, 2) := dq_21 (dq_w dwc_333 3 rfl) (dq_w dwc_333 4 rfl) rfl
theorem dX5_trade_117 : decode cX5_trade 117 = .ok (.iload_n 2, 1) := dq_28 (dq_w dwc_333 5 rfl)
theorem dX5_trade_118 : decode cX5_trade 118 = .ok (.aload_n 0, 1) := dq_42 (dq_w dwc_333 6 rfl)
theorem dX5_trade_119 : decode cX5_trade 119 = .ok (.getfield 12, 3) := dq_180 (dq_w dwc_333 7 rfl) (dq_w dwc_333 8 rfl) (dq_w dwc_333 9 rfl) rfl
theorem dX5_trade_122 : decode cX5_trade 122 = .ok (.iload_n 1, 1) := dq_27 (dq_w dwc_333 10 rfl)
theorem dX5_trade_123 : decode cX5_trade 123 = .ok (.iload_n 2, 1) := dq_28 (dq_w dwc_333 11 rfl)
theorem dX5_trade_124 : decode cX5_trade 124 = .ok (.iconst 0, 1) := dq_3 (dq_w dwc_333 12 rfl)
theorem dX5_trade_125 : decode cX5_trade 125 = .ok (.invokevirtual 144, 3) := dq_182 (dq_w dwc_333 13 rfl) (dq_w dwc_333 14 rfl) (dq_w dwc_333 15 rfl) rfl
theorem dX5_trade_128 : decode cX5_trade 128 = .ok (.invokevirtual 176, 3) := dq_182 (dq_w dwc_334 0 rfl) (dq_w dwc_334 1 rfl) (dq_w dwc_334 2 rfl) rfl
theorem dX5_trade_131 : decode cX5_trade 131 = .ok (.aload_n 0, 1) := dq_42 (dq_w dwc_334 3 rfl)
theorem dX5_trade_132 : decode cX5_trade 132 = .ok (.getfield 16, 3) := dq_180 (dq_w dwc_334 4 rfl) (dq_w dwc_334 5 rfl) (dq_w dwc_334 6 rfl) rfl
theorem dX5_trade_135 : decode cX5_trade 135 = .ok (.invokevirtual 247, 3) := dq_182 (dq_w dwc_334 7 rfl) (dq_w dwc_334 8 rfl) (dq_w dwc_334 9 rfl) rfl
theorem dX5_trade_138 : decode cX5_trade 138 = .ok (.istore 6, 2) := dq_54 (dq_w dwc_334 10 rfl) (dq_w dwc_334 11 rfl) rfl
theorem dX5_trade_140 : decode cX5_trade 140 = .ok (.iload 6, 2) := dq_21 (dq_w dwc_334 12 rfl) (dq_w dwc_334 13 rfl) rfl
theorem dX5_trade_142 : decode cX5_trade 142 = .ok (.iload 4, 2) := dq_21 (dq_w dwc_334 14 rfl) (dq_w dwc_334 15 rfl) rfl
theorem dX5_trade_144 : decode cX5_trade 144 = .ok (.if_icmp .ge 10, 3) := dq_162 (dq_w dwc_335 0 rfl) (dq_w dwc_335 1 rfl) (dq_w dwc_335 2 rfl) (dq_p (n := 10) rfl rfl)
theorem dX5_trade_147 : decode cX5_trade 147 = .ok (.iload 6, 2) := dq_21 (dq_w dwc_335 3 rfl) (dq_w dwc_335 4 rfl) rfl
theorem dX5_trade_149 : decode cX5_trade 149 = .ok (.istore 4, 2) := dq_54 (dq_w dwc_335 5 rfl) (dq_w dwc_335 6 rfl) rfl
theorem dX5_trade_151 : decode cX5_trade 151 = .ok (.iload 5, 2) := dq_21 (dq_w dwc_335 7 rfl) (dq_w dwc_335 8 rfl) rfl
theorem dX5_trade_153 : decode cX5_trade 153 = .ok (.istore_n 3, 1) := dq_62 (dq_w dwc_335 9 rfl)
theorem dX5_trade_154 : decode cX5_trade 154 = .ok (.iinc 5 1, 3) := dq_132 (dq_w dwc_335 10 rfl) (dq_w dwc_335 11 rfl) rfl (dq_w dwc_335 12 rfl) rfl
theorem dX5_trade_157 : decode cX5_trade 157 = .ok (.goto (-95), 3) := dq_167 (dq_w dwc_335 13 rfl) (dq_w dwc_335 14 rfl) (dq_w dwc_335 15 rfl) (dq_n (m := 95) rfl rfl)
theorem dX5_trade_160 : decode cX5_trade 160 = .ok (.iload_n 3, 1) := dq_29 (dq_w dwc_336 0 rfl)
theorem dX5_trade_161 : decode cX5_trade 161 = .ok (.ireturn, 1) := dq_172 (dq_w dwc_336 1 rfl)
theorem dwc_337 : (cX5_whoWent.data.toList.drop 0).take 16 = [42, 180, 0, 12, 27, 182, 0, 90, 154, 0, 9, 42, 2, 182, 0, 65] := by decide +kernel
theorem dwc_338 : (cX5_whoWent.data.toList.drop 16).take 16 = [172, 3, 61, 3, 62, 29, 42, 180, 0, 12, 180, 0, 158, 162, 0, 48] := by decide +kernel
theorem dwc_339 : (cX5_whoWent.data.toList.drop 32).take 16 = [42, 180, 0, 12, 180, 0, 122, 29, 46, 42, 180, 0, 12, 180, 0, 100] := by decide +kernel
theorem dwc_340 : (cX5_whoWent.data.toList.drop 48).take 16 = [27, 46, 160, 0, 21, 42, 180, 0, 12, 29, 27, 182, 0, 140, 153, 0] := by decide +kernel
theorem dwc_341 : (cX5_whoWent.data.toList.drop 64).take 16 = [9, 28, 4, 29, 120, 128, 61, 132, 3, 1, 167, 255, 203, 28, 172] := by decide +kernel
theorem dX5_whoWent_0 : decode cX5_whoWent 0 = .ok (.aload_n 0, 1) := dq_42 (dq_w dwc_337 0 rfl)
theorem dX5_whoWent_1 : decode cX5_whoWent 1 = .ok (.getfield 12, 3) := dq_180 (dq_w dwc_337 1 rfl) (dq_w dwc_337 2 rfl) (dq_w dwc_337 3 rfl) rfl
theorem dX5_whoWent_4 : decode cX5_whoWent 4 = .ok (.iload_n 1, 1) := dq_27 (dq_w dwc_337 4 rfl)
theorem dX5_whoWent_5 : decode cX5_whoWent 5 = .ok (.invokevirtual 90, 3) := dq_182 (dq_w dwc_337 5 rfl) (dq_w dwc_337 6 rfl) (dq_w dwc_337 7 rfl) rfl
theorem dX5_whoWent_8 : decode cX5_whoWent 8 = .ok (.ifCond .ne 9, 3) := dq_154 (dq_w dwc_337 8 rfl) (dq_w dwc_337 9 rfl) (dq_w dwc_337 10 rfl) (dq_p (n := 9) rfl rfl)
theorem dX5_whoWent_11 : decode cX5_whoWent 11 = .ok (.aload_n 0, 1) := dq_42 (dq_w dwc_337 11 rfl)
theorem dX5_whoWent_12 : decode cX5_whoWent 12 = .ok (.iconst (-1), 1) := dq_2 (dq_w dwc_337 12 rfl)
theorem dX5_whoWent_13 : decode cX5_whoWent 13 = .ok (.invokevirtual 65, 3) := dq_182 (dq_w dwc_337 13 rfl) (dq_w dwc_337 14 rfl) (dq_w dwc_337 15 rfl) rfl
theorem dX5_whoWent_16 : decode cX5_whoWent 16 = .ok (.ireturn, 1) := dq_172 (dq_w dwc_338 0 rfl)
theorem dX5_whoWent_17 : decode cX5_whoWent 17 = .ok (.iconst 0, 1) := dq_3 (dq_w dwc_338 1 rfl)
theorem dX5_whoWent_18 : decode cX5_whoWent 18 = .ok (.istore_n 2, 1) := dq_61 (dq_w dwc_338 2 rfl)
theorem dX5_whoWent_19 : decode cX5_whoWent 19 = .ok (.iconst 0, 1) := dq_3 (dq_w dwc_338 3 rfl)
theorem dX5_whoWent_20 : decode cX5_whoWent 20 = .ok (.istore_n 3, 1) := dq_62 (dq_w dwc_338 4 rfl)
theorem dX5_whoWent_21 : decode cX5_whoWent 21 = .ok (.iload_n 3, 1) := dq_29 (dq_w dwc_338 5 rfl)
theorem dX5_whoWent_22 : decode cX5_whoWent 22 = .ok (.aload_n 0, 1) := dq_42 (dq_w dwc_338 6 rfl)
theorem dX5_whoWent_23 : decode cX5_whoWent 23 = .ok (.getfield 12, 3) := dq_180 (dq_w dwc_338 7 rfl) (dq_w dwc_338 8 rfl) (dq_w dwc_338 9 rfl) rfl
theorem dX5_whoWent_26 : decode cX5_whoWent 26 = .ok (.getfield 158, 3) := dq_180 (dq_w dwc_338 10 rfl) (dq_w dwc_338 11 rfl) (dq_w dwc_338 12 rfl) rfl
theorem dX5_whoWent_29 : decode cX5_whoWent 29 = .ok (.if_icmp .ge 48, 3) := dq_162 (dq_w dwc_338 13 rfl) (dq_w dwc_338 14 rfl) (dq_w dwc_338 15 rfl) (dq_p (n := 48) rfl rfl)
theorem dX5_whoWent_32 : decode cX5_whoWent 32 = .ok (.aload_n 0, 1) := dq_42 (dq_w dwc_339 0 rfl)
theorem dX5_whoWent_33 : decode cX5_whoWent 33 = .ok (.getfield 12, 3) := dq_180 (dq_w dwc_339 1 rfl) (dq_w dwc_339 2 rfl) (dq_w dwc_339 3 rfl) rfl
theorem dX5_whoWent_36 : decode cX5_whoWent 36 = .ok (.getfield 122, 3) := dq_180 (dq_w dwc_339 4 rfl) (dq_w dwc_339 5 rfl) (dq_w dwc_339 6 rfl) rfl
theorem dX5_whoWent_39 : decode cX5_whoWent 39 = .ok (.iload_n 3, 1) := dq_29 (dq_w dwc_339 7 rfl)
theorem dX5_whoWent_40 : decode cX5_whoWent 40 = .ok (.iaload, 1) := dq_46 (dq_w dwc_339 8 rfl)
theorem dX5_whoWent_41 : decode cX5_whoWent 41 = .ok (.aload_n 0, 1) := dq_42 (dq_w dwc_339 9 rfl)
theorem dX5_whoWent_42 : decode cX5_whoWent 42 = .ok (.getfield 12, 3) := dq_180 (dq_w dwc_339 10 rfl) (dq_w dwc_339 11 rfl) (dq_w dwc_339 12 rfl) rfl
theorem dX5_whoWent_45 : decode cX5_whoWent 45 = .ok (.getfield 100, 3) := dq_180 (dq_w dwc_339 13 rfl) (dq_w dwc_339 14 rfl) (dq_w dwc_339 15 rfl) rfl
theorem dX5_whoWent_48 : decode cX5_whoWent 48 = .ok (.iload_n 1, 1) := dq_27 (dq_w dwc_340 0 rfl)
theorem dX5_whoWent_49 : decode cX5_whoWent 49 = .ok (.iaload, 1) := dq_46 (dq_w dwc_340 1 rfl)
theorem dX5_whoWent_50 : decode cX5_whoWent 50 = .ok (.if_icmp .ne 21, 3) := dq_160 (dq_w dwc_340 2 rfl) (dq_w dwc_340 3 rfl) (dq_w dwc_340 4 rfl) (dq_p (n := 21) rfl rfl)
theorem dX5_whoWent_53 : decode cX5_whoWent 53 = .ok (.aload_n 0, 1) := dq_42 (dq_w dwc_340 5 rfl)
theorem dX5_whoWent_54 : decode cX5_whoWent 54 = .ok (.getfield 12, 3) := dq_180 (dq_w dwc_340 6 rfl) (dq_w dwc_340 7 rfl) (dq_w dwc_340 8 rfl) rfl
theorem dX5_whoWent_57 : decode cX5_whoWent 57 = .ok (.iload_n 3, 1) := dq_29 (dq_w dwc_340 9 rfl)
theorem dX5_whoWent_58 : decode cX5_whoWent 58 = .ok (.iload_n 1, 1) := dq_27 (dq_w dwc_340 10 rfl)
theorem dX5_whoWent_59 : decode cX5_whoWent 59 = .ok (.invokevirtual 140, 3) := dq_182 (dq_w dwc_340 11 rfl) (dq_w dwc_340 12 rfl) (dq_w dwc_340 13 rfl) rfl
theorem dX5_whoWent_62 : decode cX5_whoWent 62 = .ok (.ifCond .eq 9, 3) := dq_153 (dq_w dwc_340 14 rfl) (dq_w dwc_340 15 rfl) (dq_w dwc_341 0 rfl) (dq_p (n := 9) rfl rfl)
theorem dX5_whoWent_65 : decode cX5_whoWent 65 = .ok (.iload_n 2, 1) := dq_28 (dq_w dwc_341 1 rfl)
theorem dX5_whoWent_66 : decode cX5_whoWent 66 = .ok (.iconst 1, 1) := dq_4 (dq_w dwc_341 2 rfl)
theorem dX5_whoWent_67 : decode cX5_whoWent 67 = .ok (.iload_n 3, 1) := dq_29 (dq_w dwc_341 3 rfl)
theorem dX5_whoWent_68 : decode cX5_whoWent 68 = .ok (.ishl, 1) := dq_120 (dq_w dwc_341 4 rfl)
theorem dX5_whoWent_69 : decode cX5_whoWent 69 = .ok (.ior, 1) := dq_128 (dq_w dwc_341 5 rfl)
theorem dX5_whoWent_70 : decode cX5_whoWent 70 = .ok (.istore_n 2, 1) := dq_61 (dq_w dwc_341 6 rfl)
theorem dX5_whoWent_71 : decode cX5_whoWent 71 = .ok (.iinc 3 1, 3) := dq_132 (dq_w dwc_341 7 rfl) (dq_w dwc_341 8 rfl) rfl (dq_w dwc_341 9 rfl) rfl
theorem dX5_whoWent_74 : decode cX5_whoWent 74 = .ok (.goto (-53), 3) := dq_167 (dq_w dwc_341 10 rfl) (dq_w dwc_341 11 rfl) (dq_w dwc_341 12 rfl) (dq_n (m := 53) rfl rfl)
theorem dX5_whoWent_77 : decode cX5_whoWent 77 = .ok (.iload_n 2, 1) := dq_28 (dq_w dwc_341 13 rfl)
theorem dX5_whoWent_78 : decode cX5_whoWent 78 = .ok (.ireturn, 1) := dq_172 (dq_w dwc_341 14 rfl)
theorem dwc_342 : (cX5_spread.data.toList.drop 0).take 16 = [27, 153, 0, 15, 27, 4, 159, 0, 10, 42, 16, 254, 182, 0, 65, 172] := by decide +kernel
theorem dwc_343 : (cX5_spread.data.toList.drop 16).take 16 = [27, 154, 0, 10, 42, 182, 0, 250, 167, 0, 7, 42, 182, 0, 253, 172] := by decide +kernel
theorem dX5_spread_0 : decode cX5_spread 0 = .ok (.iload_n 1, 1) := dq_27 (dq_w dwc_342 0 rfl)
theorem dX5_spread_1 : decode cX5_spread 1 = .ok (.ifCond .eq 15, 3) := dq_153 (dq_w dwc_342 1 rfl) (dq_w dwc_342 2 rfl) (dq_w dwc_342 3 rfl) (dq_p (n := 15) rfl rfl)
theorem dX5_spread_4 : decode cX5_spread 4 = .ok (.iload_n 1, 1) := dq_27 (dq_w dwc_342 4 rfl)
theorem dX5_spread_5 : decode cX5_spread 5 = .ok (.iconst 1, 1) := dq_4 (dq_w dwc_342 5 rfl)
theorem dX5_spread_6 : decode cX5_spread 6 = .ok (.if_icmp .eq 10, 3) := dq_159 (dq_w dwc_342 6 rfl) (dq_w dwc_342 7 rfl) (dq_w dwc_342 8 rfl) (dq_p (n := 10) rfl rfl)
theorem dX5_spread_9 : decode cX5_spread 9 = .ok (.aload_n 0, 1) := dq_42 (dq_w dwc_342 9 rfl)
theorem dX5_spread_10 : decode cX5_spread 10 = .ok (.bipush (-2), 2) := dq_16 (dq_w dwc_342 10 rfl) (dq_w dwc_342 11 rfl) rfl
theorem dX5_spread_12 : decode cX5_spread 12 = .ok (.invokevirtual 65, 3) := dq_182 (dq_w dwc_342 12 rfl) (dq_w dwc_342 13 rfl) (dq_w dwc_342 14 rfl) rfl
theorem dX5_spread_15 : decode cX5_spread 15 = .ok (.ireturn, 1) := dq_172 (dq_w dwc_342 15 rfl)
theorem dX5_spread_16 : decode cX5_spread 16 = .ok (.iload_n 1, 1) := dq_27 (dq_w dwc_343 0 rfl)
theorem dX5_spread_17 : decode cX5_spread 17 = .ok (.ifCond .ne 10, 3) := dq_154 (dq_w dwc_343 1 rfl) (dq_w dwc_343 2 rfl) (dq_w dwc_343 3 rfl) (dq_p (n := 10) rfl rfl)
theorem dX5_spread_20 : decode cX5_spread 20 = .ok (.aload_n 0, 1) := dq_42 (dq_w dwc_343 4 rfl)
theorem dX5_spread_21 : decode cX5_spread 21 = .ok (.invokevirtual 250, 3) := dq_182 (dq_w dwc_343 5 rfl) (dq_w dwc_343 6 rfl) (dq_w dwc_343 7 rfl) rfl
theorem dX5_spread_24 : decode cX5_spread 24 = .ok (.goto 7, 3) := dq_167 (dq_w dwc_343 8 rfl) (dq_w dwc_343 9 rfl) (dq_w dwc_343 10 rfl) (dq_p (n := 7) rfl rfl)
theorem dX5_spread_27 : decode cX5_spread 27 = .ok (.aload_n 0, 1) := dq_42 (dq_w dwc_343 11 rfl)
theorem dX5_spread_28 : decode cX5_spread 28 = .ok (.invokevirtual 253, 3) := dq_182 (dq_w dwc_343 12 rfl) (dq_w dwc_343 13 rfl) (dq_w dwc_343 14 rfl) rfl
theorem dX5_spread_31 : decode cX5_spread 31 = .ok (.ireturn, 1) := dq_172 (dq_w dwc_343 15 rfl)
theorem dwc_344 : (cX5_whatKind.data.toList.drop 0).take 16 = [42, 180, 0, 12, 27, 182, 0, 119, 153, 0, 14, 42, 180, 0, 12, 28] := by decide +kernel
theorem dwc_345 : (cX5_whatKind.data.toList.drop 16).take 16 = [182, 0, 90, 154, 0, 9, 42, 2, 182, 0, 65, 172, 29, 153, 0, 15] := by decide +kernel
theorem dwc_346 : (cX5_whatKind.data.toList.drop 32).take 16 = [29, 4, 159, 0, 10, 42, 16, 254, 182, 0, 65, 172, 29, 154, 0, 12] := by decide +kernel
theorem dwc_347 : (cX5_whatKind.data.toList.drop 48).take 16 = [42, 27, 28, 182, 1, 0, 167, 0, 9, 42, 27, 28, 182, 1, 3, 172] := by decide +kernel
theorem dX5_whatKind_0 : decode cX5_whatKind 0 = .ok (.aload_n 0, 1) := dq_42 (dq_w dwc_344 0 rfl)
theorem dX5_whatKind_1 : decode cX5_whatKind 1 = .ok (.getfield 12, 3) := dq_180 (dq_w dwc_344 1 rfl) (dq_w dwc_344 2 rfl) (dq_w dwc_344 3 rfl) rfl
theorem dX5_whatKind_4 : decode cX5_whatKind 4 = .ok (.iload_n 1, 1) := dq_27 (dq_w dwc_344 4 rfl)
theorem dX5_whatKind_5 : decode cX5_whatKind 5 = .ok (.invokevirtual 119, 3) := dq_182 (dq_w dwc_344 5 rfl) (dq_w dwc_344 6 rfl) (dq_w dwc_344 7 rfl) rfl
theorem dX5_whatKind_8 : decode cX5_whatKind 8 = .ok (.ifCond .eq 14, 3) := dq_153 (dq_w dwc_344 8 rfl) (dq_w dwc_344 9 rfl) (dq_w dwc_344 10 rfl) (dq_p (n := 14) rfl rfl)
theorem dX5_whatKind_11 : decode cX5_whatKind 11 = .ok (.aload_n 0, 1) := dq_42 (dq_w dwc_344 11 rfl)
theorem dX5_whatKind_12 : decode cX5_whatKind 12 = .ok (.getfield 12, 3) := dq_180 (dq_w dwc_344 12 rfl) (dq_w dwc_344 13 rfl) (dq_w dwc_344 14 rfl) rfl
theorem dX5_whatKind_15 : decode cX5_whatKind 15 = .ok (.iload_n 2, 1) := dq_28 (dq_w dwc_344 15 rfl)
theorem dX5_whatKind_16 : decode cX5_whatKind 16 = .ok (.invokevirtual 90, 3) := dq_182 (dq_w dwc_345 0 rfl) (dq_w dwc_345 1 rfl) (dq_w dwc_345 2 rfl) rfl
theorem dX5_whatKind_19 : decode cX5_whatKind 19 = .ok (.ifCond .ne 9, 3) := dq_154 (dq_w dwc_345 3 rfl) (dq_w dwc_345 4 rfl) (dq_w dwc_345 5 rfl) (dq_p (n := 9) rfl rfl)
theorem dX5_whatKind_22 : decode cX5_whatKind 22 = .ok (.aload_n 0, 1) := dq_42 (dq_w dwc_345 6 rfl)
theorem dX5_whatKind_23 : decode cX5_whatKind 23 = .ok (.iconst (-1), 1) := dq_2 (dq_w dwc_345 7 rfl)
theorem dX5_whatKind_24 : decode cX5_whatKind 24 = .ok (.invokevirtual 65, 3) := dq_182 (dq_w dwc_345 8 rfl) (dq_w dwc_345 9 rfl) (dq_w dwc_345 10 rfl) rfl
theorem dX5_whatKind_27 : decode cX5_whatKind 27 = .ok (.ireturn, 1) := dq_172 (dq_w dwc_345 11 rfl)
theorem dX5_whatKind_28 : decode cX5_whatKind 28 = .ok (.iload_n 3, 1) := dq_29 (dq_w dwc_345 12 rfl)
theorem dX5_whatKind_29 : decode cX5_whatKind 29 = .ok (.ifCond .eq 15, 3) := dq_153 (dq_w dwc_345 13 rfl) (dq_w dwc_345 14 rfl) (dq_w dwc_345 15 rfl) (dq_p (n := 15) rfl rfl)
theorem dX5_whatKind_32 : decode cX5_whatKind 32 = .ok (.iload_n 3, 1) := dq_29 (dq_w dwc_346 0 rfl)
theorem dX5_whatKind_33 : decode cX5_whatKind 33 = .ok (.iconst 1, 1) := dq_4 (dq_w dwc_346 1 rfl)
theorem dX5_whatKind_34 : decode cX5_whatKind 34 = .ok (.if_icmp .eq 10, 3) := dq_159 (dq_w dwc_346 2 rfl) (dq_w dwc_346 3 rfl) (dq_w dwc_346 4 rfl) (dq_p (n := 10) rfl rfl)
theorem dX5_whatKind_37 : decode cX5_whatKind 37 = .ok (.aload_n 0, 1) := dq_42 (dq_w dwc_346 5 rfl)
theorem dX5_whatKind_38 : decode cX5_whatKind 38 = .ok (.bipush (-2), 2) := dq_16 (dq_w dwc_346 6 rfl) (dq_w dwc_346 7 rfl) rfl
theorem dX5_whatKind_40 : decode cX5_whatKind 40 = .ok (.invokevirtual 65, 3) := dq_182 (dq_w dwc_346 8 rfl) (dq_w dwc_346 9 rfl) (dq_w dwc_346 10 rfl) rfl
theorem dX5_whatKind_43 : decode cX5_whatKind 43 = .ok (.ireturn, 1) := dq_172 (dq_w dwc_346 11 rfl)
theorem dX5_whatKind_44 : decode cX5_whatKind 44 = .ok (.iload_n 3, 1) := dq_29 (dq_w dwc_346 12 rfl)
theorem dX5_whatKind_45 : decode cX5_whatKind 45 = .ok (.ifCond .ne 12, 3) := dq_154 (dq_w dwc_346 13 rfl) (dq_w dwc_346 14 rfl) (dq_w dwc_346 15 rfl) (dq_p (n := 12) rfl rfl)
theorem dX5_whatKind_48 : decode cX5_whatKind 48 = .ok (.aload_n 0, 1) := dq_42 (dq_w dwc_347 0 rfl)
theorem dX5_whatKind_49 : decode cX5_whatKind 49 = .ok (.iload_n 1, 1) := dq_27 (dq_w dwc_347 1 rfl)
theorem dX5_whatKind_50 : decode cX5_whatKind 50 = .ok (.iload_n 2, 1) := dq_28 (dq_w dwc_347 2 rfl)
theorem dX5_whatKind_51 : decode cX5_whatKind 51 = .ok (.invokevirtual 256, 3) := dq_182 (dq_w dwc_347 3 rfl) (dq_w dwc_347 4 rfl) (dq_w dwc_347 5 rfl) rfl
theorem dX5_whatKind_54 : decode cX5_whatKind 54 = .ok (.goto 9, 3) := dq_167 (dq_w dwc_347 6 rfl) (dq_w dwc_347 7 rfl) (dq_w dwc_347 8 rfl) (dq_p (n := 9) rfl rfl)
theorem dX5_whatKind_57 : decode cX5_whatKind 57 = .ok (.aload_n 0, 1) := dq_42 (dq_w dwc_347 9 rfl)
theorem dX5_whatKind_58 : decode cX5_whatKind 58 = .ok (.iload_n 1, 1) := dq_27 (dq_w dwc_347 10 rfl)
theorem dX5_whatKind_59 : decode cX5_whatKind 59 = .ok (.iload_n 2, 1) := dq_28 (dq_w dwc_347 11 rfl)
theorem dX5_whatKind_60 : decode cX5_whatKind 60 = .ok (.invokevirtual 259, 3) := dq_182 (dq_w dwc_347 12 rfl) (dq_w dwc_347 13 rfl) (dq_w dwc_347 14 rfl) rfl
theorem dX5_whatKind_63 : decode cX5_whatKind 63 = .ok (.ireturn, 1) := dq_172 (dq_w dwc_347 15 rfl)
theorem dwc_348 : (cX5_two.data.toList.drop 0).take 16 = [42, 180, 0, 12, 27, 182, 0, 90, 153, 0, 19, 42, 180, 0, 12, 28] := by decide +kernel
theorem dwc_349 : (cX5_two.data.toList.drop 16).take 16 = [182, 0, 90, 153, 0, 8, 27, 28, 160, 0, 9, 42, 2, 182, 0, 65] := by decide +kernel
theorem dwc_350 : (cX5_two.data.toList.drop 32).take 16 = [172, 29, 156, 0, 10, 42, 16, 252, 182, 0, 65, 172, 29, 16, 60, 164] := by decide +kernel
theorem dwc_351 : (cX5_two.data.toList.drop 48).take 16 = [0, 10, 42, 16, 250, 182, 0, 65, 172, 16, 10, 42, 27, 29, 182, 1] := by decide +kernel
theorem dwc_352 : (cX5_two.data.toList.drop 64).take 16 = [6, 104, 42, 28, 29, 182, 1, 6, 96, 172] := by decide +kernel
theorem dX5_two_0 : decode cX5_two 0 = .ok (.aload_n 0, 1) := dq_42 (dq_w dwc_348 0 rfl)
theorem dX5_two_1 : decode cX5_two 1 = .ok (.getfield 12, 3) := dq_180 (dq_w dwc_348 1 rfl) (dq_w dwc_348 2 rfl) (dq_w dwc_348 3 rfl) rfl
theorem dX5_two_4 : decode cX5_two 4 = .ok (.iload_n 1, 1) := dq_27 (dq_w dwc_348 4 rfl)
theorem dX5_two_5 : decode cX5_two 5 = .ok (.invokevirtual 90, 3) := dq_182 (dq_w dwc_348 5 rfl) (dq_w dwc_348 6 rfl) (dq_w dwc_348 7 rfl) rfl
theorem dX5_two_8 : decode cX5_two 8 = .ok (.ifCond .eq 19, 3) := dq_153 (dq_w dwc_348 8 rfl) (dq_w dwc_348 9 rfl) (dq_w dwc_348 10 rfl) (dq_p (n := 19) rfl rfl)
theorem dX5_two_11 : decode cX5_two 11 = .ok (.aload_n 0, 1) := dq_42 (dq_w dwc_348 11 rfl)
theorem dX5_two_12 : decode cX5_two 12 = .ok (.getfield 12, 3) := dq_180 (dq_w dwc_348 12 rfl) (dq_w dwc_348 13 rfl) (dq_w dwc_348 14 rfl) rfl
theorem dX5_two_15 : decode cX5_two 15 = .ok (.iload_n 2, 1) := dq_28 (dq_w dwc_348 15 rfl)
theorem dX5_two_16 : decode cX5_two 16 = .ok (.invokevirtual 90, 3) := dq_182 (dq_w dwc_349 0 rfl) (dq_w dwc_349 1 rfl) (dq_w dwc_349 2 rfl) rfl
theorem dX5_two_19 : decode cX5_two 19 = .ok (.ifCond .eq 8, 3) := dq_153 (dq_w dwc_349 3 rfl) (dq_w dwc_349 4 rfl) (dq_w dwc_349 5 rfl) (dq_p (n := 8) rfl rfl)
theorem dX5_two_22 : decode cX5_two 22 = .ok (.iload_n 1, 1) := dq_27 (dq_w dwc_349 6 rfl)
theorem dX5_two_23 : decode cX5_two 23 = .ok (.iload_n 2, 1) := dq_28 (dq_w dwc_349 7 rfl)
theorem dX5_two_24 : decode cX5_two 24 = .ok (.if_icmp .ne 9, 3) := dq_160 (dq_w dwc_349 8 rfl) (dq_w dwc_349 9 rfl) (dq_w dwc_349 10 rfl) (dq_p (n := 9) rfl rfl)
theorem dX5_two_27 : decode cX5_two 27 = .ok (.aload_n 0, 1) := dq_42 (dq_w dwc_349 11 rfl)
theorem dX5_two_28 : decode cX5_two 28 = .ok (.iconst (-1), 1) := dq_2 (dq_w dwc_349 12 rfl)
theorem dX5_two_29 : decode cX5_two 29 = .ok (.invokevirtual 65, 3) := dq_182 (dq_w dwc_349 13 rfl) (dq_w dwc_349 14 rfl) (dq_w dwc_349 15 rfl) rfl
theorem dX5_two_32 : decode cX5_two 32 = .ok (.ireturn, 1) := dq_172 (dq_w dwc_350 0 rfl)
theorem dX5_two_33 : decode cX5_two 33 = .ok (.iload_n 3, 1) := dq_29 (dq_w dwc_350 1 rfl)
theorem dX5_two_34 : decode cX5_two 34 = .ok (.ifCond .ge 10, 3) := dq_156 (dq_w dwc_350 2 rfl) (dq_w dwc_350 3 rfl) (dq_w dwc_350 4 rfl) (dq_p (n := 10) rfl rfl)
theorem dX5_two_37 : decode cX5_two 37 = .ok (.aload_n 0, 1) := dq_42 (dq_w dwc_350 5 rfl)
theorem dX5_two_38 : decode cX5_two 38 = .ok (.bipush (-4), 2) := dq_16 (dq_w dwc_350 6 rfl) (dq_w dwc_350 7 rfl) rfl
theorem dX5_two_40 : decode cX5_two 40 = .ok (.invokevirtual 65, 3) := dq_182 (dq_w dwc_350 8 rfl) (dq_w dwc_350 9 rfl) (dq_w dwc_350 10 rfl) rfl
theorem dX5_two_43 : decode cX5_two 43 = .ok (.ireturn, 1) := dq_172 (dq_w dwc_350 11 rfl)
theorem dX5_two_44 : decode cX5_two 44 = .ok (.iload_n 3, 1) := dq_29 (dq_w dwc_350 12 rfl)
theorem dX5_two_45 : decode cX5_two 45 = .ok (.bipush 60, 2) := dq_16 (dq_w dwc_350 13 rfl) (dq_w dwc_350 14 rfl) rfl
theorem dX5_two_47 : decode cX5_two 47 = .ok (.if_icmp .le 10, 3) := dq_164 (dq_w dwc_350 15 rfl) (dq_w dwc_351 0 rfl) (dq_w dwc_351 1 rfl) (dq_p (n := 10) rfl rfl)
theorem dX5_two_50 : decode cX5_two 50 = .ok (.aload_n 0, 1) := dq_42 (dq_w dwc_351 2 rfl)
theorem dX5_two_51 : decode cX5_two 51 = .ok (.bipush (-6), 2) := dq_16 (dq_w dwc_351 3 rfl) (dq_w dwc_351 4 rfl) rfl
theorem dX5_two_53 : decode cX5_two 53 = .ok (.invokevirtual 65, 3) := dq_182 (dq_w dwc_351 5 rfl) (dq_w dwc_351 6 rfl) (dq_w dwc_351 7 rfl) rfl
theorem dX5_two_56 : decode cX5_two 56 = .ok (.ireturn, 1) := dq_172 (dq_w dwc_351 8 rfl)
theorem dX5_two_57 : decode cX5_two 57 = .ok (.bipush 10, 2) := dq_16 (dq_w dwc_351 9 rfl) (dq_w dwc_351 10 rfl) rfl
theorem dX5_two_59 : decode cX5_two 59 = .ok (.aload_n 0, 1) := dq_42 (dq_w dwc_351 11 rfl)
theorem dX5_two_60 : decode cX5_two 60 = .ok (.iload_n 1, 1) := dq_27 (dq_w dwc_351 12 rfl)
theorem dX5_two_61 : decode cX5_two 61 = .ok (.iload_n 3, 1) := dq_29 (dq_w dwc_351 13 rfl)
theorem dX5_two_62 : decode cX5_two 62 = .ok (.invokevirtual 262, 3) := dq_182 (dq_w dwc_351 14 rfl) (dq_w dwc_351 15 rfl) (dq_w dwc_352 0 rfl) rfl
theorem dX5_two_65 : decode cX5_two 65 = .ok (.imul, 1) := dq_104 (dq_w dwc_352 1 rfl)
theorem dX5_two_66 : decode cX5_two 66 = .ok (.aload_n 0, 1) := dq_42 (dq_w dwc_352 2 rfl)
theorem dX5_two_67 : decode cX5_two 67 = .ok (.iload_n 2, 1) := dq_28 (dq_w dwc_352 3 rfl)
theorem dX5_two_68 : decode cX5_two 68 = .ok (.iload_n 3, 1) := dq_29 (dq_w dwc_352 4 rfl)
theorem dX5_two_69 : decode cX5_two 69 = .ok (.invokevirtual 262, 3) := dq_182 (dq_w dwc_352 5 rfl) (dq_w dwc_352 6 rfl) (dq_w dwc_352 7 rfl) rfl
theorem dX5_two_72 : decode cX5_two 72 = .ok (.iadd, 1) := dq_96 (dq_w dwc_352 8 rfl)
theorem dX5_two_73 : decode cX5_two 73 = .ok (.ireturn, 1) := dq_172 (dq_w dwc_352 9 rfl)
theorem dwc_353 : (cX5_mist.data.toList.drop 0).take 16 = [42, 180, 0, 12, 27, 182, 0, 119, 153, 0, 14, 42, 180, 0, 12, 28] := by decide +kernel
theorem dwc_354 : (cX5_mist.data.toList.drop 16).take 16 = [182, 0, 90, 154, 0, 9, 42, 2, 182, 1, 9, 173, 29, 155, 0, 9] := by decide +kernel
theorem dwc_355 : (cX5_mist.data.toList.drop 32).take 16 = [21, 4, 5, 162, 0, 10, 42, 16, 252, 182, 1, 9, 173, 29, 16, 7] := by decide +kernel
theorem dwc_356 : (cX5_mist.data.toList.drop 48).take 16 = [163, 0, 10, 21, 4, 16, 20, 164, 0, 10, 42, 16, 250, 182, 1, 9] := by decide +kernel
theorem dwc_357 : (cX5_mist.data.toList.drop 64).take 16 = [173, 21, 5, 153, 0, 16, 21, 5, 4, 159, 0, 10, 42, 16, 254, 182] := by decide +kernel
theorem dwc_358 : (cX5_mist.data.toList.drop 80).take 16 = [1, 9, 173, 42, 180, 0, 12, 27, 28, 182, 0, 140, 153, 0, 5, 10] := by decide +kernel
theorem dwc_359 : (cX5_mist.data.toList.drop 96).take 16 = [173, 42, 180, 0, 12, 27, 28, 29, 182, 1, 13, 54, 6, 10, 55, 7] := by decide +kernel
theorem dwc_360 : (cX5_mist.data.toList.drop 112).take 16 = [3, 54, 9, 21, 9, 21, 6, 162, 0, 17, 22, 7, 21, 4, 133, 105] := by decide +kernel
theorem dwc_361 : (cX5_mist.data.toList.drop 128).take 16 = [55, 7, 132, 9, 1, 167, 255, 238, 21, 5, 154, 0, 10, 22, 7, 10] := by decide +kernel
theorem dwc_362 : (cX5_mist.data.toList.drop 144).take 16 = [101, 167, 0, 5, 22, 7, 173] := by decide +kernel
theorem dX5_mist_0 : decode cX5_mist 0 = .ok (.aload_n 0, 1) := dq_42 (dq_w dwc_353 0 rfl)
theorem dX5_mist_1 : decode cX5_mist 1 = .ok (.getfield 12, 3) := dq_180 (dq_w dwc_353 1 rfl) (dq_w dwc_353 2 rfl) (dq_w dwc_353 3 rfl) rfl
theorem dX5_mist_4 : decode cX5_mist 4 = .ok (.iload_n 1, 1) := dq_27 (dq_w dwc_353 4 rfl)
theorem dX5_mist_5 : decode cX5_mist 5 = .ok (.invokevirtual 119, 3) := dq_182 (dq_w dwc_353 5 rfl) (dq_w dwc_353 6 rfl) (dq_w dwc_353 7 rfl) rfl
theorem dX5_mist_8 : decode cX5_mist 8 = .ok (.ifCond .eq 14, 3) := dq_153 (dq_w dwc_353 8 rfl) (dq_w dwc_353 9 rfl) (dq_w dwc_353 10 rfl) (dq_p (n := 14) rfl rfl)
theorem dX5_mist_11 : decode cX5_mist 11 = .ok (.aload_n 0, 1) := dq_42 (dq_w dwc_353 11 rfl)
theorem dX5_mist_12 : decode cX5_mist 12 = .ok (.getfield 12, 3) := dq_180 (dq_w dwc_353 12 rfl) (dq_w dwc_353 13 rfl) (dq_w dwc_353 14 rfl) rfl
theorem dX5_mist_15 : decode cX5_mist 15 = .ok (.iload_n 2, 1) := dq_28 (dq_w dwc_353 15 rfl)
theorem dX5_mist_16 : decode cX5_mist 16 = .ok (.invokevirtual 90, 3) := dq_182 (dq_w dwc_354 0 rfl) (dq_w dwc_354 1 rfl) (dq_w dwc_354 2 rfl) rfl
theorem dX5_mist_19 : decode cX5_mist 19 = .ok (.ifCond .ne 9, 3) := dq_154 (dq_w dwc_354 3 rfl) (dq_w dwc_354 4 rfl) (dq_w dwc_354 5 rfl) (dq_p (n := 9) rfl rfl)
theorem dX5_mist_22 : decode cX5_mist 22 = .ok (.aload_n 0, 1) := dq_42 (dq_w dwc_354 6 rfl)
theorem dX5_mist_23 : decode cX5_mist 23 = .ok (.iconst (-1), 1) := dq_2 (dq_w dwc_354 7 rfl)
theorem dX5_mist_24 : decode cX5_mist 24 = .ok (.invokevirtual 265, 3) := dq_182 (dq_w dwc_354 8 rfl) (dq_w dwc_354 9 rfl) (dq_w dwc_354 10 rfl) rfl
theorem dX5_mist_27 : decode cX5_mist 27 = .ok (.lreturn, 1) := dq_173 (dq_w dwc_354 11 rfl)
theorem dX5_mist_28 : decode cX5_mist 28 = .ok (.iload_n 3, 1) := dq_29 (dq_w dwc_354 12 rfl)
theorem dX5_mist_29 : decode cX5_mist 29 = .ok (.ifCond .lt 9, 3) := dq_155 (dq_w dwc_354 13 rfl) (dq_w dwc_354 14 rfl) (dq_w dwc_354 15 rfl) (dq_p (n := 9) rfl rfl)
theorem dX5_mist_32 : decode cX5_mist 32 = .ok (.iload 4, 2) := dq_21 (dq_w dwc_355 0 rfl) (dq_w dwc_355 1 rfl) rfl
theorem dX5_mist_34 : decode cX5_mist 34 = .ok (.iconst 2, 1) := dq_5 (dq_w dwc_355 2 rfl)
theorem dX5_mist_35 : decode cX5_mist 35 = .ok (.if_icmp .ge 10, 3) := dq_162 (dq_w dwc_355 3 rfl) (dq_w dwc_355 4 rfl) (dq_w dwc_355 5 rfl) (dq_p (n := 10) rfl rfl)
theorem dX5_mist_38 : decode cX5_mist 38 = .ok (.aload_n 0, 1) := dq_42 (dq_w dwc_355 6 rfl)
theorem dX5_mist_39 : decode cX5_mist 39 = .ok (.bipush (-4), 2) := dq_16 (dq_w dwc_355 7 rfl) (dq_w dwc_355 8 rfl) rfl
theorem dX5_mist_41 : decode cX5_mist 41 = .ok (.invokevirtual 265, 3) := dq_182 (dq_w dwc_355 9 rfl) (dq_w dwc_355 10 rfl) (dq_w dwc_355 11 rfl) rfl
theorem dX5_mist_44 : decode cX5_mist 44 = .ok (.lreturn, 1) := dq_173 (dq_w dwc_355 12 rfl)
theorem dX5_mist_45 : decode cX5_mist 45 = .ok (.iload_n 3, 1) := dq_29 (dq_w dwc_355 13 rfl)
theorem dX5_mist_46 : decode cX5_mist 46 = .ok (.bipush 7, 2) := dq_16 (dq_w dwc_355 14 rfl) (dq_w dwc_355 15 rfl) rfl
theorem dX5_mist_48 : decode cX5_mist 48 = .ok (.if_icmp .gt 10, 3) := dq_163 (dq_w dwc_356 0 rfl) (dq_w dwc_356 1 rfl) (dq_w dwc_356 2 rfl) (dq_p (n := 10) rfl rfl)
theorem dX5_mist_51 : decode cX5_mist 51 = .ok (.iload 4, 2) := dq_21 (dq_w dwc_356 3 rfl) (dq_w dwc_356 4 rfl) rfl
theorem dX5_mist_53 : decode cX5_mist 53 = .ok (.bipush 20, 2) := dq_16 (dq_w dwc_356 5 rfl) (dq_w dwc_356 6 rfl) rfl
theorem dX5_mist_55 : decode cX5_mist 55 = .ok (.if_icmp .le 10, 3) := dq_164 (dq_w dwc_356 7 rfl) (dq_w dwc_356 8 rfl) (dq_w dwc_356 9 rfl) (dq_p (n := 10) rfl rfl)
theorem dX5_mist_58 : decode cX5_mist 58 = .ok (.aload_n 0, 1) := dq_42 (dq_w dwc_356 10 rfl)
theorem dX5_mist_59 : decode cX5_mist 59 = .ok (.bipush (-6), 2) := dq_16 (dq_w dwc_356 11 rfl) (dq_w dwc_356 12 rfl) rfl
theorem dX5_mist_61 : decode cX5_mist 61 = .ok (.invokevirtual 265, 3) := dq_182 (dq_w dwc_356 13 rfl) (dq_w dwc_356 14 rfl) (dq_w dwc_356 15 rfl) rfl
theorem dX5_mist_64 : decode cX5_mist 64 = .ok (.lreturn, 1) := dq_173 (dq_w dwc_357 0 rfl)
theorem dX5_mist_65 : decode cX5_mist 65 = .ok (.iload 5, 2) := dq_21 (dq_w dwc_357 1 rfl) (dq_w dwc_357 2 rfl) rfl
theorem dX5_mist_67 : decode cX5_mist 67 = .ok (.ifCond .eq 16, 3) := dq_153 (dq_w dwc_357 3 rfl) (dq_w dwc_357 4 rfl) (dq_w dwc_357 5 rfl) (dq_p (n := 16) rfl rfl)
theorem dX5_mist_70 : decode cX5_mist 70 = .ok (.iload 5, 2) := dq_21 (dq_w dwc_357 6 rfl) (dq_w dwc_357 7 rfl) rfl
theorem dX5_mist_72 : decode cX5_mist 72 = .ok (.iconst 1, 1) := dq_4 (dq_w dwc_357 8 rfl)
theorem dX5_mist_73 : decode cX5_mist 73 = .ok (.if_icmp .eq 10, 3) := dq_159 (dq_w dwc_357 9 rfl) (dq_w dwc_357 10 rfl) (dq_w dwc_357 11 rfl) (dq_p (n := 10) rfl rfl)
theorem dX5_mist_76 : decode cX5_mist 76 = .ok (.aload_n 0, 1) := dq_42 (dq_w dwc_357 12 rfl)
theorem dX5_mist_77 : decode cX5_mist 77 = .ok (.bipush (-2), 2) := dq_16 (dq_w dwc_357 13 rfl) (dq_w dwc_357 14 rfl) rfl
theorem dX5_mist_79 : decode cX5_mist 79 = .ok (.invokevirtual 265, 3) := dq_182 (dq_w dwc_357 15 rfl) (dq_w dwc_358 0 rfl) (dq_w dwc_358 1 rfl) rfl
theorem dX5_mist_82 : decode cX5_mist 82 = .ok (.lreturn, 1) := dq_173 (dq_w dwc_358 2 rfl)
theorem dX5_mist_83 : decode cX5_mist 83 = .ok (.aload_n 0, 1) := dq_42 (dq_w dwc_358 3 rfl)
theorem dX5_mist_84 : decode cX5_mist 84 = .ok (.getfield 12, 3) := dq_180 (dq_w dwc_358 4 rfl) (dq_w dwc_358 5 rfl) (dq_w dwc_358 6 rfl) rfl
theorem dX5_mist_87 : decode cX5_mist 87 = .ok (.iload_n 1, 1) := dq_27 (dq_w dwc_358 7 rfl)
theorem dX5_mist_88 : decode cX5_mist 88 = .ok (.iload_n 2, 1) := dq_28 (dq_w dwc_358 8 rfl)
theorem dX5_mist_89 : decode cX5_mist 89 = .ok (.invokevirtual 140, 3) := dq_182 (dq_w dwc_358 9 rfl) (dq_w dwc_358 10 rfl) (dq_w dwc_358 11 rfl) rfl
theorem dX5_mist_92 : decode cX5_mist 92 = .ok (.ifCond .eq 5, 3) := dq_153 (dq_w dwc_358 12 rfl) (dq_w dwc_358 13 rfl) (dq_w dwc_358 14 rfl) (dq_p (n := 5) rfl rfl)
theorem dX5_mist_95 : decode cX5_mist 95 = .ok (.lconst 1, 1) := dq_10 (dq_w dwc_358 15 rfl)
theorem dX5_mist_96 : decode cX5_mist 96 = .ok (.lreturn, 1) := dq_173 (dq_w dwc_359 0 rfl)
theorem dX5_mist_97 : decode cX5_mist 97 = .ok (.aload_n 0, 1) := dq_42 (dq_w dwc_359 1 rfl)
theorem dX5_mist_98 : decode cX5_mist 98 = .ok (.getfield 12, 3) := dq_180 (dq_w dwc_359 2 rfl) (dq_w dwc_359 3 rfl) (dq_w dwc_359 4 rfl) rfl
theorem dX5_mist_101 : decode cX5_mist 101 = .ok (.iload_n 1, 1) := dq_27 (dq_w dwc_359 5 rfl)
theorem dX5_mist_102 : decode cX5_mist 102 = .ok (.iload_n 2, 1) := dq_28 (dq_w dwc_359 6 rfl)
theorem dX5_mist_103 : decode cX5_mist 103 = .ok (.iload_n 3, 1) := dq_29 (dq_w dwc_359 7 rfl)
theorem dX5_mist_104 : decode cX5_mist 104 = .ok (.invokevirtual 269, 3) := dq_182 (dq_w dwc_359 8 rfl) (dq_w dwc_359 9 rfl) (dq_w dwc_359 10 rfl) rfl
theorem dX5_mist_107 : decode cX5_mist 107 = .ok (.istore 6, 2) := dq_54 (dq_w dwc_359 11 rfl) (dq_w dwc_359 12 rfl) rfl
theorem dX5_mist_109 : decode cX5_mist 109 = .ok (.lconst 1, 1) := dq_10 (dq_w dwc_359 13 rfl)
theorem dX5_mist_110 : decode cX5_mist 110 = .ok (.lstore 7, 2) := dq_55 (dq_w dwc_359 14 rfl) (dq_w dwc_359 15 rfl) rfl
theorem dX5_mist_112 : decode cX5_mist 112 = .ok (.iconst 0, 1) := dq_3 (dq_w dwc_360 0 rfl)
theorem dX5_mist_113 : decode cX5_mist 113 = .ok (.istore 9, 2) := dq_54 (dq_w dwc_360 1 rfl) (dq_w dwc_360 2 rfl) rfl
theorem dX5_mist_115 : decode cX5_mist 115 = .ok (.iload 9, 2) := dq_21 (dq_w dwc_360 3 rfl) (dq_w dwc_360 4 rfl) rfl
theorem dX5_mist_117 : decode cX5_mist 117 = .ok (.iload 6, 2) := dq_21 (dq_w dwc_360 5 rfl) (dq_w dwc_360 6 rfl) rfl
theorem dX5_mist_119 : decode cX5_mist 119 = .ok (.if_icmp .ge 17, 3) := dq_162 (dq_w dwc_360 7 rfl) (dq_w dwc_360 8 rfl) (dq_w dwc_360 9 rfl) (dq_p (n := 17) rfl rfl)
theorem dX5_mist_122 : decode cX5_mist 122 = .ok (.lload 7, 2) := dq_22 (dq_w dwc_360 10 rfl) (dq_w dwc_360 11 rfl) rfl
theorem dX5_mist_124 : decode cX5_mist 124 = .ok (.iload 4, 2) := dq_21 (dq_w dwc_360 12 rfl) (dq_w dwc_360 13 rfl) rfl
theorem dX5_mist_126 : decode cX5_mist 126 = .ok (.i2l, 1) := dq_133 (dq_w dwc_360 14 rfl)
theorem dX5_mist_127 : decode cX5_mist 127 = .ok (.lmul, 1) := dq_105 (dq_w dwc_360 15 rfl)
theorem dX5_mist_128 : decode cX5_mist 128 = .ok (.lstore 7, 2) := dq_55 (dq_w dwc_361 0 rfl) (dq_w dwc_361 1 rfl) rfl
theorem dX5_mist_130 : decode cX5_mist 130 = .ok (.iinc 9 1, 3) := dq_132 (dq_w dwc_361 2 rfl) (dq_w dwc_361 3 rfl) rfl (dq_w dwc_361 4 rfl) rfl
theorem dX5_mist_133 : decode cX5_mist 133 = .ok (.goto (-18), 3) := dq_167 (dq_w dwc_361 5 rfl) (dq_w dwc_361 6 rfl) (dq_w dwc_361 7 rfl) (dq_n (m := 18) rfl rfl)
theorem dX5_mist_136 : decode cX5_mist 136 = .ok (.iload 5, 2) := dq_21 (dq_w dwc_361 8 rfl) (dq_w dwc_361 9 rfl) rfl
theorem dX5_mist_138 : decode cX5_mist 138 = .ok (.ifCond .ne 10, 3) := dq_154 (dq_w dwc_361 10 rfl) (dq_w dwc_361 11 rfl) (dq_w dwc_361 12 rfl) (dq_p (n := 10) rfl rfl)
theorem dX5_mist_141 : decode cX5_mist 141 = .ok (.lload 7, 2) := dq_22 (dq_w dwc_361 13 rfl) (dq_w dwc_361 14 rfl) rfl
theorem dX5_mist_143 : decode cX5_mist 143 = .ok (.lconst 1, 1) := dq_10 (dq_w dwc_361 15 rfl)
theorem dX5_mist_144 : decode cX5_mist 144 = .ok (.lsub, 1) := dq_101 (dq_w dwc_362 0 rfl)
theorem dX5_mist_145 : decode cX5_mist 145 = .ok (.goto 5, 3) := dq_167 (dq_w dwc_362 1 rfl) (dq_w dwc_362 2 rfl) (dq_w dwc_362 3 rfl) (dq_p (n := 5) rfl rfl)
theorem dX5_mist_148 : decode cX5_mist 148 = .ok (.lload 7, 2) := dq_22 (dq_w dwc_362 4 rfl) (dq_w dwc_362 5 rfl) rfl
theorem dX5_mist_150 : decode cX5_mist 150 = .ok (.lreturn, 1) := dq_173 (dq_w dwc_362 6 rfl)
theorem dwc_363 : (cX5_oldest.data.toList.drop 0).take 16 = [27, 170, 0, 0, 0, 0, 0, 72, 0, 0, 0, 0, 0, 0, 0, 3] := by decide +kernel
theorem dwc_364 : (cX5_oldest.data.toList.drop 32).take 16 = [3, 42, 182, 1, 16, 184, 1, 19, 172, 42, 182, 1, 24, 172, 42, 182] := by decide +kernel
theorem dwc_365 : (cX5_oldest.data.toList.drop 48).take 16 = [1, 27, 172, 4, 42, 180, 0, 12, 180, 0, 148, 120, 4, 100, 42, 180] := by decide +kernel
theorem dwc_366 : (cX5_oldest.data.toList.drop 64).take 16 = [0, 12, 180, 1, 30, 2, 130, 126, 172, 42, 16, 254, 182, 0, 65, 172] := by decide +kernel
theorem dX5_oldest_0 : decode cX5_oldest 0 = .ok (.iload_n 1, 1) := dq_27 (dq_w dwc_363 0 rfl)
theorem dX5_oldest_1 : decode cX5_oldest 1 = .ok (.tableswitch 72 0 3 #[31, 40, 45, 50], 31) := by decide +kernel
theorem dX5_oldest_32 : decode cX5_oldest 32 = .ok (.iconst 0, 1) := dq_3 (dq_w dwc_364 0 rfl)
theorem dX5_oldest_33 : decode cX5_oldest 33 = .ok (.aload_n 0, 1) := dq_42 (dq_w dwc_364 1 rfl)
theorem dX5_oldest_34 : decode cX5_oldest 34 = .ok (.invokevirtual 272, 3) := dq_182 (dq_w dwc_364 2 rfl) (dq_w dwc_364 3 rfl) (dq_w dwc_364 4 rfl) rfl
theorem dX5_oldest_37 : decode cX5_oldest 37 = .ok (.invokestatic 275, 3) := dq_184 (dq_w dwc_364 5 rfl) (dq_w dwc_364 6 rfl) (dq_w dwc_364 7 rfl) rfl
theorem dX5_oldest_40 : decode cX5_oldest 40 = .ok (.ireturn, 1) := dq_172 (dq_w dwc_364 8 rfl)
theorem dX5_oldest_41 : decode cX5_oldest 41 = .ok (.aload_n 0, 1) := dq_42 (dq_w dwc_364 9 rfl)
theorem dX5_oldest_42 : decode cX5_oldest 42 = .ok (.invokevirtual 280, 3) := dq_182 (dq_w dwc_364 10 rfl) (dq_w dwc_364 11 rfl) (dq_w dwc_364 12 rfl) rfl
theorem dX5_oldest_45 : decode cX5_oldest 45 = .ok (.ireturn, 1) := dq_172 (dq_w dwc_364 13 rfl)
theorem dX5_oldest_46 : decode cX5_oldest 46 = .ok (.aload_n 0, 1) := dq_42 (dq_w dwc_364 14 rfl)
theorem dX5_oldest_47 : decode cX5_oldest 47 = .ok (.invokevirtual 283, 3) := dq_182 (dq_w dwc_364 15 rfl) (dq_w dwc_365 0 rfl) (dq_w dwc_365 1 rfl) rfl
theorem dX5_oldest_50 : decode cX5_oldest 50 = .ok (.ireturn, 1) := dq_172 (dq_w dwc_365 2 rfl)
theorem dX5_oldest_51 : decode cX5_oldest 51 = .ok (.iconst 1, 1) := dq_4 (dq_w dwc_365 3 rfl)
theorem dX5_oldest_52 : decode cX5_oldest 52 = .ok (.aload_n 0, 1) := dq_42 (dq_w dwc_365 4 rfl)
theorem dX5_oldest_53 : decode cX5_oldest 53 = .ok (.getfield 12, 3) := dq_180 (dq_w dwc_365 5 rfl) (dq_w dwc_365 6 rfl) (dq_w dwc_365 7 rfl) rfl
theorem dX5_oldest_56 : decode cX5_oldest 56 = .ok (.getfield 148, 3) := dq_180 (dq_w dwc_365 8 rfl) (dq_w dwc_365 9 rfl) (dq_w dwc_365 10 rfl) rfl
theorem dX5_oldest_59 : decode cX5_oldest 59 = .ok (.ishl, 1) := dq_120 (dq_w dwc_365 11 rfl)
theorem dX5_oldest_60 : decode cX5_oldest 60 = .ok (.iconst 1, 1) := dq_4 (dq_w dwc_365 12 rfl)
theorem dX5_oldest_61 : decode cX5_oldest 61 = .ok (.isub, 1) := dq_100 (dq_w dwc_365 13 rfl)
theorem dX5_oldest_62 : decode cX5_oldest 62 = .ok (.aload_n 0, 1) := dq_42 (dq_w dwc_365 14 rfl)
theorem dX5_oldest_63 : decode cX5_oldest 63 = .ok (.getfield 12, 3) := dq_180 (dq_w dwc_365 15 rfl) (dq_w dwc_366 0 rfl) (dq_w dwc_366 1 rfl) rfl
theorem dX5_oldest_66 : decode cX5_oldest 66 = .ok (.getfield 286, 3) := dq_180 (dq_w dwc_366 2 rfl) (dq_w dwc_366 3 rfl) (dq_w dwc_366 4 rfl) rfl
theorem dX5_oldest_69 : decode cX5_oldest 69 = .ok (.iconst (-1), 1) := dq_2 (dq_w dwc_366 5 rfl)
theorem dX5_oldest_70 : decode cX5_oldest 70 = .ok (.ixor, 1) := dq_130 (dq_w dwc_366 6 rfl)
theorem dX5_oldest_71 : decode cX5_oldest 71 = .ok (.iand, 1) := dq_126 (dq_w dwc_366 7 rfl)
theorem dX5_oldest_72 : decode cX5_oldest 72 = .ok (.ireturn, 1) := dq_172 (dq_w dwc_366 8 rfl)
theorem dX5_oldest_73 : decode cX5_oldest 73 = .ok (.aload_n 0, 1) := dq_42 (dq_w dwc_366 9 rfl)
theorem dX5_oldest_74 : decode cX5_oldest 74 = .ok (.bipush (-2), 2) := dq_16 (dq_w dwc_366 10 rfl) (dq_w dwc_366 11 rfl) rfl
theorem dX5_oldest_76 : decode cX5_oldest 76 = .ok (.invokevirtual 65, 3) := dq_182 (dq_w dwc_366 12 rfl) (dq_w dwc_366 13 rfl) (dq_w dwc_366 14 rfl) rfl
theorem dX5_oldest_79 : decode cX5_oldest 79 = .ok (.ireturn, 1) := dq_172 (dq_w dwc_366 15 rfl)
theorem dwc_367 : (cX5_mean.data.toList.drop 0).take 16 = [27, 153, 0, 15, 27, 4, 159, 0, 10, 42, 16, 254, 182, 1, 9, 173] := by decide +kernel
theorem dwc_368 : (cX5_mean.data.toList.drop 16).take 16 = [42, 180, 0, 12, 3, 182, 0, 198, 61, 4, 62, 5, 54, 4, 21, 4] := by decide +kernel
theorem dwc_369 : (cX5_mean.data.toList.drop 32).take 16 = [42, 180, 0, 12, 180, 0, 158, 163, 0, 32, 28, 21, 4, 112, 154, 0] := by decide +kernel
theorem dwc_370 : (cX5_mean.data.toList.drop 48).take 16 = [19, 42, 180, 0, 12, 180, 0, 158, 21, 4, 112, 154, 0, 6, 21, 4] := by decide +kernel
theorem dwc_371 : (cX5_mean.data.toList.drop 64).take 16 = [62, 132, 4, 1, 167, 255, 218, 27, 154, 0, 10, 28, 29, 108, 133, 167] := by decide +kernel
theorem dwc_372 : (cX5_mean.data.toList.drop 80).take 16 = [0, 17, 4, 42, 180, 0, 12, 180, 0, 158, 184, 1, 19, 29, 108, 133] := by decide +kernel
theorem dwc_373 : (cX5_mean.data.toList.drop 96).take 16 = [173] := by decide +kernel
theorem dX5_mean_0 : decode cX5_mean 0 = .ok (.iload_n 1, 1) := dq_27 (dq_w dwc_367 0 rfl)
theorem dX5_mean_1 : decode cX5_mean 1 = .ok (.ifCond .eq 15, 3) := dq_153 (dq_w dwc_367 1 rfl) (dq_w dwc_367 2 rfl) (dq_w dwc_367 3 rfl) (dq_p (n := 15) rfl rfl)
theorem dX5_mean_4 : decode cX5_mean 4 = .ok (.iload_n 1, 1) := dq_27 (dq_w dwc_367 4 rfl)
theorem dX5_mean_5 : decode cX5_mean 5 = .ok (.iconst 1, 1) := dq_4 (dq_w dwc_367 5 rfl)
theorem dX5_mean_6 : decode cX5_mean 6 = .ok (.if_icmp .eq 10, 3) := dq_159 (dq_w dwc_367 6 rfl) (dq_w dwc_367 7 rfl) (dq_w dwc_367 8 rfl) (dq_p (n := 10) rfl rfl)
theorem dX5_mean_9 : decode cX5_mean 9 = .ok (.aload_n 0, 1) := dq_42 (dq_w dwc_367 9 rfl)
theorem dX5_mean_10 : decode cX5_mean 10 = .ok (.bipush (-2), 2) := dq_16 (dq_w dwc_367 10 rfl) (dq_w dwc_367 11 rfl) rfl
theorem dX5_mean_12 : decode cX5_mean 12 = .ok (.invokevirtual 265, 3) := dq_182 (dq_w dwc_367 12 rfl) (dq_w dwc_367 13 rfl) (dq_w dwc_367 14 rfl) rfl
theorem dX5_mean_15 : decode cX5_mean 15 = .ok (.lreturn, 1) := dq_173 (dq_w dwc_367 15 rfl)
theorem dX5_mean_16 : decode cX5_mean 16 = .ok (.aload_n 0, 1) := dq_42 (dq_w dwc_368 0 rfl)
theorem dX5_mean_17 : decode cX5_mean 17 = .ok (.getfield 12, 3) := dq_180 (dq_w dwc_368 1 rfl) (dq_w dwc_368 2 rfl) (dq_w dwc_368 3 rfl) rfl
theorem dX5_mean_20 : decode cX5_mean 20 = .ok (.iconst 0, 1) := dq_3 (dq_w dwc_368 4 rfl)
theorem dX5_mean_21 : decode cX5_mean 21 = .ok (.invokevirtual 198, 3) := dq_182 (dq_w dwc_368 5 rfl) (dq_w dwc_368 6 rfl) (dq_w dwc_368 7 rfl) rfl
theorem dX5_mean_24 : decode cX5_mean 24 = .ok (.istore_n 2, 1) := dq_61 (dq_w dwc_368 8 rfl)
theorem dX5_mean_25 : decode cX5_mean 25 = .ok (.iconst 1, 1) := dq_4 (dq_w dwc_368 9 rfl)
theorem dX5_mean_26 : decode cX5_mean 26 = .ok (.istore_n 3, 1) := dq_62 (dq_w dwc_368 10 rfl)
theorem dX5_mean_27 : decode cX5_mean 27 = .ok (.iconst 2, 1) := dq_5 (dq_w dwc_368 11 rfl)
theorem dX5_mean_28 : decode cX5_mean 28 = .ok (.istore 4, 2) := dq_54 (dq_w dwc_368 12 rfl) (dq_w dwc_368 13 rfl) rfl
theorem dX5_mean_30 : decode cX5_mean 30 = .ok (.iload 4, 2) := dq_21 (dq_w dwc_368 14 rfl) (dq_w dwc_368 15 rfl) rfl
theorem dX5_mean_32 : decode cX5_mean 32 = .ok (.aload_n 0, 1) := dq_42 (dq_w dwc_369 0 rfl)
theorem dX5_mean_33 : decode cX5_mean 33 = .ok (.getfield 12, 3) := dq_180 (dq_w dwc_369 1 rfl) (dq_w dwc_369 2 rfl) (dq_w dwc_369 3 rfl) rfl
theorem dX5_mean_36 : decode cX5_mean 36 = .ok (.getfield 158, 3) := dq_180 (dq_w dwc_369 4 rfl) (dq_w dwc_369 5 rfl) (dq_w dwc_369 6 rfl) rfl
theorem dX5_mean_39 : decode cX5_mean 39 = .ok (.if_icmp .gt 32, 3) := dq_163 (dq_w dwc_369 7 rfl) (dq_w dwc_369 8 rfl) (dq_w dwc_369 9 rfl) (dq_p (n := 32) rfl rfl)
theorem dX5_mean_42 : decode cX5_mean 42 = .ok (.iload_n 2, 1) := dq_28 (dq_w dwc_369 10 rfl)
theorem dX5_mean_43 : decode cX5_mean 43 = .ok (.iload 4, 2) := dq_21 (dq_w dwc_369 11 rfl) (dq_w dwc_369 12 rfl) rfl
theorem dX5_mean_45 : decode cX5_mean 45 = .ok (.irem, 1) := dq_112 (dq_w dwc_369 13 rfl)
theorem dX5_mean_46 : decode cX5_mean 46 = .ok (.ifCond .ne 19, 3) := dq_154 (dq_w dwc_369 14 rfl) (dq_w dwc_369 15 rfl) (dq_w dwc_370 0 rfl) (dq_p (n := 19) rfl rfl)
theorem dX5_mean_49 : decode cX5_mean 49 = .ok (.aload_n 0, 1) := dq_42 (dq_w dwc_370 1 rfl)
theorem dX5_mean_50 : decode cX5_mean 50 = .ok (.getfield 12, 3) := dq_180 (dq_w dwc_370 2 rfl) (dq_w dwc_370 3 rfl) (dq_w dwc_370 4 rfl) rfl
theorem dX5_mean_53 : decode cX5_mean 53 = .ok (.getfield 158, 3) := dq_180 (dq_w dwc_370 5 rfl) (dq_w dwc_370 6 rfl) (dq_w dwc_370 7 rfl) rfl
theorem dX5_mean_56 : decode cX5_mean 56 = .ok (.iload 4, 2) := dq_21 (dq_w dwc_370 8 rfl) (dq_w dwc_370 9 rfl) rfl
theorem dX5_mean_58 : decode cX5_mean 58 = .ok (.irem, 1) := dq_112 (dq_w dwc_370 10 rfl)
theorem dX5_mean_59 : decode cX5_mean 59 = .ok (.ifCond .ne 6, 3) := dq_154 (dq_w dwc_370 11 rfl) (dq_w dwc_370 12 rfl) (dq_w dwc_370 13 rfl) (dq_p (n := 6) rfl rfl)
theorem dX5_mean_62 : decode cX5_mean 62 = .ok (.iload 4, 2) := dq_21 (dq_w dwc_370 14 rfl) (dq_w dwc_370 15 rfl) rfl
theorem dX5_mean_64 : decode cX5_mean 64 = .ok (.istore_n 3, 1) := dq_62 (dq_w dwc_371 0 rfl)
theorem dX5_mean_65 : decode cX5_mean 65 = .ok (.iinc 4 1, 3) := dq_132 (dq_w dwc_371 1 rfl) (dq_w dwc_371 2 rfl) rfl (dq_w dwc_371 3 rfl) rfl
theorem dX5_mean_68 : decode cX5_mean 68 = .ok (.goto (-38), 3) := dq_167 (dq_w dwc_371 4 rfl) (dq_w dwc_371 5 rfl) (dq_w dwc_371 6 rfl) (dq_n (m := 38) rfl rfl)
theorem dX5_mean_71 : decode cX5_mean 71 = .ok (.iload_n 1, 1) := dq_27 (dq_w dwc_371 7 rfl)
theorem dX5_mean_72 : decode cX5_mean 72 = .ok (.ifCond .ne 10, 3) := dq_154 (dq_w dwc_371 8 rfl) (dq_w dwc_371 9 rfl) (dq_w dwc_371 10 rfl) (dq_p (n := 10) rfl rfl)
theorem dX5_mean_75 : decode cX5_mean 75 = .ok (.iload_n 2, 1) := dq_28 (dq_w dwc_371 11 rfl)
theorem dX5_mean_76 : decode cX5_mean 76 = .ok (.iload_n 3, 1) := dq_29 (dq_w dwc_371 12 rfl)
theorem dX5_mean_77 : decode cX5_mean 77 = .ok (.idiv, 1) := dq_108 (dq_w dwc_371 13 rfl)
theorem dX5_mean_78 : decode cX5_mean 78 = .ok (.i2l, 1) := dq_133 (dq_w dwc_371 14 rfl)
theorem dX5_mean_79 : decode cX5_mean 79 = .ok (.goto 17, 3) := dq_167 (dq_w dwc_371 15 rfl) (dq_w dwc_372 0 rfl) (dq_w dwc_372 1 rfl) (dq_p (n := 17) rfl rfl)
theorem dX5_mean_82 : decode cX5_mean 82 = .ok (.iconst 1, 1) := dq_4 (dq_w dwc_372 2 rfl)
theorem dX5_mean_83 : decode cX5_mean 83 = .ok (.aload_n 0, 1) := dq_42 (dq_w dwc_372 3 rfl)
theorem dX5_mean_84 : decode cX5_mean 84 = .ok (.getfield 12, 3) := dq_180 (dq_w dwc_372 4 rfl) (dq_w dwc_372 5 rfl) (dq_w dwc_372 6 rfl) rfl
theorem dX5_mean_87 : decode cX5_mean 87 = .ok (.getfield 158, 3) := dq_180 (dq_w dwc_372 7 rfl) (dq_w dwc_372 8 rfl) (dq_w dwc_372 9 rfl) rfl
theorem dX5_mean_90 : decode cX5_mean 90 = .ok (.invokestatic 275, 3) := dq_184 (dq_w dwc_372 10 rfl) (dq_w dwc_372 11 rfl) (dq_w dwc_372 12 rfl) rfl
theorem dX5_mean_93 : decode cX5_mean 93 = .ok (.iload_n 3, 1) := dq_29 (dq_w dwc_372 13 rfl)
theorem dX5_mean_94 : decode cX5_mean 94 = .ok (.idiv, 1) := dq_108 (dq_w dwc_372 14 rfl)
theorem dX5_mean_95 : decode cX5_mean 95 = .ok (.i2l, 1) := dq_133 (dq_w dwc_372 15 rfl)
theorem dX5_mean_96 : decode cX5_mean 96 = .ok (.lreturn, 1) := dq_173 (dq_w dwc_373 0 rfl)
theorem dwc_374 : (cX5_forgiven.data.toList.drop 0).take 16 = [3, 60, 3, 61, 28, 42, 180, 0, 12, 180, 0, 158, 162, 0, 66, 3] := by decide +kernel
theorem dwc_375 : (cX5_forgiven.data.toList.drop 16).take 16 = [62, 29, 42, 180, 0, 12, 180, 0, 148, 162, 0, 47, 42, 180, 0, 12] := by decide +kernel
theorem dwc_376 : (cX5_forgiven.data.toList.drop 32).take 16 = [28, 29, 182, 0, 140, 154, 0, 6, 167, 0, 26, 27, 42, 180, 0, 12] := by decide +kernel
theorem dwc_377 : (cX5_forgiven.data.toList.drop 48).take 16 = [28, 29, 3, 182, 0, 173, 42, 180, 0, 12, 29, 3, 182, 0, 110, 100] := by decide +kernel
theorem dwc_378 : (cX5_forgiven.data.toList.drop 64).take 16 = [96, 60, 132, 3, 1, 167, 255, 204, 132, 2, 1, 167, 255, 185, 27, 172] := by decide +kernel
theorem dX5_forgiven_0 : decode cX5_forgiven 0 = .ok (.iconst 0, 1) := dq_3 (dq_w dwc_374 0 rfl)
theorem dX5_forgiven_1 : decode cX5_forgiven 1 = .ok (.istore_n 1, 1) := dq_60 (dq_w dwc_374 1 rfl)
theorem dX5_forgiven_2 : decode cX5_forgiven 2 = .ok (.iconst 0, 1) := dq_3 (dq_w dwc_374 2 rfl)
theorem dX5_forgiven_3 : decode cX5_forgiven 3 = .ok (.istore_n 2, 1) := dq_61 (dq_w dwc_374 3 rfl)
theorem dX5_forgiven_4 : decode cX5_forgiven 4 = .ok (.iload_n 2, 1) := dq_28 (dq_w dwc_374 4 rfl)
theorem dX5_forgiven_5 : decode cX5_forgiven 5 = .ok (.aload_n 0, 1) := dq_42 (dq_w dwc_374 5 rfl)
theorem dX5_forgiven_6 : decode cX5_forgiven 6 = .ok (.getfield 12, 3) := dq_180 (dq_w dwc_374 6 rfl) (dq_w dwc_374 7 rfl) (dq_w dwc_374 8 rfl) rfl
theorem dX5_forgiven_9 : decode cX5_forgiven 9 = .ok (.getfield 158, 3) := dq_180 (dq_w dwc_374 9 rfl) (dq_w dwc_374 10 rfl) (dq_w dwc_374 11 rfl) rfl
theorem dX5_forgiven_12 : decode cX5_forgiven 12 = .ok (.if_icmp .ge 66, 3) := dq_162 (dq_w dwc_374 12 rfl) (dq_w dwc_374 13 rfl) (dq_w dwc_374 14 rfl) (dq_p (n := 66) rfl rfl)
theorem dX5_forgiven_15 : decode cX5_forgiven 15 = .ok (.iconst 0, 1) := dq_3 (dq_w dwc_374 15 rfl)
theorem dX5_forgiven_16 : decode cX5_forgiven 16 = .ok (.istore_n 3, 1) := dq_62 (dq_w dwc_375 0 rfl)
theorem dX5_forgiven_17 : decode cX5_forgiven 17 = .ok (.iload_n 3, 1) := dq_29 (dq_w dwc_375 1 rfl)
theorem dX5_forgiven_18 : decode cX5_forgiven 18 = .ok (.aload_n 0, 1) := dq_42 (dq_w dwc_375 2 rfl)
theorem dX5_forgiven_19 : decode cX5_forgiven 19 = .ok (.getfield 12, 3) := dq_180 (dq_w dwc_375 3 rfl) (dq_w dwc_375 4 rfl) (dq_w dwc_375 5 rfl) rfl
theorem dX5_forgiven_22 : decode cX5_forgiven 22 = .ok (.getfield 148, 3) := dq_180 (dq_w dwc_375 6 rfl) (dq_w dwc_375 7 rfl) (dq_w dwc_375 8 rfl) rfl
theorem dX5_forgiven_25 : decode cX5_forgiven 25 = .ok (.if_icmp .ge 47, 3) := dq_162 (dq_w dwc_375 9 rfl) (dq_w dwc_375 10 rfl) (dq_w dwc_375 11 rfl) (dq_p (n := 47) rfl rfl)
theorem dX5_forgiven_28 : decode cX5_forgiven 28 = .ok (.aload_n 0, 1) := dq_42 (dq_w dwc_375 12 rfl)
theorem dX5_forgiven_29 : decode cX5_forgiven 29 = .ok (.getfield 12, 3) := dq_180 (dq_w dwc_375 13 rfl) (dq_w dwc_375 14 rfl) (dq_w dwc_375 15 rfl) rfl
theorem dX5_forgiven_32 : decode cX5_forgiven 32 = .ok (.iload_n 2, 1) := dq_28 (dq_w dwc_376 0 rfl)
theorem dX5_forgiven_33 : decode cX5_forgiven 33 = .ok (.iload_n 3, 1) := dq_29 (dq_w dwc_376 1 rfl)
theorem dX5_forgiven_34 : decode cX5_forgiven 34 = .ok (.invokevirtual 140, 3) := dq_182 (dq_w dwc_376 2 rfl) (dq_w dwc_376 3 rfl) (dq_w dwc_376 4 rfl) rfl
theorem dX5_forgiven_37 : decode cX5_forgiven 37 = .ok (.ifCond .ne 6, 3) := dq_154 (dq_w dwc_376 5 rfl) (dq_w dwc_376 6 rfl) (dq_w dwc_376 7 rfl) (dq_p (n := 6) rfl rfl)
theorem dX5_forgiven_40 : decode cX5_forgiven 40 = .ok (.goto 26, 3) := dq_167 (dq_w dwc_376 8 rfl) (dq_w dwc_376 9 rfl) (dq_w dwc_376 10 rfl) (dq_p (n := 26) rfl rfl)
theorem dX5_forgiven_43 : decode cX5_forgiven 43 = .ok (.iload_n 1, 1) := dq_27 (dq_w dwc_376 11 rfl)
theorem dX5_forgiven_44 : decode cX5_forgiven 44 = .ok (.aload_n 0, 1) := dq_42 (dq_w dwc_376 12 rfl)
theorem dX5_forgiven_45 : decode cX5_forgiven 45 = .ok (.getfield 12, 3) := dq_180 (dq_w dwc_376 13 rfl) (dq_w dwc_376 14 rfl) (dq_w dwc_376 15 rfl) rfl
theorem dX5_forgiven_48 : decode cX5_forgiven 48 = .ok (.iload_n 2, 1) := dq_28 (dq_w dwc_377 0 rfl)
theorem dX5_forgiven_49 : decode cX5_forgiven 49 = .ok (.iload_n 3, 1) := dq_29 (dq_w dwc_377 1 rfl)
theorem dX5_forgiven_50 : decode cX5_forgiven 50 = .ok (.iconst 0, 1) := dq_3 (dq_w dwc_377 2 rfl)
theorem dX5_forgiven_51 : decode cX5_forgiven 51 = .ok (.invokevirtual 173, 3) := dq_182 (dq_w dwc_377 3 rfl) (dq_w dwc_377 4 rfl) (dq_w dwc_377 5 rfl) rfl
theorem dX5_forgiven_54 : decode cX5_forgiven 54 = .ok (.aload_n 0, 1) := dq_42 (dq_w dwc_377 6 rfl)
theorem dX5_forgiven_55 : decode cX5_forgiven 55 = .ok (.getfield 12, 3) := dq_180 (dq_w dwc_377 7 rfl) (dq_w dwc_377 8 rfl) (dq_w dwc_377 9 rfl) rfl
theorem dX5_forgiven_58 : decode cX5_forgiven 58 = .ok (.iload_n 3, 1) := dq_29 (dq_w dwc_377 10 rfl)
theorem dX5_forgiven_59 : decode cX5_forgiven 59 = .ok (.iconst 0, 1) := dq_3 (dq_w dwc_377 11 rfl)
theorem dX5_forgiven_60 : decode cX5_forgiven 60 = .ok (.invokevirtual 110, 3) := dq_182 (dq_w dwc_377 12 rfl) (dq_w dwc_377 13 rfl) (dq_w dwc_377 14 rfl) rfl
theorem dX5_forgiven_63 : decode cX5_forgiven 63 = .ok (.isub, 1) := dq_100 (dq_w dwc_377 15 rfl)
theorem dX5_forgiven_64 : decode cX5_forgiven 64 = .ok (.iadd, 1) := dq_96 (dq_w dwc_378 0 rfl)
theorem dX5_forgiven_65 : decode cX5_forgiven 65 = .ok (.istore_n 1, 1) := dq_60 (dq_w dwc_378 1 rfl)
theorem dX5_forgiven_66 : decode cX5_forgiven 66 = .ok (.iinc 3 1, 3) := dq_132 (dq_w dwc_378 2 rfl) (dq_w dwc_378 3 rfl) rfl (dq_w dwc_378 4 rfl) rfl
theorem dX5_forgiven_69 : decode cX5_forgiven 69 = .ok (.goto (-52), 3) := dq_167 (dq_w dwc_378 5 rfl) (dq_w dwc_378 6 rfl) (dq_w dwc_378 7 rfl) (dq_n (m := 52) rfl rfl)
theorem dX5_forgiven_72 : decode cX5_forgiven 72 = .ok (.iinc 2 1, 3) := dq_132 (dq_w dwc_378 8 rfl) (dq_w dwc_378 9 rfl) rfl (dq_w dwc_378 10 rfl) rfl
theorem dX5_forgiven_75 : decode cX5_forgiven 75 = .ok (.goto (-71), 3) := dq_167 (dq_w dwc_378 11 rfl) (dq_w dwc_378 12 rfl) (dq_w dwc_378 13 rfl) (dq_n (m := 71) rfl rfl)
theorem dX5_forgiven_78 : decode cX5_forgiven 78 = .ok (.iload_n 1, 1) := dq_27 (dq_w dwc_378 14 rfl)
theorem dX5_forgiven_79 : decode cX5_forgiven 79 = .ok (.ireturn, 1) := dq_172 (dq_w dwc_378 15 rfl)
theorem dwc_379 : (cX5_nearest.data.toList.drop 0).take 16 = [42, 180, 0, 12, 27, 182, 0, 119, 154, 0, 9, 42, 2, 182, 0, 65] := by decide +kernel
theorem dwc_380 : (cX5_nearest.data.toList.drop 16).take 16 = [172, 16, 247, 61, 16, 49, 62, 3, 54, 4, 21, 4, 42, 180, 0, 12] := by decide +kernel
theorem dwc_381 : (cX5_nearest.data.toList.drop 32).take 16 = [180, 0, 148, 162, 0, 58, 42, 180, 0, 12, 180, 0, 122, 27, 46, 42] := by decide +kernel
theorem dwc_382 : (cX5_nearest.data.toList.drop 48).take 16 = [180, 0, 12, 180, 0, 100, 21, 4, 46, 184, 0, 204, 54, 5, 42, 180] := by decide +kernel
theorem dwc_383 : (cX5_nearest.data.toList.drop 64).take 16 = [0, 12, 27, 21, 4, 182, 0, 140, 153, 0, 15, 21, 5, 29, 162, 0] := by decide +kernel
theorem dwc_384 : (cX5_nearest.data.toList.drop 80).take 16 = [9, 21, 5, 62, 21, 4, 61, 132, 4, 1, 167, 255, 192, 28, 172] := by decide +kernel
theorem dX5_nearest_0 : decode cX5_nearest 0 = .ok (.aload_n 0, 1) := dq_42 (dq_w dwc_379 0 rfl)
theorem dX5_nearest_1 : decode cX5_nearest 1 = .ok (.getfield 12, 3) := dq_180 (dq_w dwc_379 1 rfl) (dq_w dwc_379 2 rfl) (dq_w dwc_379 3 rfl) rfl
theorem dX5_nearest_4 : decode cX5_nearest 4 = .ok (.iload_n 1, 1) := dq_27 (dq_w dwc_379 4 rfl)
theorem dX5_nearest_5 : decode cX5_nearest 5 = .ok (.invokevirtual 119, 3) := dq_182 (dq_w dwc_379 5 rfl) (dq_w dwc_379 6 rfl) (dq_w dwc_379 7 rfl) rfl
theorem dX5_nearest_8 : decode cX5_nearest 8 = .ok (.ifCond .ne 9, 3) := dq_154 (dq_w dwc_379 8 rfl) (dq_w dwc_379 9 rfl) (dq_w dwc_379 10 rfl) (dq_p (n := 9) rfl rfl)
theorem dX5_nearest_11 : decode cX5_nearest 11 = .ok (.aload_n 0, 1) := dq_42 (dq_w dwc_379 11 rfl)
theorem dX5_nearest_12 : decode cX5_nearest 12 = .ok (.iconst (-1), 1) := dq_2 (dq_w dwc_379 12 rfl)
theorem dX5_nearest_13 : decode cX5_nearest 13 = .ok (.invokevirtual 65, 3) := dq_182 (dq_w dwc_379 13 rfl) (dq_w dwc_379 14 rfl) (dq_w dwc_379 15 rfl) rfl
theorem dX5_nearest_16 : decode cX5_nearest 16 = .ok (.ireturn, 1) := dq_172 (dq_w dwc_380 0 rfl)
theorem dX5_nearest_17 : decode cX5_nearest 17 = .ok (.bipush (-9), 2) := dq_16 (dq_w dwc_380 1 rfl) (dq_w dwc_380 2 rfl) rfl
theorem dX5_nearest_19 : decode cX5_nearest 19 = .ok (.istore_n 2, 1) := dq_61 (dq_w dwc_380 3 rfl)
theorem dX5_nearest_20 : decode cX5_nearest 20 = .ok (.bipush 49, 2) := dq_16 (dq_w dwc_380 4 rfl) (dq_w dwc_380 5 rfl) rfl
theorem dX5_nearest_22 : decode cX5_nearest 22 = .ok (.istore_n 3, 1) := dq_62 (dq_w dwc_380 6 rfl)
theorem dX5_nearest_23 : decode cX5_nearest 23 = .ok (.iconst 0, 1) := dq_3 (dq_w dwc_380 7 rfl)
theorem dX5_nearest_24 : decode cX5_nearest 24 = .ok (.istore 4, 2) := dq_54 (dq_w dwc_380 8 rfl) (dq_w dwc_380 9 rfl) rfl
theorem dX5_nearest_26 : decode cX5_nearest 26 = .ok (.iload 4, 2) := dq_21 (dq_w dwc_380 10 rfl) (dq_w dwc_380 11 rfl) rfl
theorem dX5_nearest_28 : decode cX5_nearest 28 = .ok (.aload_n 0, 1) := dq_42 (dq_w dwc_380 12 rfl)
theorem dX5_nearest_29 : decode cX5_nearest 29 = .ok (.getfield 12, 3) := dq_180 (dq_w dwc_380 13 rfl) (dq_w dwc_380 14 rfl) (dq_w dwc_380 15 rfl) rfl
theorem dX5_nearest_32 : decode cX5_nearest 32 = .ok (.getfield 148, 3) := dq_180 (dq_w dwc_381 0 rfl) (dq_w dwc_381 1 rfl) (dq_w dwc_381 2 rfl) rfl
theorem dX5_nearest_35 : decode cX5_nearest 35 = .ok (.if_icmp .ge 58, 3) := dq_162 (dq_w dwc_381 3 rfl) (dq_w dwc_381 4 rfl) (dq_w dwc_381 5 rfl) (dq_p (n := 58) rfl rfl)
theorem dX5_nearest_38 : decode cX5_nearest 38 = .ok (.aload_n 0, 1) := dq_42 (dq_w dwc_381 6 rfl)
theorem dX5_nearest_39 : decode cX5_nearest 39 = .ok (.getfield 12, 3) := dq_180 (dq_w dwc_381 7 rfl) (dq_w dwc_381 8 rfl) (dq_w dwc_381 9 rfl) rfl
theorem dX5_nearest_42 : decode cX5_nearest 42 = .ok (.getfield 122, 3) := dq_180 (dq_w dwc_381 10 rfl) (dq_w dwc_381 11 rfl) (dq_w dwc_381 12 rfl) rfl
theorem dX5_nearest_45 : decode cX5_nearest 45 = .ok (.iload_n 1, 1) := dq_27 (dq_w dwc_381 13 rfl)
theorem dX5_nearest_46 : decode cX5_nearest 46 = .ok (.iaload, 1) := dq_46 (dq_w dwc_381 14 rfl)
theorem dX5_nearest_47 : decode cX5_nearest 47 = .ok (.aload_n 0, 1) := dq_42 (dq_w dwc_381 15 rfl)
theorem dX5_nearest_48 : decode cX5_nearest 48 = .ok (.getfield 12, 3) := dq_180 (dq_w dwc_382 0 rfl) (dq_w dwc_382 1 rfl) (dq_w dwc_382 2 rfl) rfl
theorem dX5_nearest_51 : decode cX5_nearest 51 = .ok (.getfield 100, 3) := dq_180 (dq_w dwc_382 3 rfl) (dq_w dwc_382 4 rfl) (dq_w dwc_382 5 rfl) rfl
theorem dX5_nearest_54 : decode cX5_nearest 54 = .ok (.iload 4, 2) := dq_21 (dq_w dwc_382 6 rfl) (dq_w dwc_382 7 rfl) rfl
theorem dX5_nearest_56 : decode cX5_nearest 56 = .ok (.iaload, 1) := dq_46 (dq_w dwc_382 8 rfl)
theorem dX5_nearest_57 : decode cX5_nearest 57 = .ok (.invokestatic 204, 3) := dq_184 (dq_w dwc_382 9 rfl) (dq_w dwc_382 10 rfl) (dq_w dwc_382 11 rfl) rfl
theorem dX5_nearest_60 : decode cX5_nearest 60 = .ok (.istore 5, 2) := dq_54 (dq_w dwc_382 12 rfl) (dq_w dwc_382 13 rfl) rfl
theorem dX5_nearest_62 : decode cX5_nearest 62 = .ok (.aload_n 0, 1) := dq_42 (dq_w dwc_382 14 rfl)
theorem dX5_nearest_63 : decode cX5_nearest 63 = .ok (.getfield 12, 3) := dq_180 (dq_w dwc_382 15 rfl) (dq_w dwc_383 0 rfl) (dq_w dwc_383 1 rfl) rfl
theorem dX5_nearest_66 : decode cX5_nearest 66 = .ok (.iload_n 1, 1) := dq_27 (dq_w dwc_383 2 rfl)
theorem dX5_nearest_67 : decode cX5_nearest 67 = .ok (.iload 4, 2) := dq_21 (dq_w dwc_383 3 rfl) (dq_w dwc_383 4 rfl) rfl
theorem dX5_nearest_69 : decode cX5_nearest 69 = .ok (.invokevirtual 140, 3) := dq_182 (dq_w dwc_383 5 rfl) (dq_w dwc_383 6 rfl) (dq_w dwc_383 7 rfl) rfl
theorem dX5_nearest_72 : decode cX5_nearest 72 = .ok (.ifCond .eq 15, 3) := dq_153 (dq_w dwc_383 8 rfl) (dq_w dwc_383 9 rfl) (dq_w dwc_383 10 rfl) (dq_p (n := 15) rfl rfl)
theorem dX5_nearest_75 : decode cX5_nearest 75 = .ok (.iload 5, 2) := dq_21 (dq_w dwc_383 11 rfl) (dq_w dwc_383 12 rfl) rfl
theorem dX5_nearest_77 : decode cX5_nearest 77 = .ok (.iload_n 3, 1) := dq_29 (dq_w dwc_383 13 rfl)
theorem dX5_nearest_78 : decode cX5_nearest 78 = .ok (.if_icmp .ge 9, 3) := dq_162 (dq_w dwc_383 14 rfl) (dq_w dwc_383 15 rfl) (dq_w dwc_384 0 rfl) (dq_p (n := 9) rfl rfl)
theorem dX5_nearest_81 : decode cX5_nearest 81 = .ok (.iload 5, 2) := dq_21 (dq_w dwc_384 1 rfl) (dq_w dwc_384 2 rfl) rfl
theorem dX5_nearest_83 : decode cX5_nearest 83 = .ok (.istore_n 3, 1) := dq_62 (dq_w dwc_384 3 rfl)
theorem dX5_nearest_84 : decode cX5_nearest 84 = .ok (.iload 4, 2) := dq_21 (dq_w dwc_384 4 rfl) (dq_w dwc_384 5 rfl) rfl
theorem dX5_nearest_86 : decode cX5_nearest 86 = .ok (.istore_n 2, 1) := dq_61 (dq_w dwc_384 6 rfl)
theorem dX5_nearest_87 : decode cX5_nearest 87 = .ok (.iinc 4 1, 3) := dq_132 (dq_w dwc_384 7 rfl) (dq_w dwc_384 8 rfl) rfl (dq_w dwc_384 9 rfl) rfl
theorem dX5_nearest_90 : decode cX5_nearest 90 = .ok (.goto (-64), 3) := dq_167 (dq_w dwc_384 10 rfl) (dq_w dwc_384 11 rfl) (dq_w dwc_384 12 rfl) (dq_n (m := 64) rfl rfl)
theorem dX5_nearest_93 : decode cX5_nearest 93 = .ok (.iload_n 2, 1) := dq_28 (dq_w dwc_384 13 rfl)
theorem dX5_nearest_94 : decode cX5_nearest 94 = .ok (.ireturn, 1) := dq_172 (dq_w dwc_384 14 rfl)
theorem dwc_385 : (cX5_allSeen.data.toList.drop 0).take 16 = [42, 180, 0, 12, 27, 182, 0, 90, 154, 0, 9, 42, 2, 182, 0, 65] := by decide +kernel
theorem dwc_386 : (cX5_allSeen.data.toList.drop 16).take 16 = [172, 42, 180, 0, 12, 180, 0, 94, 27, 46, 42, 180, 0, 12, 180, 0] := by decide +kernel
theorem dwc_387 : (cX5_allSeen.data.toList.drop 32).take 16 = [97, 27, 46, 184, 0, 106, 61, 3, 62, 3, 54, 4, 21, 4, 16, 49] := by decide +kernel
theorem dwc_388 : (cX5_allSeen.data.toList.drop 48).take 16 = [162, 0, 30, 21, 4, 42, 180, 0, 12, 180, 0, 100, 27, 46, 184, 0] := by decide +kernel
theorem dwc_389 : (cX5_allSeen.data.toList.drop 64).take 16 = [204, 28, 163, 0, 6, 132, 3, 1, 132, 4, 1, 167, 255, 225, 29, 172] := by decide +kernel
theorem dX5_allSeen_0 : decode cX5_allSeen 0 = .ok (.aload_n 0, 1) := dq_42 (dq_w dwc_385 0 rfl)
theorem dX5_allSeen_1 : decode cX5_allSeen 1 = .ok (.getfield 12, 3) := dq_180 (dq_w dwc_385 1 rfl) (dq_w dwc_385 2 rfl) (dq_w dwc_385 3 rfl) rfl
theorem dX5_allSeen_4 : decode cX5_allSeen 4 = .ok (.iload_n 1, 1) := dq_27 (dq_w dwc_385 4 rfl)
theorem dX5_allSeen_5 : decode cX5_allSeen 5 = .ok (.invokevirtual 90, 3) := dq_182 (dq_w dwc_385 5 rfl) (dq_w dwc_385 6 rfl) (dq_w dwc_385 7 rfl) rfl
theorem dX5_allSeen_8 : decode cX5_allSeen 8 = .ok (.ifCond .ne 9, 3) := dq_154 (dq_w dwc_385 8 rfl) (dq_w dwc_385 9 rfl) (dq_w dwc_385 10 rfl) (dq_p (n := 9) rfl rfl)
theorem dX5_allSeen_11 : decode cX5_allSeen 11 = .ok (.aload_n 0, 1) := dq_42 (dq_w dwc_385 11 rfl)
theorem dX5_allSeen_12 : decode cX5_allSeen 12 = .ok (.iconst (-1), 1) := dq_2 (dq_w dwc_385 12 rfl)
theorem dX5_allSeen_13 : decode cX5_allSeen 13 = .ok (.invokevirtual 65, 3) := dq_182 (dq_w dwc_385 13 rfl) (dq_w dwc_385 14 rfl) (dq_w dwc_385 15 rfl) rfl
theorem dX5_allSeen_16 : decode cX5_allSeen 16 = .ok (.ireturn, 1) := dq_172 (dq_w dwc_386 0 rfl)
theorem dX5_allSeen_17 : decode cX5_allSeen 17 = .ok (.aload_n 0, 1) := dq_42 (dq_w dwc_386 1 rfl)
theorem dX5_allSeen_18 : decode cX5_allSeen 18 = .ok (.getfield 12, 3) := dq_180 (dq_w dwc_386 2 rfl) (dq_w dwc_386 3 rfl) (dq_w dwc_386 4 rfl) rfl
theorem dX5_allSeen_21 : decode cX5_allSeen 21 = .ok (.getfield 94, 3) := dq_180 (dq_w dwc_386 5 rfl) (dq_w dwc_386 6 rfl) (dq_w dwc_386 7 rfl) rfl
theorem dX5_allSeen_24 : decode cX5_allSeen 24 = .ok (.iload_n 1, 1) := dq_27 (dq_w dwc_386 8 rfl)
theorem dX5_allSeen_25 : decode cX5_allSeen 25 = .ok (.iaload, 1) := dq_46 (dq_w dwc_386 9 rfl)
theorem dX5_allSeen_26 : decode cX5_allSeen 26 = .ok (.aload_n 0, 1) := dq_42 (dq_w dwc_386 10 rfl)
theorem dX5_allSeen_27 : decode cX5_allSeen 27 = .ok (.getfield 12, 3) := dq_180 (dq_w dwc_386 11 rfl) (dq_w dwc_386 12 rfl) (dq_w dwc_386 13 rfl) rfl
theorem dX5_allSeen_30 : decode cX5_allSeen 30 = .ok (.getfield 97, 3) := dq_180 (dq_w dwc_386 14 rfl) (dq_w dwc_386 15 rfl) (dq_w dwc_387 0 rfl) rfl
theorem dX5_allSeen_33 : decode cX5_allSeen 33 = .ok (.iload_n 1, 1) := dq_27 (dq_w dwc_387 1 rfl)
theorem dX5_allSeen_34 : decode cX5_allSeen 34 = .ok (.iaload, 1) := dq_46 (dq_w dwc_387 2 rfl)
theorem dX5_allSeen_35 : decode cX5_allSeen 35 = .ok (.invokestatic 106, 3) := dq_184 (dq_w dwc_387 3 rfl) (dq_w dwc_387 4 rfl) (dq_w dwc_387 5 rfl) rfl
theorem dX5_allSeen_38 : decode cX5_allSeen 38 = .ok (.istore_n 2, 1) := dq_61 (dq_w dwc_387 6 rfl)
theorem dX5_allSeen_39 : decode cX5_allSeen 39 = .ok (.iconst 0, 1) := dq_3 (dq_w dwc_387 7 rfl)
theorem dX5_allSeen_40 : decode cX5_allSeen 40 = .ok (.istore_n 3, 1) := dq_62 (dq_w dwc_387 8 rfl)
theorem dX5_allSeen_41 : decode cX5_allSeen 41 = .ok (.iconst 0, 1) := dq_3 (dq_w dwc_387 9 rfl)
theorem dX5_allSeen_42 : decode cX5_allSeen 42 = .ok (.istore 4, 2) := dq_54 (dq_w dwc_387 10 rfl) (dq_w dwc_387 11 rfl) rfl
theorem dX5_allSeen_44 : decode cX5_allSeen 44 = .ok (.iload 4, 2) := dq_21 (dq_w dwc_387 12 rfl) (dq_w dwc_387 13 rfl) rfl
theorem dX5_allSeen_46 : decode cX5_allSeen 46 = .ok (.bipush 49, 2) := dq_16 (dq_w dwc_387 14 rfl) (dq_w dwc_387 15 rfl) rfl
theorem dX5_allSeen_48 : decode cX5_allSeen 48 = .ok (.if_icmp .ge 30, 3) := dq_162 (dq_w dwc_388 0 rfl) (dq_w dwc_388 1 rfl) (dq_w dwc_388 2 rfl) (dq_p (n := 30) rfl rfl)
theorem dX5_allSeen_51 : decode cX5_allSeen 51 = .ok (.iload 4, 2) := dq_21 (dq_w dwc_388 3 rfl) (dq_w dwc_388 4 rfl) rfl
theorem dX5_allSeen_53 : decode cX5_allSeen 53 = .ok (.aload_n 0, 1) := dq_42 (dq_w dwc_388 5 rfl)
theorem dX5_allSeen_54 : decode cX5_allSeen 54 = .ok (.getfield 12, 3) := dq_180 (dq_w dwc_388 6 rfl) (dq_w dwc_388 7 rfl) (dq_w dwc_388 8 rfl) rfl
theorem dX5_allSeen_57 : decode cX5_allSeen 57 = .ok (.getfield 100, 3) := dq_180 (dq_w dwc_388 9 rfl) (dq_w dwc_388 10 rfl) (dq_w dwc_388 11 rfl) rfl
theorem dX5_allSeen_60 : decode cX5_allSeen 60 = .ok (.iload_n 1, 1) := dq_27 (dq_w dwc_388 12 rfl)
theorem dX5_allSeen_61 : decode cX5_allSeen 61 = .ok (.iaload, 1) := dq_46 (dq_w dwc_388 13 rfl)
theorem dX5_allSeen_62 : decode cX5_allSeen 62 = .ok (.invokestatic 204, 3) := dq_184 (dq_w dwc_388 14 rfl) (dq_w dwc_388 15 rfl) (dq_w dwc_389 0 rfl) rfl
theorem dX5_allSeen_65 : decode cX5_allSeen 65 = .ok (.iload_n 2, 1) := dq_28 (dq_w dwc_389 1 rfl)
theorem dX5_allSeen_66 : decode cX5_allSeen 66 = .ok (.if_icmp .gt 6, 3) := dq_163 (dq_w dwc_389 2 rfl) (dq_w dwc_389 3 rfl) (dq_w dwc_389 4 rfl) (dq_p (n := 6) rfl rfl)
theorem dX5_allSeen_69 : decode cX5_allSeen 69 = .ok (.iinc 3 1, 3) := dq_132 (dq_w dwc_389 5 rfl) (dq_w dwc_389 6 rfl) rfl (dq_w dwc_389 7 rfl) rfl
theorem dX5_allSeen_72 : decode cX5_allSeen 72 = .ok (.iinc 4 1, 3) := dq_132 (dq_w dwc_389 8 rfl) (dq_w dwc_389 9 rfl) rfl (dq_w dwc_389 10 rfl) rfl
theorem dX5_allSeen_75 : decode cX5_allSeen 75 = .ok (.goto (-31), 3) := dq_167 (dq_w dwc_389 11 rfl) (dq_w dwc_389 12 rfl) (dq_w dwc_389 13 rfl) (dq_n (m := 31) rfl rfl)
theorem dX5_allSeen_78 : decode cX5_allSeen 78 = .ok (.iload_n 3, 1) := dq_29 (dq_w dwc_389 14 rfl)
theorem dX5_allSeen_79 : decode cX5_allSeen 79 = .ok (.ireturn, 1) := dq_172 (dq_w dwc_389 15 rfl)
theorem dwc_390 : (cX5_gaps.data.toList.drop 0).take 16 = [42, 182, 1, 33, 64, 3, 62, 29, 16, 60, 163, 0, 23, 31, 29, 4] := by decide +kernel
theorem dwc_391 : (cX5_gaps.data.toList.drop 16).take 16 = [96, 123, 10, 127, 9, 148, 154, 0, 5, 29, 172, 132, 3, 1, 167, 255] := by decide +kernel
theorem dwc_392 : (cX5_gaps.data.toList.drop 32).take 16 = [233, 16, 247, 172] := by decide +kernel
theorem dX5_gaps_0 : decode cX5_gaps 0 = .ok (.aload_n 0, 1) := dq_42 (dq_w dwc_390 0 rfl)
theorem dX5_gaps_1 : decode cX5_gaps 1 = .ok (.invokevirtual 289, 3) := dq_182 (dq_w dwc_390 1 rfl) (dq_w dwc_390 2 rfl) (dq_w dwc_390 3 rfl) rfl
theorem dX5_gaps_4 : decode cX5_gaps 4 = .ok (.lstore_n 1, 1) := dq_64 (dq_w dwc_390 4 rfl)
theorem dX5_gaps_5 : decode cX5_gaps 5 = .ok (.iconst 0, 1) := dq_3 (dq_w dwc_390 5 rfl)
theorem dX5_gaps_6 : decode cX5_gaps 6 = .ok (.istore_n 3, 1) := dq_62 (dq_w dwc_390 6 rfl)
theorem dX5_gaps_7 : decode cX5_gaps 7 = .ok (.iload_n 3, 1) := dq_29 (dq_w dwc_390 7 rfl)
theorem dX5_gaps_8 : decode cX5_gaps 8 = .ok (.bipush 60, 2) := dq_16 (dq_w dwc_390 8 rfl) (dq_w dwc_390 9 rfl) rfl
theorem dX5_gaps_10 : decode cX5_gaps 10 = .ok (.if_icmp .gt 23, 3) := dq_163 (dq_w dwc_390 10 rfl) (dq_w dwc_390 11 rfl) (dq_w dwc_390 12 rfl) (dq_p (n := 23) rfl rfl)
theorem dX5_gaps_13 : decode cX5_gaps 13 = .ok (.lload_n 1, 1) := dq_31 (dq_w dwc_390 13 rfl)
theorem dX5_gaps_14 : decode cX5_gaps 14 = .ok (.iload_n 3, 1) := dq_29 (dq_w dwc_390 14 rfl)
theorem dX5_gaps_15 : decode cX5_gaps 15 = .ok (.iconst 1, 1) := dq_4 (dq_w dwc_390 15 rfl)
theorem dX5_gaps_16 : decode cX5_gaps 16 = .ok (.iadd, 1) := dq_96 (dq_w dwc_391 0 rfl)
theorem dX5_gaps_17 : decode cX5_gaps 17 = .ok (.lshr, 1) := dq_123 (dq_w dwc_391 1 rfl)
theorem dX5_gaps_18 : decode cX5_gaps 18 = .ok (.lconst 1, 1) := dq_10 (dq_w dwc_391 2 rfl)
theorem dX5_gaps_19 : decode cX5_gaps 19 = .ok (.land, 1) := dq_127 (dq_w dwc_391 3 rfl)
theorem dX5_gaps_20 : decode cX5_gaps 20 = .ok (.lconst 0, 1) := dq_9 (dq_w dwc_391 4 rfl)
theorem dX5_gaps_21 : decode cX5_gaps 21 = .ok (.lcmp, 1) := dq_148 (dq_w dwc_391 5 rfl)
theorem dX5_gaps_22 : decode cX5_gaps 22 = .ok (.ifCond .ne 5, 3) := dq_154 (dq_w dwc_391 6 rfl) (dq_w dwc_391 7 rfl) (dq_w dwc_391 8 rfl) (dq_p (n := 5) rfl rfl)
theorem dX5_gaps_25 : decode cX5_gaps 25 = .ok (.iload_n 3, 1) := dq_29 (dq_w dwc_391 9 rfl)
theorem dX5_gaps_26 : decode cX5_gaps 26 = .ok (.ireturn, 1) := dq_172 (dq_w dwc_391 10 rfl)
theorem dX5_gaps_27 : decode cX5_gaps 27 = .ok (.iinc 3 1, 3) := dq_132 (dq_w dwc_391 11 rfl) (dq_w dwc_391 12 rfl) rfl (dq_w dwc_391 13 rfl) rfl
theorem dX5_gaps_30 : decode cX5_gaps 30 = .ok (.goto (-23), 3) := dq_167 (dq_w dwc_391 14 rfl) (dq_w dwc_391 15 rfl) (dq_w dwc_392 0 rfl) (dq_n (m := 23) rfl rfl)
theorem dX5_gaps_33 : decode cX5_gaps 33 = .ok (.bipush (-9), 2) := dq_16 (dq_w dwc_392 1 rfl) (dq_w dwc_392 2 rfl) rfl
theorem dX5_gaps_35 : decode cX5_gaps 35 = .ok (.ireturn, 1) := dq_172 (dq_w dwc_392 3 rfl)
theorem dwc_393 : (cX5_blind.data.toList.drop 0).take 16 = [3, 60, 3, 61, 28, 42, 180, 0, 12, 180, 0, 158, 162, 0, 35, 42] := by decide +kernel
theorem dwc_394 : (cX5_blind.data.toList.drop 16).take 16 = [180, 0, 12, 28, 42, 180, 0, 12, 180, 0, 122, 28, 46, 182, 0, 134] := by decide +kernel
theorem dwc_395 : (cX5_blind.data.toList.drop 32).take 16 = [154, 0, 9, 27, 4, 28, 120, 128, 60, 132, 2, 1, 167, 255, 216, 27] := by decide +kernel
theorem dwc_396 : (cX5_blind.data.toList.drop 48).take 16 = [172] := by decide +kernel
theorem dX5_blind_0 : decode cX5_blind 0 = .ok (.iconst 0, 1) := dq_3 (dq_w dwc_393 0 rfl)
theorem dX5_blind_1 : decode cX5_blind 1 = .ok (.istore_n 1, 1) := dq_60 (dq_w dwc_393 1 rfl)
theorem dX5_blind_2 : decode cX5_blind 2 = .ok (.iconst 0, 1) := dq_3 (dq_w dwc_393 2 rfl)
theorem dX5_blind_3 : decode cX5_blind 3 = .ok (.istore_n 2, 1) := dq_61 (dq_w dwc_393 3 rfl)
theorem dX5_blind_4 : decode cX5_blind 4 = .ok (.iload_n 2, 1) := dq_28 (dq_w dwc_393 4 rfl)
theorem dX5_blind_5 : decode cX5_blind 5 = .ok (.aload_n 0, 1) := dq_42 (dq_w dwc_393 5 rfl)
theorem dX5_blind_6 : decode cX5_blind 6 = .ok (.getfield 12, 3) := dq_180 (dq_w dwc_393 6 rfl) (dq_w dwc_393 7 rfl) (dq_w dwc_393 8 rfl) rfl
theorem dX5_blind_9 : decode cX5_blind 9 = .ok (.getfield 158, 3) := dq_180 (dq_w dwc_393 9 rfl) (dq_w dwc_393 10 rfl) (dq_w dwc_393 11 rfl) rfl
theorem dX5_blind_12 : decode cX5_blind 12 = .ok (.if_icmp .ge 35, 3) := dq_162 (dq_w dwc_393 12 rfl) (dq_w dwc_393 13 rfl) (dq_w dwc_393 14 rfl) (dq_p (n := 35) rfl rfl)
theorem dX5_blind_15 : decode cX5_blind 15 = .ok (.aload_n 0, 1) := dq_42 (dq_w dwc_393 15 rfl)
theorem dX5_blind_16 : decode cX5_blind 16 = .ok (.getfield 12, 3) := dq_180 (dq_w dwc_394 0 rfl) (dq_w dwc_394 1 rfl) (dq_w dwc_394 2 rfl) rfl
theorem dX5_blind_19 : decode cX5_blind 19 = .ok (.iload_n 2, 1) := dq_28 (dq_w dwc_394 3 rfl)
theorem dX5_blind_20 : decode cX5_blind 20 = .ok (.aload_n 0, 1) := dq_42 (dq_w dwc_394 4 rfl)
theorem dX5_blind_21 : decode cX5_blind 21 = .ok (.getfield 12, 3) := dq_180 (dq_w dwc_394 5 rfl) (dq_w dwc_394 6 rfl) (dq_w dwc_394 7 rfl) rfl
theorem dX5_blind_24 : decode cX5_blind 24 = .ok (.getfield 122, 3) := dq_180 (dq_w dwc_394 8 rfl) (dq_w dwc_394 9 rfl) (dq_w dwc_394 10 rfl) rfl
theorem dX5_blind_27 : decode cX5_blind 27 = .ok (.iload_n 2, 1) := dq_28 (dq_w dwc_394 11 rfl)
theorem dX5_blind_28 : decode cX5_blind 28 = .ok (.iaload, 1) := dq_46 (dq_w dwc_394 12 rfl)
theorem dX5_blind_29 : decode cX5_blind 29 = .ok (.invokevirtual 134, 3) := dq_182 (dq_w dwc_394 13 rfl) (dq_w dwc_394 14 rfl) (dq_w dwc_394 15 rfl) rfl
theorem dX5_blind_32 : decode cX5_blind 32 = .ok (.ifCond .ne 9, 3) := dq_154 (dq_w dwc_395 0 rfl) (dq_w dwc_395 1 rfl) (dq_w dwc_395 2 rfl) (dq_p (n := 9) rfl rfl)
theorem dX5_blind_35 : decode cX5_blind 35 = .ok (.iload_n 1, 1) := dq_27 (dq_w dwc_395 3 rfl)
theorem dX5_blind_36 : decode cX5_blind 36 = .ok (.iconst 1, 1) := dq_4 (dq_w dwc_395 4 rfl)
theorem dX5_blind_37 : decode cX5_blind 37 = .ok (.iload_n 2, 1) := dq_28 (dq_w dwc_395 5 rfl)
theorem dX5_blind_38 : decode cX5_blind 38 = .ok (.ishl, 1) := dq_120 (dq_w dwc_395 6 rfl)
theorem dX5_blind_39 : decode cX5_blind 39 = .ok (.ior, 1) := dq_128 (dq_w dwc_395 7 rfl)
theorem dX5_blind_40 : decode cX5_blind 40 = .ok (.istore_n 1, 1) := dq_60 (dq_w dwc_395 8 rfl)
theorem dX5_blind_41 : decode cX5_blind 41 = .ok (.iinc 2 1, 3) := dq_132 (dq_w dwc_395 9 rfl) (dq_w dwc_395 10 rfl) rfl (dq_w dwc_395 11 rfl) rfl
theorem dX5_blind_44 : decode cX5_blind 44 = .ok (.goto (-40), 3) := dq_167 (dq_w dwc_395 12 rfl) (dq_w dwc_395 13 rfl) (dq_w dwc_395 14 rfl) (dq_n (m := 40) rfl rfl)
theorem dX5_blind_47 : decode cX5_blind 47 = .ok (.iload_n 1, 1) := dq_27 (dq_w dwc_395 15 rfl)
theorem dX5_blind_48 : decode cX5_blind 48 = .ok (.ireturn, 1) := dq_172 (dq_w dwc_396 0 rfl)
theorem dwc_397 : (cX5_moved.data.toList.drop 0).take 16 = [42, 180, 0, 12, 27, 182, 0, 119, 153, 0, 10, 28, 184, 0, 151, 154] := by decide +kernel
theorem dwc_398 : (cX5_moved.data.toList.drop 16).take 16 = [0, 12, 18, 238, 42, 2, 182, 0, 65, 100, 172, 29, 156, 0, 13, 18] := by decide +kernel
theorem dwc_399 : (cX5_moved.data.toList.drop 32).take 16 = [238, 42, 16, 252, 182, 0, 65, 100, 172, 29, 16, 60, 164, 0, 13, 18] := by decide +kernel
theorem dwc_400 : (cX5_moved.data.toList.drop 48).take 16 = [238, 42, 16, 250, 182, 0, 65, 100, 172, 42, 180, 0, 16, 42, 180, 0] := by decide +kernel
theorem dwc_401 : (cX5_moved.data.toList.drop 64).take 16 = [12, 182, 0, 76, 42, 180, 0, 16, 27, 28, 182, 0, 170, 87, 42, 180] := by decide +kernel
theorem dwc_402 : (cX5_moved.data.toList.drop 80).take 16 = [0, 16, 27, 29, 182, 0, 137, 42, 180, 0, 12, 27, 29, 182, 0, 137] := by decide +kernel
theorem dwc_403 : (cX5_moved.data.toList.drop 96).take 16 = [100, 172] := by decide +kernel
theorem dX5_moved_0 : decode cX5_moved 0 = .ok (.aload_n 0, 1) := dq_42 (dq_w dwc_397 0 rfl)
theorem dX5_moved_1 : decode cX5_moved 1 = .ok (.getfield 12, 3) := dq_180 (dq_w dwc_397 1 rfl) (dq_w dwc_397 2 rfl) (dq_w dwc_397 3 rfl) rfl
theorem dX5_moved_4 : decode cX5_moved 4 = .ok (.iload_n 1, 1) := dq_27 (dq_w dwc_397 4 rfl)
theorem dX5_moved_5 : decode cX5_moved 5 = .ok (.invokevirtual 119, 3) := dq_182 (dq_w dwc_397 5 rfl) (dq_w dwc_397 6 rfl) (dq_w dwc_397 7 rfl) rfl
theorem dX5_moved_8 : decode cX5_moved 8 = .ok (.ifCond .eq 10, 3) := dq_153 (dq_w dwc_397 8 rfl) (dq_w dwc_397 9 rfl) (dq_w dwc_397 10 rfl) (dq_p (n := 10) rfl rfl)
theorem dX5_moved_11 : decode cX5_moved 11 = .ok (.iload_n 2, 1) := dq_28 (dq_w dwc_397 11 rfl)
theorem dX5_moved_12 : decode cX5_moved 12 = .ok (.invokestatic 151, 3) := dq_184 (dq_w dwc_397 12 rfl) (dq_w dwc_397 13 rfl) (dq_w dwc_397 14 rfl) rfl
theorem dX5_moved_15 : decode cX5_moved 15 = .ok (.ifCond .ne 12, 3) := dq_154 (dq_w dwc_397 15 rfl) (dq_w dwc_398 0 rfl) (dq_w dwc_398 1 rfl) (dq_p (n := 12) rfl rfl)
theorem dX5_moved_18 : decode cX5_moved 18 = .ok (.ldc 238, 2) := dq_18 (dq_w dwc_398 2 rfl) (dq_w dwc_398 3 rfl) rfl
theorem dX5_moved_20 : decode cX5_moved 20 = .ok (.aload_n 0, 1) := dq_42 (dq_w dwc_398 4 rfl)
theorem dX5_moved_21 : decode cX5_moved 21 = .ok (.iconst (-1), 1) := dq_2 (dq_w dwc_398 5 rfl)
theorem dX5_moved_22 : decode cX5_moved 22 = .ok (.invokevirtual 65, 3) := dq_182 (dq_w dwc_398 6 rfl) (dq_w dwc_398 7 rfl) (dq_w dwc_398 8 rfl) rfl
theorem dX5_moved_25 : decode cX5_moved 25 = .ok (.isub, 1) := dq_100 (dq_w dwc_398 9 rfl)
theorem dX5_moved_26 : decode cX5_moved 26 = .ok (.ireturn, 1) := dq_172 (dq_w dwc_398 10 rfl)
theorem dX5_moved_27 : decode cX5_moved 27 = .ok (.iload_n 3, 1) := dq_29 (dq_w dwc_398 11 rfl)
theorem dX5_moved_28 : decode cX5_moved 28 = .ok (.ifCond .ge 13, 3) := dq_156 (dq_w dwc_398 12 rfl) (dq_w dwc_398 13 rfl) (dq_w dwc_398 14 rfl) (dq_p (n := 13) rfl rfl)
theorem dX5_moved_31 : decode cX5_moved 31 = .ok (.ldc 238, 2) := dq_18 (dq_w dwc_398 15 rfl) (dq_w dwc_399 0 rfl) rfl
theorem dX5_moved_33 : decode cX5_moved 33 = .ok (.aload_n 0, 1) := dq_42 (dq_w dwc_399 1 rfl)
theorem dX5_moved_34 : decode cX5_moved 34 = .ok (.bipush (-4), 2) := dq_16 (dq_w dwc_399 2 rfl) (dq_w dwc_399 3 rfl) rfl
theorem dX5_moved_36 : decode cX5_moved 36 = .ok (.invokevirtual 65, 3) := dq_182 (dq_w dwc_399 4 rfl) (dq_w dwc_399 5 rfl) (dq_w dwc_399 6 rfl) rfl
theorem dX5_moved_39 : decode cX5_moved 39 = .ok (.isub, 1) := dq_100 (dq_w dwc_399 7 rfl)
theorem dX5_moved_40 : decode cX5_moved 40 = .ok (.ireturn, 1) := dq_172 (dq_w dwc_399 8 rfl)
theorem dX5_moved_41 : decode cX5_moved 41 = .ok (.iload_n 3, 1) := dq_29 (dq_w dwc_399 9 rfl)
theorem dX5_moved_42 : decode cX5_moved 42 = .ok (.bipush 60, 2) := dq_16 (dq_w dwc_399 10 rfl) (dq_w dwc_399 11 rfl) rfl
theorem dX5_moved_44 : decode cX5_moved 44 = .ok (.if_icmp .le 13, 3) := dq_164 (dq_w dwc_399 12 rfl) (dq_w dwc_399 13 rfl) (dq_w dwc_399 14 rfl) (dq_p (n := 13) rfl rfl)
theorem dX5_moved_47 : decode cX5_moved 47 = .ok (.ldc 238, 2) := dq_18 (dq_w dwc_399 15 rfl) (dq_w dwc_400 0 rfl) rfl
theorem dX5_moved_49 : decode cX5_moved 49 = .ok (.aload_n 0, 1) := dq_42 (dq_w dwc_400 1 rfl)
theorem dX5_moved_50 : decode cX5_moved 50 = .ok (.bipush (-6), 2) := dq_16 (dq_w dwc_400 2 rfl) (dq_w dwc_400 3 rfl) rfl
theorem dX5_moved_52 : decode cX5_moved 52 = .ok (.invokevirtual 65, 3) := dq_182 (dq_w dwc_400 4 rfl) (dq_w dwc_400 5 rfl) (dq_w dwc_400 6 rfl) rfl
theorem dX5_moved_55 : decode cX5_moved 55 = .ok (.isub, 1) := dq_100 (dq_w dwc_400 7 rfl)
theorem dX5_moved_56 : decode cX5_moved 56 = .ok (.ireturn, 1) := dq_172 (dq_w dwc_400 8 rfl)
theorem dX5_moved_57 : decode cX5_moved 57 = .ok (.aload_n 0, 1) := dq_42 (dq_w dwc_400 9 rfl)
theorem dX5_moved_58 : decode cX5_moved 58 = .ok (.getfield 16, 3) := dq_180 (dq_w dwc_400 10 rfl) (dq_w dwc_400 11 rfl) (dq_w dwc_400 12 rfl) rfl
theorem dX5_moved_61 : decode cX5_moved 61 = .ok (.aload_n 0, 1) := dq_42 (dq_w dwc_400 13 rfl)
theorem dX5_moved_62 : decode cX5_moved 62 = .ok (.getfield 12, 3) := dq_180 (dq_w dwc_400 14 rfl) (dq_w dwc_400 15 rfl) (dq_w dwc_401 0 rfl) rfl
theorem dX5_moved_65 : decode cX5_moved 65 = .ok (.invokevirtual 76, 3) := dq_182 (dq_w dwc_401 1 rfl) (dq_w dwc_401 2 rfl) (dq_w dwc_401 3 rfl) rfl
theorem dX5_moved_68 : decode cX5_moved 68 = .ok (.aload_n 0, 1) := dq_42 (dq_w dwc_401 4 rfl)
theorem dX5_moved_69 : decode cX5_moved 69 = .ok (.getfield 16, 3) := dq_180 (dq_w dwc_401 5 rfl) (dq_w dwc_401 6 rfl) (dq_w dwc_401 7 rfl) rfl
theorem dX5_moved_72 : decode cX5_moved 72 = .ok (.iload_n 1, 1) := dq_27 (dq_w dwc_401 8 rfl)
theorem dX5_moved_73 : decode cX5_moved 73 = .ok (.iload_n 2, 1) := dq_28 (dq_w dwc_401 9 rfl)
theorem dX5_moved_74 : decode cX5_moved 74 = .ok (.invokevirtual 170, 3) := dq_182 (dq_w dwc_401 10 rfl) (dq_w dwc_401 11 rfl) (dq_w dwc_401 12 rfl) rfl
theorem dX5_moved_77 : decode cX5_moved 77 = .ok (.pop, 1) := dq_87 (dq_w dwc_401 13 rfl)
theorem dX5_moved_78 : decode cX5_moved 78 = .ok (.aload_n 0, 1) := dq_42 (dq_w dwc_401 14 rfl)
theorem dX5_moved_79 : decode cX5_moved 79 = .ok (.getfield 16, 3) := dq_180 (dq_w dwc_401 15 rfl) (dq_w dwc_402 0 rfl) (dq_w dwc_402 1 rfl) rfl
theorem dX5_moved_82 : decode cX5_moved 82 = .ok (.iload_n 1, 1) := dq_27 (dq_w dwc_402 2 rfl)
theorem dX5_moved_83 : decode cX5_moved 83 = .ok (.iload_n 3, 1) := dq_29 (dq_w dwc_402 3 rfl)
theorem dX5_moved_84 : decode cX5_moved 84 = .ok (.invokevirtual 137, 3) := dq_182 (dq_w dwc_402 4 rfl) (dq_w dwc_402 5 rfl) (dq_w dwc_402 6 rfl) rfl
theorem dX5_moved_87 : decode cX5_moved 87 = .ok (.aload_n 0, 1) := dq_42 (dq_w dwc_402 7 rfl)
theorem dX5_moved_88 : decode cX5_moved 88 = .ok (.getfield 12, 3) := dq_180 (dq_w dwc_402 8 rfl) (dq_w dwc_402 9 rfl) (dq_w dwc_402 10 rfl) rfl
theorem dX5_moved_91 : decode cX5_moved 91 = .ok (.iload_n 1, 1) := dq_27 (dq_w dwc_402 11 rfl)
theorem dX5_moved_92 : decode cX5_moved 92 = .ok (.iload_n 3, 1) := dq_29 (dq_w dwc_402 12 rfl)
theorem dX5_moved_93 : decode cX5_moved 93 = .ok (.invokevirtual 137, 3) := dq_182 (dq_w dwc_402 13 rfl) (dq_w dwc_402 14 rfl) (dq_w dwc_402 15 rfl) rfl
theorem dX5_moved_96 : decode cX5_moved 96 = .ok (.isub, 1) := dq_100 (dq_w dwc_403 0 rfl)
theorem dX5_moved_97 : decode cX5_moved 97 = .ok (.ireturn, 1) := dq_172 (dq_w dwc_403 1 rfl)
theorem dwc_404 : (cX5_street.data.toList.drop 0).take 16 = [27, 155, 0, 9, 27, 16, 7, 161, 0, 9, 42, 2, 182, 0, 65, 172] := by decide +kernel
theorem dwc_405 : (cX5_street.data.toList.drop 16).take 16 = [3, 61, 3, 62, 29, 42, 180, 0, 12, 180, 0, 148, 162, 0, 63, 42] := by decide +kernel
theorem dwc_406 : (cX5_street.data.toList.drop 32).take 16 = [180, 0, 12, 180, 0, 100, 29, 46, 16, 7, 108, 27, 159, 0, 6, 167] := by decide +kernel
theorem dwc_407 : (cX5_street.data.toList.drop 48).take 16 = [0, 38, 3, 54, 4, 21, 4, 42, 180, 0, 12, 180, 0, 158, 162, 0] := by decide +kernel
theorem dwc_408 : (cX5_street.data.toList.drop 64).take 16 = [23, 28, 42, 180, 0, 12, 21, 4, 29, 3, 182, 0, 173, 96, 61, 132] := by decide +kernel
theorem dwc_409 : (cX5_street.data.toList.drop 80).take 16 = [4, 1, 167, 255, 227, 132, 3, 1, 167, 255, 188, 28, 172] := by decide +kernel
theorem dX5_street_0 : decode cX5_street 0 = .ok (.iload_n 1, 1) := dq_27 (dq_w dwc_404 0 rfl)
theorem dX5_street_1 : decode cX5_street 1 = .ok (.ifCond .lt 9, 3) := dq_155 (dq_w dwc_404 1 rfl) (dq_w dwc_404 2 rfl) (dq_w dwc_404 3 rfl) (dq_p (n := 9) rfl rfl)
theorem dX5_street_4 : decode cX5_street 4 = .ok (.iload_n 1, 1) := dq_27 (dq_w dwc_404 4 rfl)
theorem dX5_street_5 : decode cX5_street 5 = .ok (.bipush 7, 2) := dq_16 (dq_w dwc_404 5 rfl) (dq_w dwc_404 6 rfl) rfl
theorem dX5_street_7 : decode cX5_street 7 = .ok (.if_icmp .lt 9, 3) := dq_161 (dq_w dwc_404 7 rfl) (dq_w dwc_404 8 rfl) (dq_w dwc_404 9 rfl) (dq_p (n := 9) rfl rfl)
theorem dX5_street_10 : decode cX5_street 10 = .ok (.aload_n 0, 1) := dq_42 (dq_w dwc_404 10 rfl)
theorem dX5_street_11 : decode cX5_street 11 = .ok (.iconst (-1), 1) := dq_2 (dq_w dwc_404 11 rfl)
theorem dX5_street_12 : decode cX5_street 12 = .ok (.invokevirtual 65, 3) := dq_182 (dq_w dwc_404 12 rfl) (dq_w dwc_404 13 rfl) (dq_w dwc_404 14 rfl) rfl
theorem dX5_street_15 : decode cX5_street 15 = .ok (.ireturn, 1) := dq_172 (dq_w dwc_404 15 rfl)
theorem dX5_street_16 : decode cX5_street 16 = .ok (.iconst 0, 1) := dq_3 (dq_w dwc_405 0 rfl)
theorem dX5_street_17 : decode cX5_street 17 = .ok (.istore_n 2, 1) := dq_61 (dq_w dwc_405 1 rfl)
theorem dX5_street_18 : decode cX5_street 18 = .ok (.iconst 0, 1) := dq_3 (dq_w dwc_405 2 rfl)
theorem dX5_street_19 : decode cX5_street 19 = .ok (.istore_n 3, 1) := dq_62 (dq_w dwc_405 3 rfl)
theorem dX5_street_20 : decode cX5_street 20 = .ok (.iload_n 3, 1) := dq_29 (dq_w dwc_405 4 rfl)
theorem dX5_street_21 : decode cX5_street 21 = .ok (.aload_n 0, 1) := dq_42 (dq_w dwc_405 5 rfl)
theorem dX5_street_22 : decode cX5_street 22 = .ok (.getfield 12, 3) := dq_180 (dq_w dwc_405 6 rfl) (dq_w dwc_405 7 rfl) (dq_w dwc_405 8 rfl) rfl
theorem dX5_street_25 : decode cX5_street 25 = .ok (.getfield 148, 3) := dq_180 (dq_w dwc_405 9 rfl) (dq_w dwc_405 10 rfl) (dq_w dwc_405 11 rfl) rfl
theorem dX5_street_28 : decode cX5_street 28 = .ok (.if_icmp .ge 63, 3) := dq_162 (dq_w dwc_405 12 rfl) (dq_w dwc_405 13 rfl) (dq_w dwc_405 14 rfl) (dq_p (n := 63) rfl rfl)
theorem dX5_street_31 : decode cX5_street 31 = .ok (.aload_n 0, 1) := dq_42 (dq_w dwc_405 15 rfl)
theorem dX5_street_32 : decode cX5_street 32 = .ok (.getfield 12, 3) := dq_180 (dq_w dwc_406 0 rfl) (dq_w dwc_406 1 rfl) (dq_w dwc_406 2 rfl) rfl
theorem dX5_street_35 : decode cX5_street 35 = .ok (.getfield 100, 3) := dq_180 (dq_w dwc_406 3 rfl) (dq_w dwc_406 4 rfl) (dq_w dwc_406 5 rfl) rfl
theorem dX5_street_38 : decode cX5_street 38 = .ok (.iload_n 3, 1) := dq_29 (dq_w dwc_406 6 rfl)
theorem dX5_street_39 : decode cX5_street 39 = .ok (.iaload, 1) := dq_46 (dq_w dwc_406 7 rfl)
theorem dX5_street_40 : decode cX5_street 40 = .ok (.bipush 7, 2) := dq_16 (dq_w dwc_406 8 rfl) (dq_w dwc_406 9 rfl) rfl
theorem dX5_street_42 : decode cX5_street 42 = .ok (.idiv, 1) := dq_108 (dq_w dwc_406 10 rfl)
theorem dX5_street_43 : decode cX5_street 43 = .ok (.iload_n 1, 1) := dq_27 (dq_w dwc_406 11 rfl)
theorem dX5_street_44 : decode cX5_street 44 = .ok (.if_icmp .eq 6, 3) := dq_159 (dq_w dwc_406 12 rfl) (dq_w dwc_406 13 rfl) (dq_w dwc_406 14 rfl) (dq_p (n := 6) rfl rfl)
theorem dX5_street_47 : decode cX5_street 47 = .ok (.goto 38, 3) := dq_167 (dq_w dwc_406 15 rfl) (dq_w dwc_407 0 rfl) (dq_w dwc_407 1 rfl) (dq_p (n := 38) rfl rfl)
theorem dX5_street_50 : decode cX5_street 50 = .ok (.iconst 0, 1) := dq_3 (dq_w dwc_407 2 rfl)
theorem dX5_street_51 : decode cX5_street 51 = .ok (.istore 4, 2) := dq_54 (dq_w dwc_407 3 rfl) (dq_w dwc_407 4 rfl) rfl
theorem dX5_street_53 : decode cX5_street 53 = .ok (.iload 4, 2) := dq_21 (dq_w dwc_407 5 rfl) (dq_w dwc_407 6 rfl) rfl
theorem dX5_street_55 : decode cX5_street 55 = .ok (.aload_n 0, 1) := dq_42 (dq_w dwc_407 7 rfl)
theorem dX5_street_56 : decode cX5_street 56 = .ok (.getfield 12, 3) := dq_180 (dq_w dwc_407 8 rfl) (dq_w dwc_407 9 rfl) (dq_w dwc_407 10 rfl) rfl
theorem dX5_street_59 : decode cX5_street 59 = .ok (.getfield 158, 3) := dq_180 (dq_w dwc_407 11 rfl) (dq_w dwc_407 12 rfl) (dq_w dwc_407 13 rfl) rfl
theorem dX5_street_62 : decode cX5_street 62 = .ok (.if_icmp .ge 23, 3) := dq_162 (dq_w dwc_407 14 rfl) (dq_w dwc_407 15 rfl) (dq_w dwc_408 0 rfl) (dq_p (n := 23) rfl rfl)
theorem dX5_street_65 : decode cX5_street 65 = .ok (.iload_n 2, 1) := dq_28 (dq_w dwc_408 1 rfl)
theorem dX5_street_66 : decode cX5_street 66 = .ok (.aload_n 0, 1) := dq_42 (dq_w dwc_408 2 rfl)
theorem dX5_street_67 : decode cX5_street 67 = .ok (.getfield 12, 3) := dq_180 (dq_w dwc_408 3 rfl) (dq_w dwc_408 4 rfl) (dq_w dwc_408 5 rfl) rfl
theorem dX5_street_70 : decode cX5_street 70 = .ok (.iload 4, 2) := dq_21 (dq_w dwc_408 6 rfl) (dq_w dwc_408 7 rfl) rfl
theorem dX5_street_72 : decode cX5_street 72 = .ok (.iload_n 3, 1) := dq_29 (dq_w dwc_408 8 rfl)
theorem dX5_street_73 : decode cX5_street 73 = .ok (.iconst 0, 1) := dq_3 (dq_w dwc_408 9 rfl)
theorem dX5_street_74 : decode cX5_street 74 = .ok (.invokevirtual 173, 3) := dq_182 (dq_w dwc_408 10 rfl) (dq_w dwc_408 11 rfl) (dq_w dwc_408 12 rfl) rfl
theorem dX5_street_77 : decode cX5_street 77 = .ok (.iadd, 1) := dq_96 (dq_w dwc_408 13 rfl)
theorem dX5_street_78 : decode cX5_street 78 = .ok (.istore_n 2, 1) := dq_61 (dq_w dwc_408 14 rfl)
theorem dX5_street_79 : decode cX5_street 79 = .ok (.iinc 4 1, 3) := dq_132 (dq_w dwc_408 15 rfl) (dq_w dwc_409 0 rfl) rfl (dq_w dwc_409 1 rfl) rfl
theorem dX5_street_82 : decode cX5_street 82 = .ok (.goto (-29), 3) := dq_167 (dq_w dwc_409 2 rfl) (dq_w dwc_409 3 rfl) (dq_w dwc_409 4 rfl) (dq_n (m := 29) rfl rfl)
theorem dX5_street_85 : decode cX5_street 85 = .ok (.iinc 3 1, 3) := dq_132 (dq_w dwc_409 5 rfl) (dq_w dwc_409 6 rfl) rfl (dq_w dwc_409 7 rfl) rfl
theorem dX5_street_88 : decode cX5_street 88 = .ok (.goto (-68), 3) := dq_167 (dq_w dwc_409 8 rfl) (dq_w dwc_409 9 rfl) (dq_w dwc_409 10 rfl) (dq_n (m := 68) rfl rfl)
theorem dX5_street_91 : decode cX5_street 91 = .ok (.iload_n 2, 1) := dq_28 (dq_w dwc_409 11 rfl)
theorem dX5_street_92 : decode cX5_street 92 = .ok (.ireturn, 1) := dq_172 (dq_w dwc_409 12 rfl)
theorem dwc_410 : (cX5_row.data.toList.drop 0).take 16 = [27, 156, 0, 10, 42, 16, 252, 182, 0, 65, 172, 27, 16, 99, 163, 0] := by decide +kernel
theorem dwc_411 : (cX5_row.data.toList.drop 16).take 16 = [12, 42, 180, 0, 58, 16, 12, 161, 0, 10, 42, 16, 250, 182, 0, 65] := by decide +kernel
theorem dwc_412 : (cX5_row.data.toList.drop 32).take 16 = [172, 42, 180, 0, 54, 42, 180, 0, 58, 27, 79, 42, 89, 180, 0, 58] := by decide +kernel
theorem dwc_413 : (cX5_row.data.toList.drop 48).take 16 = [4, 96, 181, 0, 58, 42, 180, 0, 58, 172] := by decide +kernel
theorem dX5_row_0 : decode cX5_row 0 = .ok (.iload_n 1, 1) := dq_27 (dq_w dwc_410 0 rfl)
theorem dX5_row_1 : decode cX5_row 1 = .ok (.ifCond .ge 10, 3) := dq_156 (dq_w dwc_410 1 rfl) (dq_w dwc_410 2 rfl) (dq_w dwc_410 3 rfl) (dq_p (n := 10) rfl rfl)
theorem dX5_row_4 : decode cX5_row 4 = .ok (.aload_n 0, 1) := dq_42 (dq_w dwc_410 4 rfl)
theorem dX5_row_5 : decode cX5_row 5 = .ok (.bipush (-4), 2) := dq_16 (dq_w dwc_410 5 rfl) (dq_w dwc_410 6 rfl) rfl
theorem dX5_row_7 : decode cX5_row 7 = .ok (.invokevirtual 65, 3) := dq_182 (dq_w dwc_410 7 rfl) (dq_w dwc_410 8 rfl) (dq_w dwc_410 9 rfl) rfl
theorem dX5_row_10 : decode cX5_row 10 = .ok (.ireturn, 1) := dq_172 (dq_w dwc_410 10 rfl)
theorem dX5_row_11 : decode cX5_row 11 = .ok (.iload_n 1, 1) := dq_27 (dq_w dwc_410 11 rfl)
theorem dX5_row_12 : decode cX5_row 12 = .ok (.bipush 99, 2) := dq_16 (dq_w dwc_410 12 rfl) (dq_w dwc_410 13 rfl) rfl
theorem dX5_row_14 : decode cX5_row 14 = .ok (.if_icmp .gt 12, 3) := dq_163 (dq_w dwc_410 14 rfl) (dq_w dwc_410 15 rfl) (dq_w dwc_411 0 rfl) (dq_p (n := 12) rfl rfl)
theorem dX5_row_17 : decode cX5_row 17 = .ok (.aload_n 0, 1) := dq_42 (dq_w dwc_411 1 rfl)
theorem dX5_row_18 : decode cX5_row 18 = .ok (.getfield 58, 3) := dq_180 (dq_w dwc_411 2 rfl) (dq_w dwc_411 3 rfl) (dq_w dwc_411 4 rfl) rfl
theorem dX5_row_21 : decode cX5_row 21 = .ok (.bipush 12, 2) := dq_16 (dq_w dwc_411 5 rfl) (dq_w dwc_411 6 rfl) rfl
theorem dX5_row_23 : decode cX5_row 23 = .ok (.if_icmp .lt 10, 3) := dq_161 (dq_w dwc_411 7 rfl) (dq_w dwc_411 8 rfl) (dq_w dwc_411 9 rfl) (dq_p (n := 10) rfl rfl)
theorem dX5_row_26 : decode cX5_row 26 = .ok (.aload_n 0, 1) := dq_42 (dq_w dwc_411 10 rfl)
theorem dX5_row_27 : decode cX5_row 27 = .ok (.bipush (-6), 2) := dq_16 (dq_w dwc_411 11 rfl) (dq_w dwc_411 12 rfl) rfl
theorem dX5_row_29 : decode cX5_row 29 = .ok (.invokevirtual 65, 3) := dq_182 (dq_w dwc_411 13 rfl) (dq_w dwc_411 14 rfl) (dq_w dwc_411 15 rfl) rfl
theorem dX5_row_32 : decode cX5_row 32 = .ok (.ireturn, 1) := dq_172 (dq_w dwc_412 0 rfl)
theorem dX5_row_33 : decode cX5_row 33 = .ok (.aload_n 0, 1) := dq_42 (dq_w dwc_412 1 rfl)
theorem dX5_row_34 : decode cX5_row 34 = .ok (.getfield 54, 3) := dq_180 (dq_w dwc_412 2 rfl) (dq_w dwc_412 3 rfl) (dq_w dwc_412 4 rfl) rfl
theorem dX5_row_37 : decode cX5_row 37 = .ok (.aload_n 0, 1) := dq_42 (dq_w dwc_412 5 rfl)
theorem dX5_row_38 : decode cX5_row 38 = .ok (.getfield 58, 3) := dq_180 (dq_w dwc_412 6 rfl) (dq_w dwc_412 7 rfl) (dq_w dwc_412 8 rfl) rfl
theorem dX5_row_41 : decode cX5_row 41 = .ok (.iload_n 1, 1) := dq_27 (dq_w dwc_412 9 rfl)
theorem dX5_row_42 : decode cX5_row 42 = .ok (.iastore, 1) := dq_79 (dq_w dwc_412 10 rfl)
theorem dX5_row_43 : decode cX5_row 43 = .ok (.aload_n 0, 1) := dq_42 (dq_w dwc_412 11 rfl)
theorem dX5_row_44 : decode cX5_row 44 = .ok (.dup, 1) := dq_89 (dq_w dwc_412 12 rfl)
theorem dX5_row_45 : decode cX5_row 45 = .ok (.getfield 58, 3) := dq_180 (dq_w dwc_412 13 rfl) (dq_w dwc_412 14 rfl) (dq_w dwc_412 15 rfl) rfl
theorem dX5_row_48 : decode cX5_row 48 = .ok (.iconst 1, 1) := dq_4 (dq_w dwc_413 0 rfl)
theorem dX5_row_49 : decode cX5_row 49 = .ok (.iadd, 1) := dq_96 (dq_w dwc_413 1 rfl)
theorem dX5_row_50 : decode cX5_row 50 = .ok (.putfield 58, 3) := dq_181 (dq_w dwc_413 2 rfl) (dq_w dwc_413 3 rfl) (dq_w dwc_413 4 rfl) rfl
theorem dX5_row_53 : decode cX5_row 53 = .ok (.aload_n 0, 1) := dq_42 (dq_w dwc_413 5 rfl)
theorem dX5_row_54 : decode cX5_row 54 = .ok (.getfield 58, 3) := dq_180 (dq_w dwc_413 6 rfl) (dq_w dwc_413 7 rfl) (dq_w dwc_413 8 rfl) rfl
theorem dX5_row_57 : decode cX5_row 57 = .ok (.ireturn, 1) := dq_172 (dq_w dwc_413 9 rfl)
theorem dwc_414 : (cX5_judge.data.toList.drop 0).take 16 = [42, 180, 0, 58, 60, 42, 3, 181, 0, 58, 3, 61, 28, 27, 162, 0] := by decide +kernel
theorem dwc_415 : (cX5_judge.data.toList.drop 16).take 16 = [45, 42, 180, 0, 12, 28, 182, 0, 90, 154, 0, 5, 28, 172, 42, 180] := by decide +kernel
theorem dwc_416 : (cX5_judge.data.toList.drop 32).take 16 = [0, 12, 28, 3, 182, 0, 113, 184, 0, 239, 42, 180, 0, 54, 28, 46] := by decide +kernel
theorem dwc_417 : (cX5_judge.data.toList.drop 48).take 16 = [159, 0, 5, 28, 172, 132, 2, 1, 167, 255, 212, 16, 247, 172] := by decide +kernel
theorem dX5_judge_0 : decode cX5_judge 0 = .ok (.aload_n 0, 1) := dq_42 (dq_w dwc_414 0 rfl)
theorem dX5_judge_1 : decode cX5_judge 1 = .ok (.getfield 58, 3) := dq_180 (dq_w dwc_414 1 rfl) (dq_w dwc_414 2 rfl) (dq_w dwc_414 3 rfl) rfl
theorem dX5_judge_4 : decode cX5_judge 4 = .ok (.istore_n 1, 1) := dq_60 (dq_w dwc_414 4 rfl)
theorem dX5_judge_5 : decode cX5_judge 5 = .ok (.aload_n 0, 1) := dq_42 (dq_w dwc_414 5 rfl)
theorem dX5_judge_6 : decode cX5_judge 6 = .ok (.iconst 0, 1) := dq_3 (dq_w dwc_414 6 rfl)
theorem dX5_judge_7 : decode cX5_judge 7 = .ok (.putfield 58, 3) := dq_181 (dq_w dwc_414 7 rfl) (dq_w dwc_414 8 rfl) (dq_w dwc_414 9 rfl) rfl
theorem dX5_judge_10 : decode cX5_judge 10 = .ok (.iconst 0, 1) := dq_3 (dq_w dwc_414 10 rfl)
theorem dX5_judge_11 : decode cX5_judge 11 = .ok (.istore_n 2, 1) := dq_61 (dq_w dwc_414 11 rfl)
theorem dX5_judge_12 : decode cX5_judge 12 = .ok (.iload_n 2, 1) := dq_28 (dq_w dwc_414 12 rfl)
theorem dX5_judge_13 : decode cX5_judge 13 = .ok (.iload_n 1, 1) := dq_27 (dq_w dwc_414 13 rfl)
theorem dX5_judge_14 : decode cX5_judge 14 = .ok (.if_icmp .ge 45, 3) := dq_162 (dq_w dwc_414 14 rfl) (dq_w dwc_414 15 rfl) (dq_w dwc_415 0 rfl) (dq_p (n := 45) rfl rfl)
theorem dX5_judge_17 : decode cX5_judge 17 = .ok (.aload_n 0, 1) := dq_42 (dq_w dwc_415 1 rfl)
theorem dX5_judge_18 : decode cX5_judge 18 = .ok (.getfield 12, 3) := dq_180 (dq_w dwc_415 2 rfl) (dq_w dwc_415 3 rfl) (dq_w dwc_415 4 rfl) rfl
theorem dX5_judge_21 : decode cX5_judge 21 = .ok (.iload_n 2, 1) := dq_28 (dq_w dwc_415 5 rfl)
theorem dX5_judge_22 : decode cX5_judge 22 = .ok (.invokevirtual 90, 3) := dq_182 (dq_w dwc_415 6 rfl) (dq_w dwc_415 7 rfl) (dq_w dwc_415 8 rfl) rfl
theorem dX5_judge_25 : decode cX5_judge 25 = .ok (.ifCond .ne 5, 3) := dq_154 (dq_w dwc_415 9 rfl) (dq_w dwc_415 10 rfl) (dq_w dwc_415 11 rfl) (dq_p (n := 5) rfl rfl)
theorem dX5_judge_28 : decode cX5_judge 28 = .ok (.iload_n 2, 1) := dq_28 (dq_w dwc_415 12 rfl)
theorem dX5_judge_29 : decode cX5_judge 29 = .ok (.ireturn, 1) := dq_172 (dq_w dwc_415 13 rfl)
theorem dX5_judge_30 : decode cX5_judge 30 = .ok (.aload_n 0, 1) := dq_42 (dq_w dwc_415 14 rfl)
theorem dX5_judge_31 : decode cX5_judge 31 = .ok (.getfield 12, 3) := dq_180 (dq_w dwc_415 15 rfl) (dq_w dwc_416 0 rfl) (dq_w dwc_416 1 rfl) rfl
theorem dX5_judge_34 : decode cX5_judge 34 = .ok (.iload_n 2, 1) := dq_28 (dq_w dwc_416 2 rfl)
theorem dX5_judge_35 : decode cX5_judge 35 = .ok (.iconst 0, 1) := dq_3 (dq_w dwc_416 3 rfl)
theorem dX5_judge_36 : decode cX5_judge 36 = .ok (.invokevirtual 113, 3) := dq_182 (dq_w dwc_416 4 rfl) (dq_w dwc_416 5 rfl) (dq_w dwc_416 6 rfl) rfl
theorem dX5_judge_39 : decode cX5_judge 39 = .ok (.invokestatic 239, 3) := dq_184 (dq_w dwc_416 7 rfl) (dq_w dwc_416 8 rfl) (dq_w dwc_416 9 rfl) rfl
theorem dX5_judge_42 : decode cX5_judge 42 = .ok (.aload_n 0, 1) := dq_42 (dq_w dwc_416 10 rfl)
theorem dX5_judge_43 : decode cX5_judge 43 = .ok (.getfield 54, 3) := dq_180 (dq_w dwc_416 11 rfl) (dq_w dwc_416 12 rfl) (dq_w dwc_416 13 rfl) rfl
theorem dX5_judge_46 : decode cX5_judge 46 = .ok (.iload_n 2, 1) := dq_28 (dq_w dwc_416 14 rfl)
theorem dX5_judge_47 : decode cX5_judge 47 = .ok (.iaload, 1) := dq_46 (dq_w dwc_416 15 rfl)
theorem dX5_judge_48 : decode cX5_judge 48 = .ok (.if_icmp .eq 5, 3) := dq_159 (dq_w dwc_417 0 rfl) (dq_w dwc_417 1 rfl) (dq_w dwc_417 2 rfl) (dq_p (n := 5) rfl rfl)
theorem dX5_judge_51 : decode cX5_judge 51 = .ok (.iload_n 2, 1) := dq_28 (dq_w dwc_417 3 rfl)
theorem dX5_judge_52 : decode cX5_judge 52 = .ok (.ireturn, 1) := dq_172 (dq_w dwc_417 4 rfl)
theorem dX5_judge_53 : decode cX5_judge 53 = .ok (.iinc 2 1, 3) := dq_132 (dq_w dwc_417 5 rfl) (dq_w dwc_417 6 rfl) rfl (dq_w dwc_417 7 rfl) rfl
theorem dX5_judge_56 : decode cX5_judge 56 = .ok (.goto (-44), 3) := dq_167 (dq_w dwc_417 8 rfl) (dq_w dwc_417 9 rfl) (dq_w dwc_417 10 rfl) (dq_n (m := 44) rfl rfl)
theorem dX5_judge_59 : decode cX5_judge 59 = .ok (.bipush (-9), 2) := dq_16 (dq_w dwc_417 11 rfl) (dq_w dwc_417 12 rfl) rfl
theorem dX5_judge_61 : decode cX5_judge 61 = .ok (.ireturn, 1) := dq_172 (dq_w dwc_417 13 rfl)
theorem dwc_418 : (cX5_empties.data.toList.drop 0).take 16 = [42, 180, 0, 58, 60, 42, 3, 181, 0, 58, 27, 172] := by decide +kernel
theorem dX5_empties_0 : decode cX5_empties 0 = .ok (.aload_n 0, 1) := dq_42 (dq_w dwc_418 0 rfl)
theorem dX5_empties_1 : decode cX5_empties 1 = .ok (.getfield 58, 3) := dq_180 (dq_w dwc_418 1 rfl) (dq_w dwc_418 2 rfl) (dq_w dwc_418 3 rfl) rfl
theorem dX5_empties_4 : decode cX5_empties 4 = .ok (.istore_n 1, 1) := dq_60 (dq_w dwc_418 4 rfl)
theorem dX5_empties_5 : decode cX5_empties 5 = .ok (.aload_n 0, 1) := dq_42 (dq_w dwc_418 5 rfl)
theorem dX5_empties_6 : decode cX5_empties 6 = .ok (.iconst 0, 1) := dq_3 (dq_w dwc_418 6 rfl)
theorem dX5_empties_7 : decode cX5_empties 7 = .ok (.putfield 58, 3) := dq_181 (dq_w dwc_418 7 rfl) (dq_w dwc_418 8 rfl) (dq_w dwc_418 9 rfl) rfl
theorem dX5_empties_10 : decode cX5_empties 10 = .ok (.iload_n 1, 1) := dq_27 (dq_w dwc_418 10 rfl)
theorem dX5_empties_11 : decode cX5_empties 11 = .ok (.ireturn, 1) := dq_172 (dq_w dwc_418 11 rfl)
theorem dwc_419 : (cX5_lots.data.toList.drop 0).take 16 = [27, 4, 162, 0, 10, 42, 16, 252, 182, 0, 65, 172, 27, 16, 20, 164] := by decide +kernel
theorem dwc_420 : (cX5_lots.data.toList.drop 16).take 16 = [0, 10, 42, 16, 250, 182, 0, 65, 172, 29, 153, 0, 15, 29, 4, 159] := by decide +kernel
theorem dwc_421 : (cX5_lots.data.toList.drop 32).take 16 = [0, 10, 42, 16, 254, 182, 0, 65, 172, 3, 54, 4, 28, 54, 5, 42] := by decide +kernel
theorem dwc_422 : (cX5_lots.data.toList.drop 48).take 16 = [180, 0, 16, 42, 180, 0, 12, 182, 0, 76, 3, 54, 6, 21, 6, 27] := by decide +kernel
theorem dwc_423 : (cX5_lots.data.toList.drop 64).take 16 = [162, 0, 104, 3, 54, 7, 21, 7, 42, 180, 0, 16, 180, 0, 158, 162] := by decide +kernel
theorem dwc_424 : (cX5_lots.data.toList.drop 80).take 16 = [0, 53, 21, 5, 184, 1, 37, 54, 5, 42, 180, 0, 16, 180, 0, 122] := by decide +kernel
theorem dwc_425 : (cX5_lots.data.toList.drop 96).take 16 = [21, 7, 21, 5, 184, 1, 40, 79, 21, 5, 184, 1, 37, 54, 5, 42] := by decide +kernel
theorem dwc_426 : (cX5_lots.data.toList.drop 112).take 16 = [180, 0, 16, 180, 0, 125, 21, 7, 21, 5, 184, 1, 40, 79, 132, 7] := by decide +kernel
theorem dwc_427 : (cX5_lots.data.toList.drop 128).take 16 = [1, 167, 255, 197, 21, 4, 29, 154, 0, 15, 42, 180, 0, 16, 16, 12] := by decide +kernel
theorem dwc_428 : (cX5_lots.data.toList.drop 144).take 16 = [182, 0, 186, 167, 0, 12, 42, 180, 0, 16, 16, 12, 182, 0, 198, 96] := by decide +kernel
theorem dwc_429 : (cX5_lots.data.toList.drop 160).take 16 = [54, 4, 132, 6, 1, 167, 255, 152, 21, 4, 172] := by decide +kernel
theorem dX5_lots_0 : decode cX5_lots 0 = .ok (.iload_n 1, 1) := dq_27 (dq_w dwc_419 0 rfl)
theorem dX5_lots_1 : decode cX5_lots 1 = .ok (.iconst 1, 1) := dq_4 (dq_w dwc_419 1 rfl)
theorem dX5_lots_2 : decode cX5_lots 2 = .ok (.if_icmp .ge 10, 3) := dq_162 (dq_w dwc_419 2 rfl) (dq_w dwc_419 3 rfl) (dq_w dwc_419 4 rfl) (dq_p (n := 10) rfl rfl)
theorem dX5_lots_5 : decode cX5_lots 5 = .ok (.aload_n 0, 1) := dq_42 (dq_w dwc_419 5 rfl)
theorem dX5_lots_6 : decode cX5_lots 6 = .ok (.bipush (-4), 2) := dq_16 (dq_w dwc_419 6 rfl) (dq_w dwc_419 7 rfl) rfl
theorem dX5_lots_8 : decode cX5_lots 8 = .ok (.invokevirtual 65, 3) := dq_182 (dq_w dwc_419 8 rfl) (dq_w dwc_419 9 rfl) (dq_w dwc_419 10 rfl) rfl
theorem dX5_lots_11 : decode cX5_lots 11 = .ok (.ireturn, 1) := dq_172 (dq_w dwc_419 11 rfl)
theorem dX5_lots_12 : decode cX5_lots 12 = .ok (.iload_n 1, 1) := dq_27 (dq_w dwc_419 12 rfl)
theorem dX5_lots_13 : decode cX5_lots 13 = .ok (.bipush 20, 2) := dq_16 (dq_w dwc_419 13 rfl) (dq_w dwc_419 14 rfl) rfl
theorem dX5_lots_15 : decode cX5_lots 15 = .ok (.if_icmp .le 10, 3) := dq_164 (dq_w dwc_419 15 rfl) (dq_w dwc_420 0 rfl) (dq_w dwc_420 1 rfl) (dq_p (n := 10) rfl rfl)
theorem dX5_lots_18 : decode cX5_lots 18 = .ok (.aload_n 0, 1) := dq_42 (dq_w dwc_420 2 rfl)
theorem dX5_lots_19 : decode cX5_lots 19 = .ok (.bipush (-6), 2) := dq_16 (dq_w dwc_420 3 rfl) (dq_w dwc_420 4 rfl) rfl
theorem dX5_lots_21 : decode cX5_lots 21 = .ok (.invokevirtual 65, 3) := dq_182 (dq_w dwc_420 5 rfl) (dq_w dwc_420 6 rfl) (dq_w dwc_420 7 rfl) rfl
theorem dX5_lots_24 : decode cX5_lots 24 = .ok (.ireturn, 1) := dq_172 (dq_w dwc_420 8 rfl)
theorem dX5_lots_25 : decode cX5_lots 25 = .ok (.iload_n 3, 1) := dq_29 (dq_w dwc_420 9 rfl)
theorem dX5_lots_26 : decode cX5_lots 26 = .ok (.ifCond .eq 15, 3) := dq_153 (dq_w dwc_420 10 rfl) (dq_w dwc_420 11 rfl) (dq_w dwc_420 12 rfl) (dq_p (n := 15) rfl rfl)
theorem dX5_lots_29 : decode cX5_lots 29 = .ok (.iload_n 3, 1) := dq_29 (dq_w dwc_420 13 rfl)
theorem dX5_lots_30 : decode cX5_lots 30 = .ok (.iconst 1, 1) := dq_4 (dq_w dwc_420 14 rfl)
theorem dX5_lots_31 : decode cX5_lots 31 = .ok (.if_icmp .eq 10, 3) := dq_159 (dq_w dwc_420 15 rfl) (dq_w dwc_421 0 rfl) (dq_w dwc_421 1 rfl) (dq_p (n := 10) rfl rfl)
theorem dX5_lots_34 : decode cX5_lots 34 = .ok (.aload_n 0, 1) := dq_42 (dq_w dwc_421 2 rfl)
theorem dX5_lots_35 : decode cX5_lots 35 = .ok (.bipush (-2), 2) := dq_16 (dq_w dwc_421 3 rfl) (dq_w dwc_421 4 rfl) rfl
theorem dX5_lots_37 : decode cX5_lots 37 = .ok (.invokevirtual 65, 3) := dq_182 (dq_w dwc_421 5 rfl) (dq_w dwc_421 6 rfl) (dq_w dwc_421 7 rfl) rfl
theorem dX5_lots_40 : decode cX5_lots 40 = .ok (.ireturn, 1) := dq_172 (dq_w dwc_421 8 rfl)
theorem dX5_lots_41 : decode cX5_lots 41 = .ok (.iconst 0, 1) := dq_3 (dq_w dwc_421 9 rfl)
theorem dX5_lots_42 : decode cX5_lots 42 = .ok (.istore 4, 2) := dq_54 (dq_w dwc_421 10 rfl) (dq_w dwc_421 11 rfl) rfl
theorem dX5_lots_44 : decode cX5_lots 44 = .ok (.iload_n 2, 1) := dq_28 (dq_w dwc_421 12 rfl)
theorem dX5_lots_45 : decode cX5_lots 45 = .ok (.istore 5, 2) := dq_54 (dq_w dwc_421 13 rfl) (dq_w dwc_421 14 rfl) rfl
theorem dX5_lots_47 : decode cX5_lots 47 = .ok (.aload_n 0, 1) := dq_42 (dq_w dwc_421 15 rfl)
theorem dX5_lots_48 : decode cX5_lots 48 = .ok (.getfield 16, 3) := dq_180 (dq_w dwc_422 0 rfl) (dq_w dwc_422 1 rfl) (dq_w dwc_422 2 rfl) rfl
theorem dX5_lots_51 : decode cX5_lots 51 = .ok (.aload_n 0, 1) := dq_42 (dq_w dwc_422 3 rfl)
theorem dX5_lots_52 : decode cX5_lots 52 = .ok (.getfield 12, 3) := dq_180 (dq_w dwc_422 4 rfl) (dq_w dwc_422 5 rfl) (dq_w dwc_422 6 rfl) rfl
theorem dX5_lots_55 : decode cX5_lots 55 = .ok (.invokevirtual 76, 3) := dq_182 (dq_w dwc_422 7 rfl) (dq_w dwc_422 8 rfl) (dq_w dwc_422 9 rfl) rfl
theorem dX5_lots_58 : decode cX5_lots 58 = .ok (.iconst 0, 1) := dq_3 (dq_w dwc_422 10 rfl)
theorem dX5_lots_59 : decode cX5_lots 59 = .ok (.istore 6, 2) := dq_54 (dq_w dwc_422 11 rfl) (dq_w dwc_422 12 rfl) rfl
theorem dX5_lots_61 : decode cX5_lots 61 = .ok (.iload 6, 2) := dq_21 (dq_w dwc_422 13 rfl) (dq_w dwc_422 14 rfl) rfl
theorem dX5_lots_63 : decode cX5_lots 63 = .ok (.iload_n 1, 1) := dq_27 (dq_w dwc_422 15 rfl)
theorem dX5_lots_64 : decode cX5_lots 64 = .ok (.if_icmp .ge 104, 3) := dq_162 (dq_w dwc_423 0 rfl) (dq_w dwc_423 1 rfl) (dq_w dwc_423 2 rfl) (dq_p (n := 104) rfl rfl)
theorem dX5_lots_67 : decode cX5_lots 67 = .ok (.iconst 0, 1) := dq_3 (dq_w dwc_423 3 rfl)
theorem dX5_lots_68 : decode cX5_lots 68 = .ok (.istore 7, 2) := dq_54 (dq_w dwc_423 4 rfl) (dq_w dwc_423 5 rfl) rfl
theorem dX5_lots_70 : decode cX5_lots 70 = .ok (.iload 7, 2) := dq_21 (dq_w dwc_423 6 rfl) (dq_w dwc_423 7 rfl) rfl
theorem dX5_lots_72 : decode cX5_lots 72 = .ok (.aload_n 0, 1) := dq_42 (dq_w dwc_423 8 rfl)
theorem dX5_lots_73 : decode cX5_lots 73 = .ok (.getfield 16, 3) := dq_180 (dq_w dwc_423 9 rfl) (dq_w dwc_423 10 rfl) (dq_w dwc_423 11 rfl) rfl
theorem dX5_lots_76 : decode cX5_lots 76 = .ok (.getfield 158, 3) := dq_180 (dq_w dwc_423 12 rfl) (dq_w dwc_423 13 rfl) (dq_w dwc_423 14 rfl) rfl
theorem dX5_lots_79 : decode cX5_lots 79 = .ok (.if_icmp .ge 53, 3) := dq_162 (dq_w dwc_423 15 rfl) (dq_w dwc_424 0 rfl) (dq_w dwc_424 1 rfl) (dq_p (n := 53) rfl rfl)
theorem dX5_lots_82 : decode cX5_lots 82 = .ok (.iload 5, 2) := dq_21 (dq_w dwc_424 2 rfl) (dq_w dwc_424 3 rfl) rfl
theorem dX5_lots_84 : decode cX5_lots 84 = .ok (.invokestatic 293, 3) := dq_184 (dq_w dwc_424 4 rfl) (dq_w dwc_424 5 rfl) (dq_w dwc_424 6 rfl) rfl
theorem dX5_lots_87 : decode cX5_lots 87 = .ok (.istore 5, 2) := dq_54 (dq_w dwc_424 7 rfl) (dq_w dwc_424 8 rfl) rfl
theorem dX5_lots_89 : decode cX5_lots 89 = .ok (.aload_n 0, 1) := dq_42 (dq_w dwc_424 9 rfl)
theorem dX5_lots_90 : decode cX5_lots 90 = .ok (.getfield 16, 3) := dq_180 (dq_w dwc_424 10 rfl) (dq_w dwc_424 11 rfl) (dq_w dwc_424 12 rfl) rfl
theorem dX5_lots_93 : decode cX5_lots 93 = .ok (.getfield 122, 3) := dq_180 (dq_w dwc_424 13 rfl) (dq_w dwc_424 14 rfl) (dq_w dwc_424 15 rfl) rfl
theorem dX5_lots_96 : decode cX5_lots 96 = .ok (.iload 7, 2) := dq_21 (dq_w dwc_425 0 rfl) (dq_w dwc_425 1 rfl) rfl
theorem dX5_lots_98 : decode cX5_lots 98 = .ok (.iload 5, 2) := dq_21 (dq_w dwc_425 2 rfl) (dq_w dwc_425 3 rfl) rfl
theorem dX5_lots_100 : decode cX5_lots 100 = .ok (.invokestatic 296, 3) := dq_184 (dq_w dwc_425 4 rfl) (dq_w dwc_425 5 rfl) (dq_w dwc_425 6 rfl) rfl
theorem dX5_lots_103 : decode cX5_lots 103 = .ok (.iastore, 1) := dq_79 (dq_w dwc_425 7 rfl)
theorem dX5_lots_104 : decode cX5_lots 104 = .ok (.iload 5, 2) := dq_21 (dq_w dwc_425 8 rfl) (dq_w dwc_425 9 rfl) rfl
theorem dX5_lots_106 : decode cX5_lots 106 = .ok (.invokestatic 293, 3) := dq_184 (dq_w dwc_425 10 rfl) (dq_w dwc_425 11 rfl) (dq_w dwc_425 12 rfl) rfl
theorem dX5_lots_109 : decode cX5_lots 109 = .ok (.istore 5, 2) := dq_54 (dq_w dwc_425 13 rfl) (dq_w dwc_425 14 rfl) rfl
theorem dX5_lots_111 : decode cX5_lots 111 = .ok (.aload_n 0, 1) := dq_42 (dq_w dwc_425 15 rfl)
theorem dX5_lots_112 : decode cX5_lots 112 = .ok (.getfield 16, 3) := dq_180 (dq_w dwc_426 0 rfl) (dq_w dwc_426 1 rfl) (dq_w dwc_426 2 rfl) rfl
theorem dX5_lots_115 : decode cX5_lots 115 = .ok (.getfield 125, 3) := dq_180 (dq_w dwc_426 3 rfl) (dq_w dwc_426 4 rfl) (dq_w dwc_426 5 rfl) rfl
theorem dX5_lots_118 : decode cX5_lots 118 = .ok (.iload 7, 2) := dq_21 (dq_w dwc_426 6 rfl) (dq_w dwc_426 7 rfl) rfl
theorem dX5_lots_120 : decode cX5_lots 120 = .ok (.iload 5, 2) := dq_21 (dq_w dwc_426 8 rfl) (dq_w dwc_426 9 rfl) rfl
theorem dX5_lots_122 : decode cX5_lots 122 = .ok (.invokestatic 296, 3) := dq_184 (dq_w dwc_426 10 rfl) (dq_w dwc_426 11 rfl) (dq_w dwc_426 12 rfl) rfl
theorem dX5_lots_125 : decode cX5_lots 125 = .ok (.iastore, 1) := dq_79 (dq_w dwc_426 13 rfl)
theorem dX5_lots_126 : decode cX5_lots 126 = .ok (.iinc 7 1, 3) := dq_132 (dq_w dwc_426 14 rfl) (dq_w dwc_426 15 rfl) rfl (dq_w dwc_427 0 rfl) rfl
theorem dX5_lots_129 : decode cX5_lots 129 = .ok (.goto (-59), 3) := dq_167 (dq_w dwc_427 1 rfl) (dq_w dwc_427 2 rfl) (dq_w dwc_427 3 rfl) (dq_n (m := 59) rfl rfl)
theorem dX5_lots_132 : decode cX5_lots 132 = .ok (.iload 4, 2) := dq_21 (dq_w dwc_427 4 rfl) (dq_w dwc_427 5 rfl) rfl
theorem dX5_lots_134 : decode cX5_lots 134 = .ok (.iload_n 3, 1) := dq_29 (dq_w dwc_427 6 rfl)
theorem dX5_lots_135 : decode cX5_lots 135 = .ok (.ifCond .ne 15, 3) := dq_154 (dq_w dwc_427 7 rfl) (dq_w dwc_427 8 rfl) (dq_w dwc_427 9 rfl) (dq_p (n := 15) rfl rfl)
theorem dX5_lots_138 : decode cX5_lots 138 = .ok (.aload_n 0, 1) := dq_42 (dq_w dwc_427 10 rfl)
theorem dX5_lots_139 : decode cX5_lots 139 = .ok (.getfield 16, 3) := dq_180 (dq_w dwc_427 11 rfl) (dq_w dwc_427 12 rfl) (dq_w dwc_427 13 rfl) rfl
theorem dX5_lots_142 : decode cX5_lots 142 = .ok (.bipush 12, 2) := dq_16 (dq_w dwc_427 14 rfl) (dq_w dwc_427 15 rfl) rfl
theorem dX5_lots_144 : decode cX5_lots 144 = .ok (.invokevirtual 186, 3) := dq_182 (dq_w dwc_428 0 rfl) (dq_w dwc_428 1 rfl) (dq_w dwc_428 2 rfl) rfl
theorem dX5_lots_147 : decode cX5_lots 147 = .ok (.goto 12, 3) := dq_167 (dq_w dwc_428 3 rfl) (dq_w dwc_428 4 rfl) (dq_w dwc_428 5 rfl) (dq_p (n := 12) rfl rfl)
theorem dX5_lots_150 : decode cX5_lots 150 = .ok (.aload_n 0, 1) := dq_42 (dq_w dwc_428 6 rfl)
theorem dX5_lots_151 : decode cX5_lots 151 = .ok (.getfield 16, 3) := dq_180 (dq_w dwc_428 7 rfl) (dq_w dwc_428 8 rfl) (dq_w dwc_428 9 rfl) rfl
theorem dX5_lots_154 : decode cX5_lots 154 = .ok (.bipush 12, 2) := dq_16 (dq_w dwc_428 10 rfl) (dq_w dwc_428 11 rfl) rfl
theorem dX5_lots_156 : decode cX5_lots 156 = .ok (.invokevirtual 198, 3) := dq_182 (dq_w dwc_428 12 rfl) (dq_w dwc_428 13 rfl) (dq_w dwc_428 14 rfl) rfl
theorem dX5_lots_159 : decode cX5_lots 159 = .ok (.iadd, 1) := dq_96 (dq_w dwc_428 15 rfl)
theorem dX5_lots_160 : decode cX5_lots 160 = .ok (.istore 4, 2) := dq_54 (dq_w dwc_429 0 rfl) (dq_w dwc_429 1 rfl) rfl
theorem dX5_lots_162 : decode cX5_lots 162 = .ok (.iinc 6 1, 3) := dq_132 (dq_w dwc_429 2 rfl) (dq_w dwc_429 3 rfl) rfl (dq_w dwc_429 4 rfl) rfl
theorem dX5_lots_165 : decode cX5_lots 165 = .ok (.goto (-104), 3) := dq_167 (dq_w dwc_429 5 rfl) (dq_w dwc_429 6 rfl) (dq_w dwc_429 7 rfl) (dq_n (m := 104) rfl rfl)
theorem dX5_lots_168 : decode cX5_lots 168 = .ok (.iload 4, 2) := dq_21 (dq_w dwc_429 8 rfl) (dq_w dwc_429 9 rfl) rfl
theorem dX5_lots_170 : decode cX5_lots 170 = .ok (.ireturn, 1) := dq_172 (dq_w dwc_429 10 rfl)
theorem dwc_430 : (cX5_image.data.toList.drop 0).take 16 = [42, 180, 0, 19, 42, 180, 0, 12, 182, 0, 76, 42, 4, 181, 0, 22] := by decide +kernel
theorem dwc_431 : (cX5_image.data.toList.drop 16).take 16 = [42, 180, 0, 12, 180, 0, 180, 172] := by decide +kernel
theorem dX5_image_0 : decode cX5_image 0 = .ok (.aload_n 0, 1) := dq_42 (dq_w dwc_430 0 rfl)
theorem dX5_image_1 : decode cX5_image 1 = .ok (.getfield 19, 3) := dq_180 (dq_w dwc_430 1 rfl) (dq_w dwc_430 2 rfl) (dq_w dwc_430 3 rfl) rfl
theorem dX5_image_4 : decode cX5_image 4 = .ok (.aload_n 0, 1) := dq_42 (dq_w dwc_430 4 rfl)
theorem dX5_image_5 : decode cX5_image 5 = .ok (.getfield 12, 3) := dq_180 (dq_w dwc_430 5 rfl) (dq_w dwc_430 6 rfl) (dq_w dwc_430 7 rfl) rfl
theorem dX5_image_8 : decode cX5_image 8 = .ok (.invokevirtual 76, 3) := dq_182 (dq_w dwc_430 8 rfl) (dq_w dwc_430 9 rfl) (dq_w dwc_430 10 rfl) rfl
theorem dX5_image_11 : decode cX5_image 11 = .ok (.aload_n 0, 1) := dq_42 (dq_w dwc_430 11 rfl)
theorem dX5_image_12 : decode cX5_image 12 = .ok (.iconst 1, 1) := dq_4 (dq_w dwc_430 12 rfl)
theorem dX5_image_13 : decode cX5_image 13 = .ok (.putfield 22, 3) := dq_181 (dq_w dwc_430 13 rfl) (dq_w dwc_430 14 rfl) (dq_w dwc_430 15 rfl) rfl
theorem dX5_image_16 : decode cX5_image 16 = .ok (.aload_n 0, 1) := dq_42 (dq_w dwc_431 0 rfl)
theorem dX5_image_17 : decode cX5_image 17 = .ok (.getfield 12, 3) := dq_180 (dq_w dwc_431 1 rfl) (dq_w dwc_431 2 rfl) (dq_w dwc_431 3 rfl) rfl
theorem dX5_image_20 : decode cX5_image 20 = .ok (.getfield 180, 3) := dq_180 (dq_w dwc_431 4 rfl) (dq_w dwc_431 5 rfl) (dq_w dwc_431 6 rfl) rfl
theorem dX5_image_23 : decode cX5_image 23 = .ok (.ireturn, 1) := dq_172 (dq_w dwc_431 7 rfl)
theorem dwc_432 : (cX5_restore.data.toList.drop 0).take 16 = [42, 180, 0, 22, 154, 0, 10, 42, 16, 253, 182, 0, 65, 172, 42, 180] := by decide +kernel
theorem dwc_433 : (cX5_restore.data.toList.drop 16).take 16 = [0, 12, 42, 180, 0, 19, 182, 0, 76, 42, 180, 0, 29, 182, 0, 87] := by decide +kernel
theorem dwc_434 : (cX5_restore.data.toList.drop 32).take 16 = [42, 180, 0, 12, 180, 0, 180, 172] := by decide +kernel
theorem dX5_restore_0 : decode cX5_restore 0 = .ok (.aload_n 0, 1) := dq_42 (dq_w dwc_432 0 rfl)
theorem dX5_restore_1 : decode cX5_restore 1 = .ok (.getfield 22, 3) := dq_180 (dq_w dwc_432 1 rfl) (dq_w dwc_432 2 rfl) (dq_w dwc_432 3 rfl) rfl
theorem dX5_restore_4 : decode cX5_restore 4 = .ok (.ifCond .ne 10, 3) := dq_154 (dq_w dwc_432 4 rfl) (dq_w dwc_432 5 rfl) (dq_w dwc_432 6 rfl) (dq_p (n := 10) rfl rfl)
theorem dX5_restore_7 : decode cX5_restore 7 = .ok (.aload_n 0, 1) := dq_42 (dq_w dwc_432 7 rfl)
theorem dX5_restore_8 : decode cX5_restore 8 = .ok (.bipush (-3), 2) := dq_16 (dq_w dwc_432 8 rfl) (dq_w dwc_432 9 rfl) rfl
theorem dX5_restore_10 : decode cX5_restore 10 = .ok (.invokevirtual 65, 3) := dq_182 (dq_w dwc_432 10 rfl) (dq_w dwc_432 11 rfl) (dq_w dwc_432 12 rfl) rfl
theorem dX5_restore_13 : decode cX5_restore 13 = .ok (.ireturn, 1) := dq_172 (dq_w dwc_432 13 rfl)
theorem dX5_restore_14 : decode cX5_restore 14 = .ok (.aload_n 0, 1) := dq_42 (dq_w dwc_432 14 rfl)
theorem dX5_restore_15 : decode cX5_restore 15 = .ok (.getfield 12, 3) := dq_180 (dq_w dwc_432 15 rfl) (dq_w dwc_433 0 rfl) (dq_w dwc_433 1 rfl) rfl
theorem dX5_restore_18 : decode cX5_restore 18 = .ok (.aload_n 0, 1) := dq_42 (dq_w dwc_433 2 rfl)
theorem dX5_restore_19 : decode cX5_restore 19 = .ok (.getfield 19, 3) := dq_180 (dq_w dwc_433 3 rfl) (dq_w dwc_433 4 rfl) (dq_w dwc_433 5 rfl) rfl
theorem dX5_restore_22 : decode cX5_restore 22 = .ok (.invokevirtual 76, 3) := dq_182 (dq_w dwc_433 6 rfl) (dq_w dwc_433 7 rfl) (dq_w dwc_433 8 rfl) rfl
theorem dX5_restore_25 : decode cX5_restore 25 = .ok (.aload_n 0, 1) := dq_42 (dq_w dwc_433 9 rfl)
theorem dX5_restore_26 : decode cX5_restore 26 = .ok (.getfield 29, 3) := dq_180 (dq_w dwc_433 10 rfl) (dq_w dwc_433 11 rfl) (dq_w dwc_433 12 rfl) rfl
theorem dX5_restore_29 : decode cX5_restore 29 = .ok (.invokevirtual 87, 3) := dq_182 (dq_w dwc_433 13 rfl) (dq_w dwc_433 14 rfl) (dq_w dwc_433 15 rfl) rfl
theorem dX5_restore_32 : decode cX5_restore 32 = .ok (.aload_n 0, 1) := dq_42 (dq_w dwc_434 0 rfl)
theorem dX5_restore_33 : decode cX5_restore 33 = .ok (.getfield 12, 3) := dq_180 (dq_w dwc_434 1 rfl) (dq_w dwc_434 2 rfl) (dq_w dwc_434 3 rfl) rfl
theorem dX5_restore_36 : decode cX5_restore 36 = .ok (.getfield 180, 3) := dq_180 (dq_w dwc_434 4 rfl) (dq_w dwc_434 5 rfl) (dq_w dwc_434 6 rfl) rfl
theorem dX5_restore_39 : decode cX5_restore 39 = .ok (.ireturn, 1) := dq_172 (dq_w dwc_434 7 rfl)
theorem dwc_435 : (cX5_count.data.toList.drop 0).take 16 = [27, 170, 0, 0, 0, 0, 0, 110, 0, 0, 0, 0, 0, 0, 0, 7] := by decide +kernel
theorem dwc_436 : (cX5_count.data.toList.drop 48).take 16 = [42, 180, 0, 12, 180, 0, 148, 172, 42, 180, 0, 12, 180, 0, 158, 172] := by decide +kernel
theorem dwc_437 : (cX5_count.data.toList.drop 64).take 16 = [42, 180, 0, 12, 180, 0, 180, 172, 42, 180, 0, 12, 3, 182, 0, 186] := by decide +kernel
theorem dwc_438 : (cX5_count.data.toList.drop 80).take 16 = [172, 42, 180, 0, 12, 3, 182, 0, 198, 172, 42, 180, 0, 36, 180, 1] := by decide +kernel
theorem dwc_439 : (cX5_count.data.toList.drop 96).take 16 = [43, 172, 42, 180, 0, 58, 172, 42, 180, 0, 29, 180, 0, 189, 172, 27] := by decide +kernel
theorem dwc_440 : (cX5_count.data.toList.drop 112).take 16 = [16, 11, 161, 0, 21, 27, 16, 16, 163, 0, 15, 42, 180, 0, 62, 27] := by decide +kernel
theorem dwc_441 : (cX5_count.data.toList.drop 128).take 16 = [16, 10, 100, 46, 167, 0, 5, 16, 247, 172] := by decide +kernel
theorem dX5_count_0 : decode cX5_count 0 = .ok (.iload_n 1, 1) := dq_27 (dq_w dwc_435 0 rfl)
theorem dX5_count_1 : decode cX5_count 1 = .ok (.tableswitch 110 0 7 #[47, 55, 63, 71, 80, 89, 97, 102], 47) := by decide +kernel
theorem dX5_count_48 : decode cX5_count 48 = .ok (.aload_n 0, 1) := dq_42 (dq_w dwc_436 0 rfl)
theorem dX5_count_49 : decode cX5_count 49 = .ok (.getfield 12, 3) := dq_180 (dq_w dwc_436 1 rfl) (dq_w dwc_436 2 rfl) (dq_w dwc_436 3 rfl) rfl
theorem dX5_count_52 : decode cX5_count 52 = .ok (.getfield 148, 3) := dq_180 (dq_w dwc_436 4 rfl) (dq_w dwc_436 5 rfl) (dq_w dwc_436 6 rfl) rfl
theorem dX5_count_55 : decode cX5_count 55 = .ok (.ireturn, 1) := dq_172 (dq_w dwc_436 7 rfl)
theorem dX5_count_56 : decode cX5_count 56 = .ok (.aload_n 0, 1) := dq_42 (dq_w dwc_436 8 rfl)
theorem dX5_count_57 : decode cX5_count 57 = .ok (.getfield 12, 3) := dq_180 (dq_w dwc_436 9 rfl) (dq_w dwc_436 10 rfl) (dq_w dwc_436 11 rfl) rfl
theorem dX5_count_60 : decode cX5_count 60 = .ok (.getfield 158, 3) := dq_180 (dq_w dwc_436 12 rfl) (dq_w dwc_436 13 rfl) (dq_w dwc_436 14 rfl) rfl
theorem dX5_count_63 : decode cX5_count 63 = .ok (.ireturn, 1) := dq_172 (dq_w dwc_436 15 rfl)
theorem dX5_count_64 : decode cX5_count 64 = .ok (.aload_n 0, 1) := dq_42 (dq_w dwc_437 0 rfl)
theorem dX5_count_65 : decode cX5_count 65 = .ok (.getfield 12, 3) := dq_180 (dq_w dwc_437 1 rfl) (dq_w dwc_437 2 rfl) (dq_w dwc_437 3 rfl) rfl
theorem dX5_count_68 : decode cX5_count 68 = .ok (.getfield 180, 3) := dq_180 (dq_w dwc_437 4 rfl) (dq_w dwc_437 5 rfl) (dq_w dwc_437 6 rfl) rfl
theorem dX5_count_71 : decode cX5_count 71 = .ok (.ireturn, 1) := dq_172 (dq_w dwc_437 7 rfl)
theorem dX5_count_72 : decode cX5_count 72 = .ok (.aload_n 0, 1) := dq_42 (dq_w dwc_437 8 rfl)
theorem dX5_count_73 : decode cX5_count 73 = .ok (.getfield 12, 3) := dq_180 (dq_w dwc_437 9 rfl) (dq_w dwc_437 10 rfl) (dq_w dwc_437 11 rfl) rfl
theorem dX5_count_76 : decode cX5_count 76 = .ok (.iconst 0, 1) := dq_3 (dq_w dwc_437 12 rfl)
theorem dX5_count_77 : decode cX5_count 77 = .ok (.invokevirtual 186, 3) := dq_182 (dq_w dwc_437 13 rfl) (dq_w dwc_437 14 rfl) (dq_w dwc_437 15 rfl) rfl
theorem dX5_count_80 : decode cX5_count 80 = .ok (.ireturn, 1) := dq_172 (dq_w dwc_438 0 rfl)
theorem dX5_count_81 : decode cX5_count 81 = .ok (.aload_n 0, 1) := dq_42 (dq_w dwc_438 1 rfl)
theorem dX5_count_82 : decode cX5_count 82 = .ok (.getfield 12, 3) := dq_180 (dq_w dwc_438 2 rfl) (dq_w dwc_438 3 rfl) (dq_w dwc_438 4 rfl) rfl
theorem dX5_count_85 : decode cX5_count 85 = .ok (.iconst 0, 1) := dq_3 (dq_w dwc_438 5 rfl)
theorem dX5_count_86 : decode cX5_count 86 = .ok (.invokevirtual 198, 3) := dq_182 (dq_w dwc_438 6 rfl) (dq_w dwc_438 7 rfl) (dq_w dwc_438 8 rfl) rfl
theorem dX5_count_89 : decode cX5_count 89 = .ok (.ireturn, 1) := dq_172 (dq_w dwc_438 9 rfl)
theorem dX5_count_90 : decode cX5_count 90 = .ok (.aload_n 0, 1) := dq_42 (dq_w dwc_438 10 rfl)
theorem dX5_count_91 : decode cX5_count 91 = .ok (.getfield 36, 3) := dq_180 (dq_w dwc_438 11 rfl) (dq_w dwc_438 12 rfl) (dq_w dwc_438 13 rfl) rfl
theorem dX5_count_94 : decode cX5_count 94 = .ok (.getfield 299, 3) := dq_180 (dq_w dwc_438 14 rfl) (dq_w dwc_438 15 rfl) (dq_w dwc_439 0 rfl) rfl
theorem dX5_count_97 : decode cX5_count 97 = .ok (.ireturn, 1) := dq_172 (dq_w dwc_439 1 rfl)
theorem dX5_count_98 : decode cX5_count 98 = .ok (.aload_n 0, 1) := dq_42 (dq_w dwc_439 2 rfl)
theorem dX5_count_99 : decode cX5_count 99 = .ok (.getfield 58, 3) := dq_180 (dq_w dwc_439 3 rfl) (dq_w dwc_439 4 rfl) (dq_w dwc_439 5 rfl) rfl
theorem dX5_count_102 : decode cX5_count 102 = .ok (.ireturn, 1) := dq_172 (dq_w dwc_439 6 rfl)
theorem dX5_count_103 : decode cX5_count 103 = .ok (.aload_n 0, 1) := dq_42 (dq_w dwc_439 7 rfl)
theorem dX5_count_104 : decode cX5_count 104 = .ok (.getfield 29, 3) := dq_180 (dq_w dwc_439 8 rfl) (dq_w dwc_439 9 rfl) (dq_w dwc_439 10 rfl) rfl
theorem dX5_count_107 : decode cX5_count 107 = .ok (.getfield 189, 3) := dq_180 (dq_w dwc_439 11 rfl) (dq_w dwc_439 12 rfl) (dq_w dwc_439 13 rfl) rfl
theorem dX5_count_110 : decode cX5_count 110 = .ok (.ireturn, 1) := dq_172 (dq_w dwc_439 14 rfl)
theorem dX5_count_111 : decode cX5_count 111 = .ok (.iload_n 1, 1) := dq_27 (dq_w dwc_439 15 rfl)
theorem dX5_count_112 : decode cX5_count 112 = .ok (.bipush 11, 2) := dq_16 (dq_w dwc_440 0 rfl) (dq_w dwc_440 1 rfl) rfl
theorem dX5_count_114 : decode cX5_count 114 = .ok (.if_icmp .lt 21, 3) := dq_161 (dq_w dwc_440 2 rfl) (dq_w dwc_440 3 rfl) (dq_w dwc_440 4 rfl) (dq_p (n := 21) rfl rfl)
theorem dX5_count_117 : decode cX5_count 117 = .ok (.iload_n 1, 1) := dq_27 (dq_w dwc_440 5 rfl)
theorem dX5_count_118 : decode cX5_count 118 = .ok (.bipush 16, 2) := dq_16 (dq_w dwc_440 6 rfl) (dq_w dwc_440 7 rfl) rfl
theorem dX5_count_120 : decode cX5_count 120 = .ok (.if_icmp .gt 15, 3) := dq_163 (dq_w dwc_440 8 rfl) (dq_w dwc_440 9 rfl) (dq_w dwc_440 10 rfl) (dq_p (n := 15) rfl rfl)
theorem dX5_count_123 : decode cX5_count 123 = .ok (.aload_n 0, 1) := dq_42 (dq_w dwc_440 11 rfl)
theorem dX5_count_124 : decode cX5_count 124 = .ok (.getfield 62, 3) := dq_180 (dq_w dwc_440 12 rfl) (dq_w dwc_440 13 rfl) (dq_w dwc_440 14 rfl) rfl
theorem dX5_count_127 : decode cX5_count 127 = .ok (.iload_n 1, 1) := dq_27 (dq_w dwc_440 15 rfl)
theorem dX5_count_128 : decode cX5_count 128 = .ok (.bipush 10, 2) := dq_16 (dq_w dwc_441 0 rfl) (dq_w dwc_441 1 rfl) rfl
theorem dX5_count_130 : decode cX5_count 130 = .ok (.isub, 1) := dq_100 (dq_w dwc_441 2 rfl)
theorem dX5_count_131 : decode cX5_count 131 = .ok (.iaload, 1) := dq_46 (dq_w dwc_441 3 rfl)
theorem dX5_count_132 : decode cX5_count 132 = .ok (.goto 5, 3) := dq_167 (dq_w dwc_441 4 rfl) (dq_w dwc_441 5 rfl) (dq_w dwc_441 6 rfl) (dq_p (n := 5) rfl rfl)
theorem dX5_count_135 : decode cX5_count 135 = .ok (.bipush (-9), 2) := dq_16 (dq_w dwc_441 7 rfl) (dq_w dwc_441 8 rfl) rfl
theorem dX5_count_137 : decode cX5_count 137 = .ok (.ireturn, 1) := dq_172 (dq_w dwc_441 9 rfl)
theorem dwc_442 : (cX5_refuse.data.toList.drop 0).take 16 = [42, 180, 0, 62, 27, 116, 92, 46, 4, 96, 79, 27, 172] := by decide +kernel
theorem dX5_refuse_0 : decode cX5_refuse 0 = .ok (.aload_n 0, 1) := dq_42 (dq_w dwc_442 0 rfl)
theorem dX5_refuse_1 : decode cX5_refuse 1 = .ok (.getfield 62, 3) := dq_180 (dq_w dwc_442 1 rfl) (dq_w dwc_442 2 rfl) (dq_w dwc_442 3 rfl) rfl
theorem dX5_refuse_4 : decode cX5_refuse 4 = .ok (.iload_n 1, 1) := dq_27 (dq_w dwc_442 4 rfl)
theorem dX5_refuse_5 : decode cX5_refuse 5 = .ok (.ineg, 1) := dq_116 (dq_w dwc_442 5 rfl)
theorem dX5_refuse_6 : decode cX5_refuse 6 = .ok (.dup2, 1) := dq_92 (dq_w dwc_442 6 rfl)
theorem dX5_refuse_7 : decode cX5_refuse 7 = .ok (.iaload, 1) := dq_46 (dq_w dwc_442 7 rfl)
theorem dX5_refuse_8 : decode cX5_refuse 8 = .ok (.iconst 1, 1) := dq_4 (dq_w dwc_442 8 rfl)
theorem dX5_refuse_9 : decode cX5_refuse 9 = .ok (.iadd, 1) := dq_96 (dq_w dwc_442 9 rfl)
theorem dX5_refuse_10 : decode cX5_refuse 10 = .ok (.iastore, 1) := dq_79 (dq_w dwc_442 10 rfl)
theorem dX5_refuse_11 : decode cX5_refuse 11 = .ok (.iload_n 1, 1) := dq_27 (dq_w dwc_442 11 rfl)
theorem dX5_refuse_12 : decode cX5_refuse 12 = .ok (.ireturn, 1) := dq_172 (dq_w dwc_442 12 rfl)
theorem dwc_443 : (cX5_refuseLong.data.toList.drop 0).take 16 = [20, 1, 44, 42, 27, 182, 0, 65, 133, 101, 173] := by decide +kernel
theorem dX5_refuseLong_0 : decode cX5_refuseLong 0 = .ok (.ldc2_w 300, 3) := dq_20 (dq_w dwc_443 0 rfl) (dq_w dwc_443 1 rfl) (dq_w dwc_443 2 rfl) rfl
theorem dX5_refuseLong_3 : decode cX5_refuseLong 3 = .ok (.aload_n 0, 1) := dq_42 (dq_w dwc_443 3 rfl)
theorem dX5_refuseLong_4 : decode cX5_refuseLong 4 = .ok (.iload_n 1, 1) := dq_27 (dq_w dwc_443 4 rfl)
theorem dX5_refuseLong_5 : decode cX5_refuseLong 5 = .ok (.invokevirtual 65, 3) := dq_182 (dq_w dwc_443 5 rfl) (dq_w dwc_443 6 rfl) (dq_w dwc_443 7 rfl) rfl
theorem dX5_refuseLong_8 : decode cX5_refuseLong 8 = .ok (.i2l, 1) := dq_133 (dq_w dwc_443 8 rfl)
theorem dX5_refuseLong_9 : decode cX5_refuseLong 9 = .ok (.lsub, 1) := dq_101 (dq_w dwc_443 9 rfl)
theorem dX5_refuseLong_10 : decode cX5_refuseLong 10 = .ok (.lreturn, 1) := dq_173 (dq_w dwc_443 10 rfl)
theorem dwc_444 : (cX5_mostOwed.data.toList.drop 0).take 16 = [16, 247, 60, 3, 61, 3, 62, 29, 42, 180, 0, 12, 180, 0, 148, 162] := by decide +kernel
theorem dwc_445 : (cX5_mostOwed.data.toList.drop 16).take 16 = [0, 34, 42, 180, 0, 12, 29, 3, 182, 0, 113, 184, 0, 239, 54, 4] := by decide +kernel
theorem dwc_446 : (cX5_mostOwed.data.toList.drop 32).take 16 = [21, 4, 28, 164, 0, 8, 21, 4, 61, 29, 60, 132, 3, 1, 167, 255] := by decide +kernel
theorem dwc_447 : (cX5_mostOwed.data.toList.drop 48).take 16 = [217, 27, 172] := by decide +kernel
theorem dX5_mostOwed_0 : decode cX5_mostOwed 0 = .ok (.bipush (-9), 2) := dq_16 (dq_w dwc_444 0 rfl) (dq_w dwc_444 1 rfl) rfl
theorem dX5_mostOwed_2 : decode cX5_mostOwed 2 = .ok (.istore_n 1, 1) := dq_60 (dq_w dwc_444 2 rfl)
theorem dX5_mostOwed_3 : decode cX5_mostOwed 3 = .ok (.iconst 0, 1) := dq_3 (dq_w dwc_444 3 rfl)
theorem dX5_mostOwed_4 : decode cX5_mostOwed 4 = .ok (.istore_n 2, 1) := dq_61 (dq_w dwc_444 4 rfl)
theorem dX5_mostOwed_5 : decode cX5_mostOwed 5 = .ok (.iconst 0, 1) := dq_3 (dq_w dwc_444 5 rfl)
theorem dX5_mostOwed_6 : decode cX5_mostOwed 6 = .ok (.istore_n 3, 1) := dq_62 (dq_w dwc_444 6 rfl)
theorem dX5_mostOwed_7 : decode cX5_mostOwed 7 = .ok (.iload_n 3, 1) := dq_29 (dq_w dwc_444 7 rfl)
theorem dX5_mostOwed_8 : decode cX5_mostOwed 8 = .ok (.aload_n 0, 1) := dq_42 (dq_w dwc_444 8 rfl)
theorem dX5_mostOwed_9 : decode cX5_mostOwed 9 = .ok (.getfield 12, 3) := dq_180 (dq_w dwc_444 9 rfl) (dq_w dwc_444 10 rfl) (dq_w dwc_444 11 rfl) rfl
theorem dX5_mostOwed_12 : decode cX5_mostOwed 12 = .ok (.getfield 148, 3) := dq_180 (dq_w dwc_444 12 rfl) (dq_w dwc_444 13 rfl) (dq_w dwc_444 14 rfl) rfl
theorem dX5_mostOwed_15 : decode cX5_mostOwed 15 = .ok (.if_icmp .ge 34, 3) := dq_162 (dq_w dwc_444 15 rfl) (dq_w dwc_445 0 rfl) (dq_w dwc_445 1 rfl) (dq_p (n := 34) rfl rfl)
theorem dX5_mostOwed_18 : decode cX5_mostOwed 18 = .ok (.aload_n 0, 1) := dq_42 (dq_w dwc_445 2 rfl)
theorem dX5_mostOwed_19 : decode cX5_mostOwed 19 = .ok (.getfield 12, 3) := dq_180 (dq_w dwc_445 3 rfl) (dq_w dwc_445 4 rfl) (dq_w dwc_445 5 rfl) rfl
theorem dX5_mostOwed_22 : decode cX5_mostOwed 22 = .ok (.iload_n 3, 1) := dq_29 (dq_w dwc_445 6 rfl)
theorem dX5_mostOwed_23 : decode cX5_mostOwed 23 = .ok (.iconst 0, 1) := dq_3 (dq_w dwc_445 7 rfl)
theorem dX5_mostOwed_24 : decode cX5_mostOwed 24 = .ok (.invokevirtual 113, 3) := dq_182 (dq_w dwc_445 8 rfl) (dq_w dwc_445 9 rfl) (dq_w dwc_445 10 rfl) rfl
theorem dX5_mostOwed_27 : decode cX5_mostOwed 27 = .ok (.invokestatic 239, 3) := dq_184 (dq_w dwc_445 11 rfl) (dq_w dwc_445 12 rfl) (dq_w dwc_445 13 rfl) rfl
theorem dX5_mostOwed_30 : decode cX5_mostOwed 30 = .ok (.istore 4, 2) := dq_54 (dq_w dwc_445 14 rfl) (dq_w dwc_445 15 rfl) rfl
theorem dX5_mostOwed_32 : decode cX5_mostOwed 32 = .ok (.iload 4, 2) := dq_21 (dq_w dwc_446 0 rfl) (dq_w dwc_446 1 rfl) rfl
theorem dX5_mostOwed_34 : decode cX5_mostOwed 34 = .ok (.iload_n 2, 1) := dq_28 (dq_w dwc_446 2 rfl)
theorem dX5_mostOwed_35 : decode cX5_mostOwed 35 = .ok (.if_icmp .le 8, 3) := dq_164 (dq_w dwc_446 3 rfl) (dq_w dwc_446 4 rfl) (dq_w dwc_446 5 rfl) (dq_p (n := 8) rfl rfl)
theorem dX5_mostOwed_38 : decode cX5_mostOwed 38 = .ok (.iload 4, 2) := dq_21 (dq_w dwc_446 6 rfl) (dq_w dwc_446 7 rfl) rfl
theorem dX5_mostOwed_40 : decode cX5_mostOwed 40 = .ok (.istore_n 2, 1) := dq_61 (dq_w dwc_446 8 rfl)
theorem dX5_mostOwed_41 : decode cX5_mostOwed 41 = .ok (.iload_n 3, 1) := dq_29 (dq_w dwc_446 9 rfl)
theorem dX5_mostOwed_42 : decode cX5_mostOwed 42 = .ok (.istore_n 1, 1) := dq_60 (dq_w dwc_446 10 rfl)
theorem dX5_mostOwed_43 : decode cX5_mostOwed 43 = .ok (.iinc 3 1, 3) := dq_132 (dq_w dwc_446 11 rfl) (dq_w dwc_446 12 rfl) rfl (dq_w dwc_446 13 rfl) rfl
theorem dX5_mostOwed_46 : decode cX5_mostOwed 46 = .ok (.goto (-39), 3) := dq_167 (dq_w dwc_446 14 rfl) (dq_w dwc_446 15 rfl) (dq_w dwc_447 0 rfl) (dq_n (m := 39) rfl rfl)
theorem dX5_mostOwed_49 : decode cX5_mostOwed 49 = .ok (.iload_n 1, 1) := dq_27 (dq_w dwc_447 1 rfl)
theorem dX5_mostOwed_50 : decode cX5_mostOwed 50 = .ok (.ireturn, 1) := dq_172 (dq_w dwc_447 2 rfl)
theorem dwc_448 : (cX5_debtor.data.toList.drop 0).take 16 = [16, 247, 60, 3, 61, 3, 62, 29, 42, 180, 0, 12, 180, 0, 158, 162] := by decide +kernel
theorem dwc_449 : (cX5_debtor.data.toList.drop 16).take 16 = [0, 31, 42, 180, 0, 12, 29, 3, 182, 0, 137, 54, 4, 21, 4, 28] := by decide +kernel
theorem dwc_450 : (cX5_debtor.data.toList.drop 32).take 16 = [164, 0, 8, 21, 4, 61, 29, 60, 132, 3, 1, 167, 255, 220, 27, 172] := by decide +kernel
theorem dX5_debtor_0 : decode cX5_debtor 0 = .ok (.bipush (-9), 2) := dq_16 (dq_w dwc_448 0 rfl) (dq_w dwc_448 1 rfl) rfl
theorem dX5_debtor_2 : decode cX5_debtor 2 = .ok (.istore_n 1, 1) := dq_60 (dq_w dwc_448 2 rfl)
theorem dX5_debtor_3 : decode cX5_debtor 3 = .ok (.iconst 0, 1) := dq_3 (dq_w dwc_448 3 rfl)
theorem dX5_debtor_4 : decode cX5_debtor 4 = .ok (.istore_n 2, 1) := dq_61 (dq_w dwc_448 4 rfl)
theorem dX5_debtor_5 : decode cX5_debtor 5 = .ok (.iconst 0, 1) := dq_3 (dq_w dwc_448 5 rfl)
theorem dX5_debtor_6 : decode cX5_debtor 6 = .ok (.istore_n 3, 1) := dq_62 (dq_w dwc_448 6 rfl)
theorem dX5_debtor_7 : decode cX5_debtor 7 = .ok (.iload_n 3, 1) := dq_29 (dq_w dwc_448 7 rfl)
theorem dX5_debtor_8 : decode cX5_debtor 8 = .ok (.aload_n 0, 1) := dq_42 (dq_w dwc_448 8 rfl)
theorem dX5_debtor_9 : decode cX5_debtor 9 = .ok (.getfield 12, 3) := dq_180 (dq_w dwc_448 9 rfl) (dq_w dwc_448 10 rfl) (dq_w dwc_448 11 rfl) rfl
theorem dX5_debtor_12 : decode cX5_debtor 12 = .ok (.getfield 158, 3) := dq_180 (dq_w dwc_448 12 rfl) (dq_w dwc_448 13 rfl) (dq_w dwc_448 14 rfl) rfl
theorem dX5_debtor_15 : decode cX5_debtor 15 = .ok (.if_icmp .ge 31, 3) := dq_162 (dq_w dwc_448 15 rfl) (dq_w dwc_449 0 rfl) (dq_w dwc_449 1 rfl) (dq_p (n := 31) rfl rfl)
theorem dX5_debtor_18 : decode cX5_debtor 18 = .ok (.aload_n 0, 1) := dq_42 (dq_w dwc_449 2 rfl)
theorem dX5_debtor_19 : decode cX5_debtor 19 = .ok (.getfield 12, 3) := dq_180 (dq_w dwc_449 3 rfl) (dq_w dwc_449 4 rfl) (dq_w dwc_449 5 rfl) rfl
theorem dX5_debtor_22 : decode cX5_debtor 22 = .ok (.iload_n 3, 1) := dq_29 (dq_w dwc_449 6 rfl)
theorem dX5_debtor_23 : decode cX5_debtor 23 = .ok (.iconst 0, 1) := dq_3 (dq_w dwc_449 7 rfl)
theorem dX5_debtor_24 : decode cX5_debtor 24 = .ok (.invokevirtual 137, 3) := dq_182 (dq_w dwc_449 8 rfl) (dq_w dwc_449 9 rfl) (dq_w dwc_449 10 rfl) rfl
theorem dX5_debtor_27 : decode cX5_debtor 27 = .ok (.istore 4, 2) := dq_54 (dq_w dwc_449 11 rfl) (dq_w dwc_449 12 rfl) rfl
theorem dX5_debtor_29 : decode cX5_debtor 29 = .ok (.iload 4, 2) := dq_21 (dq_w dwc_449 13 rfl) (dq_w dwc_449 14 rfl) rfl
theorem dX5_debtor_31 : decode cX5_debtor 31 = .ok (.iload_n 2, 1) := dq_28 (dq_w dwc_449 15 rfl)
theorem dX5_debtor_32 : decode cX5_debtor 32 = .ok (.if_icmp .le 8, 3) := dq_164 (dq_w dwc_450 0 rfl) (dq_w dwc_450 1 rfl) (dq_w dwc_450 2 rfl) (dq_p (n := 8) rfl rfl)
theorem dX5_debtor_35 : decode cX5_debtor 35 = .ok (.iload 4, 2) := dq_21 (dq_w dwc_450 3 rfl) (dq_w dwc_450 4 rfl) rfl
theorem dX5_debtor_37 : decode cX5_debtor 37 = .ok (.istore_n 2, 1) := dq_61 (dq_w dwc_450 5 rfl)
theorem dX5_debtor_38 : decode cX5_debtor 38 = .ok (.iload_n 3, 1) := dq_29 (dq_w dwc_450 6 rfl)
theorem dX5_debtor_39 : decode cX5_debtor 39 = .ok (.istore_n 1, 1) := dq_60 (dq_w dwc_450 7 rfl)
theorem dX5_debtor_40 : decode cX5_debtor 40 = .ok (.iinc 3 1, 3) := dq_132 (dq_w dwc_450 8 rfl) (dq_w dwc_450 9 rfl) rfl (dq_w dwc_450 10 rfl) rfl
theorem dX5_debtor_43 : decode cX5_debtor 43 = .ok (.goto (-36), 3) := dq_167 (dq_w dwc_450 11 rfl) (dq_w dwc_450 12 rfl) (dq_w dwc_450 13 rfl) (dq_n (m := 36) rfl rfl)
theorem dX5_debtor_46 : decode cX5_debtor 46 = .ok (.iload_n 1, 1) := dq_27 (dq_w dwc_450 14 rfl)
theorem dX5_debtor_47 : decode cX5_debtor 47 = .ok (.ireturn, 1) := dq_172 (dq_w dwc_450 15 rfl)
theorem dwc_451 : (cX5_debtless.data.toList.drop 0).take 16 = [3, 60, 3, 61, 28, 42, 180, 0, 12, 180, 0, 158, 162, 0, 27, 42] := by decide +kernel
theorem dwc_452 : (cX5_debtless.data.toList.drop 16).take 16 = [180, 0, 12, 28, 3, 182, 0, 131, 154, 0, 9, 27, 4, 28, 120, 128] := by decide +kernel
theorem dwc_453 : (cX5_debtless.data.toList.drop 32).take 16 = [60, 132, 2, 1, 167, 255, 224, 27, 172] := by decide +kernel
theorem dX5_debtless_0 : decode cX5_debtless 0 = .ok (.iconst 0, 1) := dq_3 (dq_w dwc_451 0 rfl)
theorem dX5_debtless_1 : decode cX5_debtless 1 = .ok (.istore_n 1, 1) := dq_60 (dq_w dwc_451 1 rfl)
theorem dX5_debtless_2 : decode cX5_debtless 2 = .ok (.iconst 0, 1) := dq_3 (dq_w dwc_451 2 rfl)
theorem dX5_debtless_3 : decode cX5_debtless 3 = .ok (.istore_n 2, 1) := dq_61 (dq_w dwc_451 3 rfl)
theorem dX5_debtless_4 : decode cX5_debtless 4 = .ok (.iload_n 2, 1) := dq_28 (dq_w dwc_451 4 rfl)
theorem dX5_debtless_5 : decode cX5_debtless 5 = .ok (.aload_n 0, 1) := dq_42 (dq_w dwc_451 5 rfl)
theorem dX5_debtless_6 : decode cX5_debtless 6 = .ok (.getfield 12, 3) := dq_180 (dq_w dwc_451 6 rfl) (dq_w dwc_451 7 rfl) (dq_w dwc_451 8 rfl) rfl
theorem dX5_debtless_9 : decode cX5_debtless 9 = .ok (.getfield 158, 3) := dq_180 (dq_w dwc_451 9 rfl) (dq_w dwc_451 10 rfl) (dq_w dwc_451 11 rfl) rfl
theorem dX5_debtless_12 : decode cX5_debtless 12 = .ok (.if_icmp .ge 27, 3) := dq_162 (dq_w dwc_451 12 rfl) (dq_w dwc_451 13 rfl) (dq_w dwc_451 14 rfl) (dq_p (n := 27) rfl rfl)
theorem dX5_debtless_15 : decode cX5_debtless 15 = .ok (.aload_n 0, 1) := dq_42 (dq_w dwc_451 15 rfl)
theorem dX5_debtless_16 : decode cX5_debtless 16 = .ok (.getfield 12, 3) := dq_180 (dq_w dwc_452 0 rfl) (dq_w dwc_452 1 rfl) (dq_w dwc_452 2 rfl) rfl
theorem dX5_debtless_19 : decode cX5_debtless 19 = .ok (.iload_n 2, 1) := dq_28 (dq_w dwc_452 3 rfl)
theorem dX5_debtless_20 : decode cX5_debtless 20 = .ok (.iconst 0, 1) := dq_3 (dq_w dwc_452 4 rfl)
theorem dX5_debtless_21 : decode cX5_debtless 21 = .ok (.invokevirtual 131, 3) := dq_182 (dq_w dwc_452 5 rfl) (dq_w dwc_452 6 rfl) (dq_w dwc_452 7 rfl) rfl
theorem dX5_debtless_24 : decode cX5_debtless 24 = .ok (.ifCond .ne 9, 3) := dq_154 (dq_w dwc_452 8 rfl) (dq_w dwc_452 9 rfl) (dq_w dwc_452 10 rfl) (dq_p (n := 9) rfl rfl)
theorem dX5_debtless_27 : decode cX5_debtless 27 = .ok (.iload_n 1, 1) := dq_27 (dq_w dwc_452 11 rfl)
theorem dX5_debtless_28 : decode cX5_debtless 28 = .ok (.iconst 1, 1) := dq_4 (dq_w dwc_452 12 rfl)
theorem dX5_debtless_29 : decode cX5_debtless 29 = .ok (.iload_n 2, 1) := dq_28 (dq_w dwc_452 13 rfl)
theorem dX5_debtless_30 : decode cX5_debtless 30 = .ok (.ishl, 1) := dq_120 (dq_w dwc_452 14 rfl)
theorem dX5_debtless_31 : decode cX5_debtless 31 = .ok (.ior, 1) := dq_128 (dq_w dwc_452 15 rfl)
theorem dX5_debtless_32 : decode cX5_debtless 32 = .ok (.istore_n 1, 1) := dq_60 (dq_w dwc_453 0 rfl)
theorem dX5_debtless_33 : decode cX5_debtless 33 = .ok (.iinc 2 1, 3) := dq_132 (dq_w dwc_453 1 rfl) (dq_w dwc_453 2 rfl) rfl (dq_w dwc_453 3 rfl) rfl
theorem dX5_debtless_36 : decode cX5_debtless 36 = .ok (.goto (-32), 3) := dq_167 (dq_w dwc_453 4 rfl) (dq_w dwc_453 5 rfl) (dq_w dwc_453 6 rfl) (dq_n (m := 32) rfl rfl)
theorem dX5_debtless_39 : decode cX5_debtless 39 = .ok (.iload_n 1, 1) := dq_27 (dq_w dwc_453 7 rfl)
theorem dX5_debtless_40 : decode cX5_debtless 40 = .ok (.ireturn, 1) := dq_172 (dq_w dwc_453 8 rfl)
theorem dwc_454 : (cX5_owedByOne.data.toList.drop 0).take 16 = [3, 60, 3, 61, 28, 42, 180, 0, 12, 180, 0, 148, 162, 0, 31, 42] := by decide +kernel
theorem dwc_455 : (cX5_owedByOne.data.toList.drop 16).take 16 = [180, 0, 12, 28, 3, 182, 0, 113, 184, 0, 239, 4, 160, 0, 9, 27] := by decide +kernel
theorem dwc_456 : (cX5_owedByOne.data.toList.drop 32).take 16 = [4, 28, 120, 128, 60, 132, 2, 1, 167, 255, 220, 27, 172] := by decide +kernel
theorem dX5_owedByOne_0 : decode cX5_owedByOne 0 = .ok (.iconst 0, 1) := dq_3 (dq_w dwc_454 0 rfl)
theorem dX5_owedByOne_1 : decode cX5_owedByOne 1 = .ok (.istore_n 1, 1) := dq_60 (dq_w dwc_454 1 rfl)
theorem dX5_owedByOne_2 : decode cX5_owedByOne 2 = .ok (.iconst 0, 1) := dq_3 (dq_w dwc_454 2 rfl)
theorem dX5_owedByOne_3 : decode cX5_owedByOne 3 = .ok (.istore_n 2, 1) := dq_61 (dq_w dwc_454 3 rfl)
theorem dX5_owedByOne_4 : decode cX5_owedByOne 4 = .ok (.iload_n 2, 1) := dq_28 (dq_w dwc_454 4 rfl)
theorem dX5_owedByOne_5 : decode cX5_owedByOne 5 = .ok (.aload_n 0, 1) := dq_42 (dq_w dwc_454 5 rfl)
theorem dX5_owedByOne_6 : decode cX5_owedByOne 6 = .ok (.getfield 12, 3) := dq_180 (dq_w dwc_454 6 rfl) (dq_w dwc_454 7 rfl) (dq_w dwc_454 8 rfl) rfl
theorem dX5_owedByOne_9 : decode cX5_owedByOne 9 = .ok (.getfield 148, 3) := dq_180 (dq_w dwc_454 9 rfl) (dq_w dwc_454 10 rfl) (dq_w dwc_454 11 rfl) rfl
theorem dX5_owedByOne_12 : decode cX5_owedByOne 12 = .ok (.if_icmp .ge 31, 3) := dq_162 (dq_w dwc_454 12 rfl) (dq_w dwc_454 13 rfl) (dq_w dwc_454 14 rfl) (dq_p (n := 31) rfl rfl)
theorem dX5_owedByOne_15 : decode cX5_owedByOne 15 = .ok (.aload_n 0, 1) := dq_42 (dq_w dwc_454 15 rfl)
theorem dX5_owedByOne_16 : decode cX5_owedByOne 16 = .ok (.getfield 12, 3) := dq_180 (dq_w dwc_455 0 rfl) (dq_w dwc_455 1 rfl) (dq_w dwc_455 2 rfl) rfl
theorem dX5_owedByOne_19 : decode cX5_owedByOne 19 = .ok (.iload_n 2, 1) := dq_28 (dq_w dwc_455 3 rfl)
theorem dX5_owedByOne_20 : decode cX5_owedByOne 20 = .ok (.iconst 0, 1) := dq_3 (dq_w dwc_455 4 rfl)
theorem dX5_owedByOne_21 : decode cX5_owedByOne 21 = .ok (.invokevirtual 113, 3) := dq_182 (dq_w dwc_455 5 rfl) (dq_w dwc_455 6 rfl) (dq_w dwc_455 7 rfl) rfl
theorem dX5_owedByOne_24 : decode cX5_owedByOne 24 = .ok (.invokestatic 239, 3) := dq_184 (dq_w dwc_455 8 rfl) (dq_w dwc_455 9 rfl) (dq_w dwc_455 10 rfl) rfl
theorem dX5_owedByOne_27 : decode cX5_owedByOne 27 = .ok (.iconst 1, 1) := dq_4 (dq_w dwc_455 11 rfl)
theorem dX5_owedByOne_28 : decode cX5_owedByOne 28 = .ok (.if_icmp .ne 9, 3) := dq_160 (dq_w dwc_455 12 rfl) (dq_w dwc_455 13 rfl) (dq_w dwc_455 14 rfl) (dq_p (n := 9) rfl rfl)
theorem dX5_owedByOne_31 : decode cX5_owedByOne 31 = .ok (.iload_n 1, 1) := dq_27 (dq_w dwc_455 15 rfl)
theorem dX5_owedByOne_32 : decode cX5_owedByOne 32 = .ok (.iconst 1, 1) := dq_4 (dq_w dwc_456 0 rfl)
theorem dX5_owedByOne_33 : decode cX5_owedByOne 33 = .ok (.iload_n 2, 1) := dq_28 (dq_w dwc_456 1 rfl)
theorem dX5_owedByOne_34 : decode cX5_owedByOne 34 = .ok (.ishl, 1) := dq_120 (dq_w dwc_456 2 rfl)
theorem dX5_owedByOne_35 : decode cX5_owedByOne 35 = .ok (.ior, 1) := dq_128 (dq_w dwc_456 3 rfl)
theorem dX5_owedByOne_36 : decode cX5_owedByOne 36 = .ok (.istore_n 1, 1) := dq_60 (dq_w dwc_456 4 rfl)
theorem dX5_owedByOne_37 : decode cX5_owedByOne 37 = .ok (.iinc 2 1, 3) := dq_132 (dq_w dwc_456 5 rfl) (dq_w dwc_456 6 rfl) rfl (dq_w dwc_456 7 rfl) rfl
theorem dX5_owedByOne_40 : decode cX5_owedByOne 40 = .ok (.goto (-36), 3) := dq_167 (dq_w dwc_456 8 rfl) (dq_w dwc_456 9 rfl) (dq_w dwc_456 10 rfl) (dq_n (m := 36) rfl rfl)
theorem dX5_owedByOne_43 : decode cX5_owedByOne 43 = .ok (.iload_n 1, 1) := dq_27 (dq_w dwc_456 11 rfl)
theorem dX5_owedByOne_44 : decode cX5_owedByOne 44 = .ok (.ireturn, 1) := dq_172 (dq_w dwc_456 12 rfl)
theorem dwc_457 : (cX5_fittingKinds.data.toList.drop 0).take 16 = [3, 62, 42, 180, 0, 16, 42, 180, 0, 12, 182, 0, 76, 3, 54, 4] := by decide +kernel
theorem dwc_458 : (cX5_fittingKinds.data.toList.drop 16).take 16 = [21, 4, 16, 6, 162, 0, 36, 42, 180, 0, 16, 180, 0, 94, 28, 21] := by decide +kernel
theorem dwc_459 : (cX5_fittingKinds.data.toList.drop 32).take 16 = [4, 79, 42, 27, 28, 182, 1, 46, 153, 0, 10, 29, 4, 21, 4, 120] := by decide +kernel
theorem dwc_460 : (cX5_fittingKinds.data.toList.drop 48).take 16 = [128, 62, 132, 4, 1, 167, 255, 219, 29, 172] := by decide +kernel
theorem dX5_fittingKinds_0 : decode cX5_fittingKinds 0 = .ok (.iconst 0, 1) := dq_3 (dq_w dwc_457 0 rfl)
theorem dX5_fittingKinds_1 : decode cX5_fittingKinds 1 = .ok (.istore_n 3, 1) := dq_62 (dq_w dwc_457 1 rfl)
theorem dX5_fittingKinds_2 : decode cX5_fittingKinds 2 = .ok (.aload_n 0, 1) := dq_42 (dq_w dwc_457 2 rfl)
theorem dX5_fittingKinds_3 : decode cX5_fittingKinds 3 = .ok (.getfield 16, 3) := dq_180 (dq_w dwc_457 3 rfl) (dq_w dwc_457 4 rfl) (dq_w dwc_457 5 rfl) rfl
theorem dX5_fittingKinds_6 : decode cX5_fittingKinds 6 = .ok (.aload_n 0, 1) := dq_42 (dq_w dwc_457 6 rfl)
theorem dX5_fittingKinds_7 : decode cX5_fittingKinds 7 = .ok (.getfield 12, 3) := dq_180 (dq_w dwc_457 7 rfl) (dq_w dwc_457 8 rfl) (dq_w dwc_457 9 rfl) rfl
theorem dX5_fittingKinds_10 : decode cX5_fittingKinds 10 = .ok (.invokevirtual 76, 3) := dq_182 (dq_w dwc_457 10 rfl) (dq_w dwc_457 11 rfl) (dq_w dwc_457 12 rfl) rfl
theorem dX5_fittingKinds_13 : decode cX5_fittingKinds 13 = .ok (.iconst 0, 1) := dq_3 (dq_w dwc_457 13 rfl)
theorem dX5_fittingKinds_14 : decode cX5_fittingKinds 14 = .ok (.istore 4, 2) := dq_54 (dq_w dwc_457 14 rfl) (dq_w dwc_457 15 rfl) rfl
theorem dX5_fittingKinds_16 : decode cX5_fittingKinds 16 = .ok (.iload 4, 2) := dq_21 (dq_w dwc_458 0 rfl) (dq_w dwc_458 1 rfl) rfl
theorem dX5_fittingKinds_18 : decode cX5_fittingKinds 18 = .ok (.bipush 6, 2) := dq_16 (dq_w dwc_458 2 rfl) (dq_w dwc_458 3 rfl) rfl
theorem dX5_fittingKinds_20 : decode cX5_fittingKinds 20 = .ok (.if_icmp .ge 36, 3) := dq_162 (dq_w dwc_458 4 rfl) (dq_w dwc_458 5 rfl) (dq_w dwc_458 6 rfl) (dq_p (n := 36) rfl rfl)
theorem dX5_fittingKinds_23 : decode cX5_fittingKinds 23 = .ok (.aload_n 0, 1) := dq_42 (dq_w dwc_458 7 rfl)
theorem dX5_fittingKinds_24 : decode cX5_fittingKinds 24 = .ok (.getfield 16, 3) := dq_180 (dq_w dwc_458 8 rfl) (dq_w dwc_458 9 rfl) (dq_w dwc_458 10 rfl) rfl
theorem dX5_fittingKinds_27 : decode cX5_fittingKinds 27 = .ok (.getfield 94, 3) := dq_180 (dq_w dwc_458 11 rfl) (dq_w dwc_458 12 rfl) (dq_w dwc_458 13 rfl) rfl
theorem dX5_fittingKinds_30 : decode cX5_fittingKinds 30 = .ok (.iload_n 2, 1) := dq_28 (dq_w dwc_458 14 rfl)
theorem dX5_fittingKinds_31 : decode cX5_fittingKinds 31 = .ok (.iload 4, 2) := dq_21 (dq_w dwc_458 15 rfl) (dq_w dwc_459 0 rfl) rfl
theorem dX5_fittingKinds_33 : decode cX5_fittingKinds 33 = .ok (.iastore, 1) := dq_79 (dq_w dwc_459 1 rfl)
theorem dX5_fittingKinds_34 : decode cX5_fittingKinds 34 = .ok (.aload_n 0, 1) := dq_42 (dq_w dwc_459 2 rfl)
theorem dX5_fittingKinds_35 : decode cX5_fittingKinds 35 = .ok (.iload_n 1, 1) := dq_27 (dq_w dwc_459 3 rfl)
theorem dX5_fittingKinds_36 : decode cX5_fittingKinds 36 = .ok (.iload_n 2, 1) := dq_28 (dq_w dwc_459 4 rfl)
theorem dX5_fittingKinds_37 : decode cX5_fittingKinds 37 = .ok (.invokevirtual 302, 3) := dq_182 (dq_w dwc_459 5 rfl) (dq_w dwc_459 6 rfl) (dq_w dwc_459 7 rfl) rfl
theorem dX5_fittingKinds_40 : decode cX5_fittingKinds 40 = .ok (.ifCond .eq 10, 3) := dq_153 (dq_w dwc_459 8 rfl) (dq_w dwc_459 9 rfl) (dq_w dwc_459 10 rfl) (dq_p (n := 10) rfl rfl)
theorem dX5_fittingKinds_43 : decode cX5_fittingKinds 43 = .ok (.iload_n 3, 1) := dq_29 (dq_w dwc_459 11 rfl)
theorem dX5_fittingKinds_44 : decode cX5_fittingKinds 44 = .ok (.iconst 1, 1) := dq_4 (dq_w dwc_459 12 rfl)
theorem dX5_fittingKinds_45 : decode cX5_fittingKinds 45 = .ok (.iload 4, 2) := dq_21 (dq_w dwc_459 13 rfl) (dq_w dwc_459 14 rfl) rfl
theorem dX5_fittingKinds_47 : decode cX5_fittingKinds 47 = .ok (.ishl, 1) := dq_120 (dq_w dwc_459 15 rfl)
theorem dX5_fittingKinds_48 : decode cX5_fittingKinds 48 = .ok (.ior, 1) := dq_128 (dq_w dwc_460 0 rfl)
theorem dX5_fittingKinds_49 : decode cX5_fittingKinds 49 = .ok (.istore_n 3, 1) := dq_62 (dq_w dwc_460 1 rfl)
theorem dX5_fittingKinds_50 : decode cX5_fittingKinds 50 = .ok (.iinc 4 1, 3) := dq_132 (dq_w dwc_460 2 rfl) (dq_w dwc_460 3 rfl) rfl (dq_w dwc_460 4 rfl) rfl
theorem dX5_fittingKinds_53 : decode cX5_fittingKinds 53 = .ok (.goto (-37), 3) := dq_167 (dq_w dwc_460 5 rfl) (dq_w dwc_460 6 rfl) (dq_w dwc_460 7 rfl) (dq_n (m := 37) rfl rfl)
theorem dX5_fittingKinds_56 : decode cX5_fittingKinds 56 = .ok (.iload_n 3, 1) := dq_29 (dq_w dwc_460 8 rfl)
theorem dX5_fittingKinds_57 : decode cX5_fittingKinds 57 = .ok (.ireturn, 1) := dq_172 (dq_w dwc_460 9 rfl)
theorem dwc_461 : (cX5_fittingFigures.data.toList.drop 0).take 16 = [3, 62, 42, 180, 0, 16, 42, 180, 0, 12, 182, 0, 76, 3, 54, 4] := by decide +kernel
theorem dwc_462 : (cX5_fittingFigures.data.toList.drop 16).take 16 = [21, 4, 16, 10, 162, 0, 36, 42, 180, 0, 16, 180, 0, 97, 28, 21] := by decide +kernel
theorem dwc_463 : (cX5_fittingFigures.data.toList.drop 32).take 16 = [4, 79, 42, 27, 28, 182, 1, 46, 153, 0, 10, 29, 4, 21, 4, 120] := by decide +kernel
theorem dwc_464 : (cX5_fittingFigures.data.toList.drop 48).take 16 = [128, 62, 132, 4, 1, 167, 255, 219, 29, 172] := by decide +kernel
theorem dX5_fittingFigures_0 : decode cX5_fittingFigures 0 = .ok (.iconst 0, 1) := dq_3 (dq_w dwc_461 0 rfl)
theorem dX5_fittingFigures_1 : decode cX5_fittingFigures 1 = .ok (.istore_n 3, 1) := dq_62 (dq_w dwc_461 1 rfl)
theorem dX5_fittingFigures_2 : decode cX5_fittingFigures 2 = .ok (.aload_n 0, 1) := dq_42 (dq_w dwc_461 2 rfl)
theorem dX5_fittingFigures_3 : decode cX5_fittingFigures 3 = .ok (.getfield 16, 3) := dq_180 (dq_w dwc_461 3 rfl) (dq_w dwc_461 4 rfl) (dq_w dwc_461 5 rfl) rfl
theorem dX5_fittingFigures_6 : decode cX5_fittingFigures 6 = .ok (.aload_n 0, 1) := dq_42 (dq_w dwc_461 6 rfl)
theorem dX5_fittingFigures_7 : decode cX5_fittingFigures 7 = .ok (.getfield 12, 3) := dq_180 (dq_w dwc_461 7 rfl) (dq_w dwc_461 8 rfl) (dq_w dwc_461 9 rfl) rfl
theorem dX5_fittingFigures_10 : decode cX5_fittingFigures 10 = .ok (.invokevirtual 76, 3) := dq_182 (dq_w dwc_461 10 rfl) (dq_w dwc_461 11 rfl) (dq_w dwc_461 12 rfl) rfl
theorem dX5_fittingFigures_13 : decode cX5_fittingFigures 13 = .ok (.iconst 0, 1) := dq_3 (dq_w dwc_461 13 rfl)
theorem dX5_fittingFigures_14 : decode cX5_fittingFigures 14 = .ok (.istore 4, 2) := dq_54 (dq_w dwc_461 14 rfl) (dq_w dwc_461 15 rfl) rfl
theorem dX5_fittingFigures_16 : decode cX5_fittingFigures 16 = .ok (.iload 4, 2) := dq_21 (dq_w dwc_462 0 rfl) (dq_w dwc_462 1 rfl) rfl
theorem dX5_fittingFigures_18 : decode cX5_fittingFigures 18 = .ok (.bipush 10, 2) := dq_16 (dq_w dwc_462 2 rfl) (dq_w dwc_462 3 rfl) rfl
theorem dX5_fittingFigures_20 : decode cX5_fittingFigures 20 = .ok (.if_icmp .ge 36, 3) := dq_162 (dq_w dwc_462 4 rfl) (dq_w dwc_462 5 rfl) (dq_w dwc_462 6 rfl) (dq_p (n := 36) rfl rfl)
theorem dX5_fittingFigures_23 : decode cX5_fittingFigures 23 = .ok (.aload_n 0, 1) := dq_42 (dq_w dwc_462 7 rfl)
theorem dX5_fittingFigures_24 : decode cX5_fittingFigures 24 = .ok (.getfield 16, 3) := dq_180 (dq_w dwc_462 8 rfl) (dq_w dwc_462 9 rfl) (dq_w dwc_462 10 rfl) rfl
theorem dX5_fittingFigures_27 : decode cX5_fittingFigures 27 = .ok (.getfield 97, 3) := dq_180 (dq_w dwc_462 11 rfl) (dq_w dwc_462 12 rfl) (dq_w dwc_462 13 rfl) rfl
theorem dX5_fittingFigures_30 : decode cX5_fittingFigures 30 = .ok (.iload_n 2, 1) := dq_28 (dq_w dwc_462 14 rfl)
theorem dX5_fittingFigures_31 : decode cX5_fittingFigures 31 = .ok (.iload 4, 2) := dq_21 (dq_w dwc_462 15 rfl) (dq_w dwc_463 0 rfl) rfl
theorem dX5_fittingFigures_33 : decode cX5_fittingFigures 33 = .ok (.iastore, 1) := dq_79 (dq_w dwc_463 1 rfl)
theorem dX5_fittingFigures_34 : decode cX5_fittingFigures 34 = .ok (.aload_n 0, 1) := dq_42 (dq_w dwc_463 2 rfl)
theorem dX5_fittingFigures_35 : decode cX5_fittingFigures 35 = .ok (.iload_n 1, 1) := dq_27 (dq_w dwc_463 3 rfl)
theorem dX5_fittingFigures_36 : decode cX5_fittingFigures 36 = .ok (.iload_n 2, 1) := dq_28 (dq_w dwc_463 4 rfl)
theorem dX5_fittingFigures_37 : decode cX5_fittingFigures 37 = .ok (.invokevirtual 302, 3) := dq_182 (dq_w dwc_463 5 rfl) (dq_w dwc_463 6 rfl) (dq_w dwc_463 7 rfl) rfl
theorem dX5_fittingFigures_40 : decode cX5_fittingFigures 40 = .ok (.ifCond .eq 10, 3) := dq_153 (dq_w dwc_463 8 rfl) (dq_w dwc_463 9 rfl) (dq_w dwc_463 10 rfl) (dq_p (n := 10) rfl rfl)
theorem dX5_fittingFigures_43 : decode cX5_fittingFigures 43 = .ok (.iload_n 3, 1) := dq_29 (dq_w dwc_463 11 rfl)
theorem dX5_fittingFigures_44 : decode cX5_fittingFigures 44 = .ok (.iconst 1, 1) := dq_4 (dq_w dwc_463 12 rfl)
theorem dX5_fittingFigures_45 : decode cX5_fittingFigures 45 = .ok (.iload 4, 2) := dq_21 (dq_w dwc_463 13 rfl) (dq_w dwc_463 14 rfl) rfl
theorem dX5_fittingFigures_47 : decode cX5_fittingFigures 47 = .ok (.ishl, 1) := dq_120 (dq_w dwc_463 15 rfl)
theorem dX5_fittingFigures_48 : decode cX5_fittingFigures 48 = .ok (.ior, 1) := dq_128 (dq_w dwc_464 0 rfl)
theorem dX5_fittingFigures_49 : decode cX5_fittingFigures 49 = .ok (.istore_n 3, 1) := dq_62 (dq_w dwc_464 1 rfl)
theorem dX5_fittingFigures_50 : decode cX5_fittingFigures 50 = .ok (.iinc 4 1, 3) := dq_132 (dq_w dwc_464 2 rfl) (dq_w dwc_464 3 rfl) rfl (dq_w dwc_464 4 rfl) rfl
theorem dX5_fittingFigures_53 : decode cX5_fittingFigures 53 = .ok (.goto (-37), 3) := dq_167 (dq_w dwc_464 5 rfl) (dq_w dwc_464 6 rfl) (dq_w dwc_464 7 rfl) (dq_n (m := 37) rfl rfl)
theorem dX5_fittingFigures_56 : decode cX5_fittingFigures 56 = .ok (.iload_n 3, 1) := dq_29 (dq_w dwc_464 8 rfl)
theorem dX5_fittingFigures_57 : decode cX5_fittingFigures 57 = .ok (.ireturn, 1) := dq_172 (dq_w dwc_464 9 rfl)
theorem dwc_465 : (cX5_fitsNumbers.data.toList.drop 0).take 16 = [3, 62, 29, 42, 180, 0, 58, 162, 0, 49, 42, 180, 0, 54, 29, 46] := by decide +kernel
theorem dwc_466 : (cX5_fitsNumbers.data.toList.drop 16).take 16 = [16, 99, 160, 0, 7, 2, 167, 0, 9, 42, 180, 0, 54, 29, 46, 54] := by decide +kernel
theorem dwc_467 : (cX5_fitsNumbers.data.toList.drop 32).take 16 = [4, 42, 180, 0, 16, 27, 28, 29, 182, 0, 144, 21, 4, 159, 0, 5] := by decide +kernel
theorem dwc_468 : (cX5_fitsNumbers.data.toList.drop 48).take 16 = [3, 172, 132, 3, 1, 167, 255, 205, 4, 172] := by decide +kernel
theorem dX5_fitsNumbers_0 : decode cX5_fitsNumbers 0 = .ok (.iconst 0, 1) := dq_3 (dq_w dwc_465 0 rfl)
theorem dX5_fitsNumbers_1 : decode cX5_fitsNumbers 1 = .ok (.istore_n 3, 1) := dq_62 (dq_w dwc_465 1 rfl)
theorem dX5_fitsNumbers_2 : decode cX5_fitsNumbers 2 = .ok (.iload_n 3, 1) := dq_29 (dq_w dwc_465 2 rfl)
theorem dX5_fitsNumbers_3 : decode cX5_fitsNumbers 3 = .ok (.aload_n 0, 1) := dq_42 (dq_w dwc_465 3 rfl)
theorem dX5_fitsNumbers_4 : decode cX5_fitsNumbers 4 = .ok (.getfield 58, 3) := dq_180 (dq_w dwc_465 4 rfl) (dq_w dwc_465 5 rfl) (dq_w dwc_465 6 rfl) rfl
theorem dX5_fitsNumbers_7 : decode cX5_fitsNumbers 7 = .ok (.if_icmp .ge 49, 3) := dq_162 (dq_w dwc_465 7 rfl) (dq_w dwc_465 8 rfl) (dq_w dwc_465 9 rfl) (dq_p (n := 49) rfl rfl)
theorem dX5_fitsNumbers_10 : decode cX5_fitsNumbers 10 = .ok (.aload_n 0, 1) := dq_42 (dq_w dwc_465 10 rfl)
theorem dX5_fitsNumbers_11 : decode cX5_fitsNumbers 11 = .ok (.getfield 54, 3) := dq_180 (dq_w dwc_465 11 rfl) (dq_w dwc_465 12 rfl) (dq_w dwc_465 13 rfl) rfl
theorem dX5_fitsNumbers_14 : decode cX5_fitsNumbers 14 = .ok (.iload_n 3, 1) := dq_29 (dq_w dwc_465 14 rfl)
theorem dX5_fitsNumbers_15 : decode cX5_fitsNumbers 15 = .ok (.iaload, 1) := dq_46 (dq_w dwc_465 15 rfl)
theorem dX5_fitsNumbers_16 : decode cX5_fitsNumbers 16 = .ok (.bipush 99, 2) := dq_16 (dq_w dwc_466 0 rfl) (dq_w dwc_466 1 rfl) rfl
theorem dX5_fitsNumbers_18 : decode cX5_fitsNumbers 18 = .ok (.if_icmp .ne 7, 3) := dq_160 (dq_w dwc_466 2 rfl) (dq_w dwc_466 3 rfl) (dq_w dwc_466 4 rfl) (dq_p (n := 7) rfl rfl)
theorem dX5_fitsNumbers_21 : decode cX5_fitsNumbers 21 = .ok (.iconst (-1), 1) := dq_2 (dq_w dwc_466 5 rfl)
theorem dX5_fitsNumbers_22 : decode cX5_fitsNumbers 22 = .ok (.goto 9, 3) := dq_167 (dq_w dwc_466 6 rfl) (dq_w dwc_466 7 rfl) (dq_w dwc_466 8 rfl) (dq_p (n := 9) rfl rfl)
theorem dX5_fitsNumbers_25 : decode cX5_fitsNumbers 25 = .ok (.aload_n 0, 1) := dq_42 (dq_w dwc_466 9 rfl)
theorem dX5_fitsNumbers_26 : decode cX5_fitsNumbers 26 = .ok (.getfield 54, 3) := dq_180 (dq_w dwc_466 10 rfl) (dq_w dwc_466 11 rfl) (dq_w dwc_466 12 rfl) rfl
theorem dX5_fitsNumbers_29 : decode cX5_fitsNumbers 29 = .ok (.iload_n 3, 1) := dq_29 (dq_w dwc_466 13 rfl)
theorem dX5_fitsNumbers_30 : decode cX5_fitsNumbers 30 = .ok (.iaload, 1) := dq_46 (dq_w dwc_466 14 rfl)
theorem dX5_fitsNumbers_31 : decode cX5_fitsNumbers 31 = .ok (.istore 4, 2) := dq_54 (dq_w dwc_466 15 rfl) (dq_w dwc_467 0 rfl) rfl
theorem dX5_fitsNumbers_33 : decode cX5_fitsNumbers 33 = .ok (.aload_n 0, 1) := dq_42 (dq_w dwc_467 1 rfl)
theorem dX5_fitsNumbers_34 : decode cX5_fitsNumbers 34 = .ok (.getfield 16, 3) := dq_180 (dq_w dwc_467 2 rfl) (dq_w dwc_467 3 rfl) (dq_w dwc_467 4 rfl) rfl
theorem dX5_fitsNumbers_37 : decode cX5_fitsNumbers 37 = .ok (.iload_n 1, 1) := dq_27 (dq_w dwc_467 5 rfl)
theorem dX5_fitsNumbers_38 : decode cX5_fitsNumbers 38 = .ok (.iload_n 2, 1) := dq_28 (dq_w dwc_467 6 rfl)
theorem dX5_fitsNumbers_39 : decode cX5_fitsNumbers 39 = .ok (.iload_n 3, 1) := dq_29 (dq_w dwc_467 7 rfl)
theorem dX5_fitsNumbers_40 : decode cX5_fitsNumbers 40 = .ok (.invokevirtual 144, 3) := dq_182 (dq_w dwc_467 8 rfl) (dq_w dwc_467 9 rfl) (dq_w dwc_467 10 rfl) rfl
theorem dX5_fitsNumbers_43 : decode cX5_fitsNumbers 43 = .ok (.iload 4, 2) := dq_21 (dq_w dwc_467 11 rfl) (dq_w dwc_467 12 rfl) rfl
theorem dX5_fitsNumbers_45 : decode cX5_fitsNumbers 45 = .ok (.if_icmp .eq 5, 3) := dq_159 (dq_w dwc_467 13 rfl) (dq_w dwc_467 14 rfl) (dq_w dwc_467 15 rfl) (dq_p (n := 5) rfl rfl)
theorem dX5_fitsNumbers_48 : decode cX5_fitsNumbers 48 = .ok (.iconst 0, 1) := dq_3 (dq_w dwc_468 0 rfl)
theorem dX5_fitsNumbers_49 : decode cX5_fitsNumbers 49 = .ok (.ireturn, 1) := dq_172 (dq_w dwc_468 1 rfl)
theorem dX5_fitsNumbers_50 : decode cX5_fitsNumbers 50 = .ok (.iinc 3 1, 3) := dq_132 (dq_w dwc_468 2 rfl) (dq_w dwc_468 3 rfl) rfl (dq_w dwc_468 4 rfl) rfl
theorem dX5_fitsNumbers_53 : decode cX5_fitsNumbers 53 = .ok (.goto (-51), 3) := dq_167 (dq_w dwc_468 5 rfl) (dq_w dwc_468 6 rfl) (dq_w dwc_468 7 rfl) (dq_n (m := 51) rfl rfl)
theorem dX5_fitsNumbers_56 : decode cX5_fitsNumbers 56 = .ok (.iconst 1, 1) := dq_4 (dq_w dwc_468 8 rfl)
theorem dX5_fitsNumbers_57 : decode cX5_fitsNumbers 57 = .ok (.ireturn, 1) := dq_172 (dq_w dwc_468 9 rfl)
theorem dwc_469 : (cX5_bestShutter.data.toList.drop 0).take 16 = [42, 180, 0, 16, 42, 180, 0, 12, 182, 0, 76, 42, 180, 0, 16, 89] := by decide +kernel
theorem dwc_470 : (cX5_bestShutter.data.toList.drop 16).take 16 = [180, 1, 30, 4, 27, 120, 128, 181, 1, 30, 42, 180, 0, 16, 27, 28] := by decide +kernel
theorem dwc_471 : (cX5_bestShutter.data.toList.drop 32).take 16 = [182, 0, 113, 184, 0, 239, 4, 100, 62, 42, 180, 0, 16, 27, 182, 0] := by decide +kernel
theorem dwc_472 : (cX5_bestShutter.data.toList.drop 48).take 16 = [167, 87, 42, 180, 0, 16, 27, 28, 182, 0, 113, 184, 0, 239, 54, 4] := by decide +kernel
theorem dwc_473 : (cX5_bestShutter.data.toList.drop 64).take 16 = [21, 4, 29, 164, 0, 7, 4, 167, 0, 4, 3, 172] := by decide +kernel
theorem dX5_bestShutter_0 : decode cX5_bestShutter 0 = .ok (.aload_n 0, 1) := dq_42 (dq_w dwc_469 0 rfl)
theorem dX5_bestShutter_1 : decode cX5_bestShutter 1 = .ok (.getfield 16, 3) := dq_180 (dq_w dwc_469 1 rfl) (dq_w dwc_469 2 rfl) (dq_w dwc_469 3 rfl) rfl
theorem dX5_bestShutter_4 : decode cX5_bestShutter 4 = .ok (.aload_n 0, 1) := dq_42 (dq_w dwc_469 4 rfl)
theorem dX5_bestShutter_5 : decode cX5_bestShutter 5 = .ok (.getfield 12, 3) := dq_180 (dq_w dwc_469 5 rfl) (dq_w dwc_469 6 rfl) (dq_w dwc_469 7 rfl) rfl
theorem dX5_bestShutter_8 : decode cX5_bestShutter 8 = .ok (.invokevirtual 76, 3) := dq_182 (dq_w dwc_469 8 rfl) (dq_w dwc_469 9 rfl) (dq_w dwc_469 10 rfl) rfl
theorem dX5_bestShutter_11 : decode cX5_bestShutter 11 = .ok (.aload_n 0, 1) := dq_42 (dq_w dwc_469 11 rfl)
theorem dX5_bestShutter_12 : decode cX5_bestShutter 12 = .ok (.getfield 16, 3) := dq_180 (dq_w dwc_469 12 rfl) (dq_w dwc_469 13 rfl) (dq_w dwc_469 14 rfl) rfl
theorem dX5_bestShutter_15 : decode cX5_bestShutter 15 = .ok (.dup, 1) := dq_89 (dq_w dwc_469 15 rfl)
theorem dX5_bestShutter_16 : decode cX5_bestShutter 16 = .ok (.getfield 286, 3) := dq_180 (dq_w dwc_470 0 rfl) (dq_w dwc_470 1 rfl) (dq_w dwc_470 2 rfl) rfl
theorem dX5_bestShutter_19 : decode cX5_bestShutter 19 = .ok (.iconst 1, 1) := dq_4 (dq_w dwc_470 3 rfl)
theorem dX5_bestShutter_20 : decode cX5_bestShutter 20 = .ok (.iload_n 1, 1) := dq_27 (dq_w dwc_470 4 rfl)
theorem dX5_bestShutter_21 : decode cX5_bestShutter 21 = .ok (.ishl, 1) := dq_120 (dq_w dwc_470 5 rfl)
theorem dX5_bestShutter_22 : decode cX5_bestShutter 22 = .ok (.ior, 1) := dq_128 (dq_w dwc_470 6 rfl)
theorem dX5_bestShutter_23 : decode cX5_bestShutter 23 = .ok (.putfield 286, 3) := dq_181 (dq_w dwc_470 7 rfl) (dq_w dwc_470 8 rfl) (dq_w dwc_470 9 rfl) rfl
theorem dX5_bestShutter_26 : decode cX5_bestShutter 26 = .ok (.aload_n 0, 1) := dq_42 (dq_w dwc_470 10 rfl)
theorem dX5_bestShutter_27 : decode cX5_bestShutter 27 = .ok (.getfield 16, 3) := dq_180 (dq_w dwc_470 11 rfl) (dq_w dwc_470 12 rfl) (dq_w dwc_470 13 rfl) rfl
theorem dX5_bestShutter_30 : decode cX5_bestShutter 30 = .ok (.iload_n 1, 1) := dq_27 (dq_w dwc_470 14 rfl)
theorem dX5_bestShutter_31 : decode cX5_bestShutter 31 = .ok (.iload_n 2, 1) := dq_28 (dq_w dwc_470 15 rfl)
theorem dX5_bestShutter_32 : decode cX5_bestShutter 32 = .ok (.invokevirtual 113, 3) := dq_182 (dq_w dwc_471 0 rfl) (dq_w dwc_471 1 rfl) (dq_w dwc_471 2 rfl) rfl
theorem dX5_bestShutter_35 : decode cX5_bestShutter 35 = .ok (.invokestatic 239, 3) := dq_184 (dq_w dwc_471 3 rfl) (dq_w dwc_471 4 rfl) (dq_w dwc_471 5 rfl) rfl
theorem dX5_bestShutter_38 : decode cX5_bestShutter 38 = .ok (.iconst 1, 1) := dq_4 (dq_w dwc_471 6 rfl)
theorem dX5_bestShutter_39 : decode cX5_bestShutter 39 = .ok (.isub, 1) := dq_100 (dq_w dwc_471 7 rfl)
theorem dX5_bestShutter_40 : decode cX5_bestShutter 40 = .ok (.istore_n 3, 1) := dq_62 (dq_w dwc_471 8 rfl)
theorem dX5_bestShutter_41 : decode cX5_bestShutter 41 = .ok (.aload_n 0, 1) := dq_42 (dq_w dwc_471 9 rfl)
theorem dX5_bestShutter_42 : decode cX5_bestShutter 42 = .ok (.getfield 16, 3) := dq_180 (dq_w dwc_471 10 rfl) (dq_w dwc_471 11 rfl) (dq_w dwc_471 12 rfl) rfl
theorem dX5_bestShutter_45 : decode cX5_bestShutter 45 = .ok (.iload_n 1, 1) := dq_27 (dq_w dwc_471 13 rfl)
theorem dX5_bestShutter_46 : decode cX5_bestShutter 46 = .ok (.invokevirtual 167, 3) := dq_182 (dq_w dwc_471 14 rfl) (dq_w dwc_471 15 rfl) (dq_w dwc_472 0 rfl) rfl
theorem dX5_bestShutter_49 : decode cX5_bestShutter 49 = .ok (.pop, 1) := dq_87 (dq_w dwc_472 1 rfl)
theorem dX5_bestShutter_50 : decode cX5_bestShutter 50 = .ok (.aload_n 0, 1) := dq_42 (dq_w dwc_472 2 rfl)
theorem dX5_bestShutter_51 : decode cX5_bestShutter 51 = .ok (.getfield 16, 3) := dq_180 (dq_w dwc_472 3 rfl) (dq_w dwc_472 4 rfl) (dq_w dwc_472 5 rfl) rfl
theorem dX5_bestShutter_54 : decode cX5_bestShutter 54 = .ok (.iload_n 1, 1) := dq_27 (dq_w dwc_472 6 rfl)
theorem dX5_bestShutter_55 : decode cX5_bestShutter 55 = .ok (.iload_n 2, 1) := dq_28 (dq_w dwc_472 7 rfl)
theorem dX5_bestShutter_56 : decode cX5_bestShutter 56 = .ok (.invokevirtual 113, 3) := dq_182 (dq_w dwc_472 8 rfl) (dq_w dwc_472 9 rfl) (dq_w dwc_472 10 rfl) rfl
theorem dX5_bestShutter_59 : decode cX5_bestShutter 59 = .ok (.invokestatic 239, 3) := dq_184 (dq_w dwc_472 11 rfl) (dq_w dwc_472 12 rfl) (dq_w dwc_472 13 rfl) rfl
theorem dX5_bestShutter_62 : decode cX5_bestShutter 62 = .ok (.istore 4, 2) := dq_54 (dq_w dwc_472 14 rfl) (dq_w dwc_472 15 rfl) rfl
theorem dX5_bestShutter_64 : decode cX5_bestShutter 64 = .ok (.iload 4, 2) := dq_21 (dq_w dwc_473 0 rfl) (dq_w dwc_473 1 rfl) rfl
theorem dX5_bestShutter_66 : decode cX5_bestShutter 66 = .ok (.iload_n 3, 1) := dq_29 (dq_w dwc_473 2 rfl)
theorem dX5_bestShutter_67 : decode cX5_bestShutter 67 = .ok (.if_icmp .le 7, 3) := dq_164 (dq_w dwc_473 3 rfl) (dq_w dwc_473 4 rfl) (dq_w dwc_473 5 rfl) (dq_p (n := 7) rfl rfl)
theorem dX5_bestShutter_70 : decode cX5_bestShutter 70 = .ok (.iconst 1, 1) := dq_4 (dq_w dwc_473 6 rfl)
theorem dX5_bestShutter_71 : decode cX5_bestShutter 71 = .ok (.goto 4, 3) := dq_167 (dq_w dwc_473 7 rfl) (dq_w dwc_473 8 rfl) (dq_w dwc_473 9 rfl) (dq_p (n := 4) rfl rfl)
theorem dX5_bestShutter_74 : decode cX5_bestShutter 74 = .ok (.iconst 0, 1) := dq_3 (dq_w dwc_473 10 rfl)
theorem dX5_bestShutter_75 : decode cX5_bestShutter 75 = .ok (.ireturn, 1) := dq_172 (dq_w dwc_473 11 rfl)
theorem dwc_474 : (cX5_highestAge.data.toList.drop 0).take 16 = [2, 60, 3, 61, 28, 42, 180, 0, 12, 180, 0, 158, 162, 0, 22, 27] := by decide +kernel
theorem dwc_475 : (cX5_highestAge.data.toList.drop 16).take 16 = [42, 180, 0, 12, 28, 182, 1, 49, 184, 1, 19, 60, 132, 2, 1, 167] := by decide +kernel
theorem dwc_476 : (cX5_highestAge.data.toList.drop 32).take 16 = [255, 229, 27, 172] := by decide +kernel
theorem dX5_highestAge_0 : decode cX5_highestAge 0 = .ok (.iconst (-1), 1) := dq_2 (dq_w dwc_474 0 rfl)
theorem dX5_highestAge_1 : decode cX5_highestAge 1 = .ok (.istore_n 1, 1) := dq_60 (dq_w dwc_474 1 rfl)
theorem dX5_highestAge_2 : decode cX5_highestAge 2 = .ok (.iconst 0, 1) := dq_3 (dq_w dwc_474 2 rfl)
theorem dX5_highestAge_3 : decode cX5_highestAge 3 = .ok (.istore_n 2, 1) := dq_61 (dq_w dwc_474 3 rfl)
theorem dX5_highestAge_4 : decode cX5_highestAge 4 = .ok (.iload_n 2, 1) := dq_28 (dq_w dwc_474 4 rfl)
theorem dX5_highestAge_5 : decode cX5_highestAge 5 = .ok (.aload_n 0, 1) := dq_42 (dq_w dwc_474 5 rfl)
theorem dX5_highestAge_6 : decode cX5_highestAge 6 = .ok (.getfield 12, 3) := dq_180 (dq_w dwc_474 6 rfl) (dq_w dwc_474 7 rfl) (dq_w dwc_474 8 rfl) rfl
theorem dX5_highestAge_9 : decode cX5_highestAge 9 = .ok (.getfield 158, 3) := dq_180 (dq_w dwc_474 9 rfl) (dq_w dwc_474 10 rfl) (dq_w dwc_474 11 rfl) rfl
theorem dX5_highestAge_12 : decode cX5_highestAge 12 = .ok (.if_icmp .ge 22, 3) := dq_162 (dq_w dwc_474 12 rfl) (dq_w dwc_474 13 rfl) (dq_w dwc_474 14 rfl) (dq_p (n := 22) rfl rfl)
theorem dX5_highestAge_15 : decode cX5_highestAge 15 = .ok (.iload_n 1, 1) := dq_27 (dq_w dwc_474 15 rfl)
theorem dX5_highestAge_16 : decode cX5_highestAge 16 = .ok (.aload_n 0, 1) := dq_42 (dq_w dwc_475 0 rfl)
theorem dX5_highestAge_17 : decode cX5_highestAge 17 = .ok (.getfield 12, 3) := dq_180 (dq_w dwc_475 1 rfl) (dq_w dwc_475 2 rfl) (dq_w dwc_475 3 rfl) rfl
theorem dX5_highestAge_20 : decode cX5_highestAge 20 = .ok (.iload_n 2, 1) := dq_28 (dq_w dwc_475 4 rfl)
theorem dX5_highestAge_21 : decode cX5_highestAge 21 = .ok (.invokevirtual 305, 3) := dq_182 (dq_w dwc_475 5 rfl) (dq_w dwc_475 6 rfl) (dq_w dwc_475 7 rfl) rfl
theorem dX5_highestAge_24 : decode cX5_highestAge 24 = .ok (.invokestatic 275, 3) := dq_184 (dq_w dwc_475 8 rfl) (dq_w dwc_475 9 rfl) (dq_w dwc_475 10 rfl) rfl
theorem dX5_highestAge_27 : decode cX5_highestAge 27 = .ok (.istore_n 1, 1) := dq_60 (dq_w dwc_475 11 rfl)
theorem dX5_highestAge_28 : decode cX5_highestAge 28 = .ok (.iinc 2 1, 3) := dq_132 (dq_w dwc_475 12 rfl) (dq_w dwc_475 13 rfl) rfl (dq_w dwc_475 14 rfl) rfl
theorem dX5_highestAge_31 : decode cX5_highestAge 31 = .ok (.goto (-27), 3) := dq_167 (dq_w dwc_475 15 rfl) (dq_w dwc_476 0 rfl) (dq_w dwc_476 1 rfl) (dq_n (m := 27) rfl rfl)
theorem dX5_highestAge_34 : decode cX5_highestAge 34 = .ok (.iload_n 1, 1) := dq_27 (dq_w dwc_476 2 rfl)
theorem dX5_highestAge_35 : decode cX5_highestAge 35 = .ok (.ireturn, 1) := dq_172 (dq_w dwc_476 3 rfl)
theorem dwc_477 : (cX5_longestOwing.data.toList.drop 0).take 16 = [42, 182, 1, 16, 60, 3, 61, 28, 42, 180, 0, 12, 180, 0, 158, 162] := by decide +kernel
theorem dwc_478 : (cX5_longestOwing.data.toList.drop 16).take 16 = [0, 28, 27, 2, 159, 0, 17, 42, 180, 0, 12, 28, 182, 1, 49, 27] := by decide +kernel
theorem dwc_479 : (cX5_longestOwing.data.toList.drop 32).take 16 = [160, 0, 5, 28, 172, 132, 2, 1, 167, 255, 223, 16, 247, 172] := by decide +kernel
theorem dX5_longestOwing_0 : decode cX5_longestOwing 0 = .ok (.aload_n 0, 1) := dq_42 (dq_w dwc_477 0 rfl)
theorem dX5_longestOwing_1 : decode cX5_longestOwing 1 = .ok (.invokevirtual 272, 3) := dq_182 (dq_w dwc_477 1 rfl) (dq_w dwc_477 2 rfl) (dq_w dwc_477 3 rfl) rfl
theorem dX5_longestOwing_4 : decode cX5_longestOwing 4 = .ok (.istore_n 1, 1) := dq_60 (dq_w dwc_477 4 rfl)
theorem dX5_longestOwing_5 : decode cX5_longestOwing 5 = .ok (.iconst 0, 1) := dq_3 (dq_w dwc_477 5 rfl)
theorem dX5_longestOwing_6 : decode cX5_longestOwing 6 = .ok (.istore_n 2, 1) := dq_61 (dq_w dwc_477 6 rfl)
theorem dX5_longestOwing_7 : decode cX5_longestOwing 7 = .ok (.iload_n 2, 1) := dq_28 (dq_w dwc_477 7 rfl)
theorem dX5_longestOwing_8 : decode cX5_longestOwing 8 = .ok (.aload_n 0, 1) := dq_42 (dq_w dwc_477 8 rfl)
theorem dX5_longestOwing_9 : decode cX5_longestOwing 9 = .ok (.getfield 12, 3) := dq_180 (dq_w dwc_477 9 rfl) (dq_w dwc_477 10 rfl) (dq_w dwc_477 11 rfl) rfl
theorem dX5_longestOwing_12 : decode cX5_longestOwing 12 = .ok (.getfield 158, 3) := dq_180 (dq_w dwc_477 12 rfl) (dq_w dwc_477 13 rfl) (dq_w dwc_477 14 rfl) rfl
theorem dX5_longestOwing_15 : decode cX5_longestOwing 15 = .ok (.if_icmp .ge 28, 3) := dq_162 (dq_w dwc_477 15 rfl) (dq_w dwc_478 0 rfl) (dq_w dwc_478 1 rfl) (dq_p (n := 28) rfl rfl)
theorem dX5_longestOwing_18 : decode cX5_longestOwing 18 = .ok (.iload_n 1, 1) := dq_27 (dq_w dwc_478 2 rfl)
theorem dX5_longestOwing_19 : decode cX5_longestOwing 19 = .ok (.iconst (-1), 1) := dq_2 (dq_w dwc_478 3 rfl)
theorem dX5_longestOwing_20 : decode cX5_longestOwing 20 = .ok (.if_icmp .eq 17, 3) := dq_159 (dq_w dwc_478 4 rfl) (dq_w dwc_478 5 rfl) (dq_w dwc_478 6 rfl) (dq_p (n := 17) rfl rfl)
theorem dX5_longestOwing_23 : decode cX5_longestOwing 23 = .ok (.aload_n 0, 1) := dq_42 (dq_w dwc_478 7 rfl)
theorem dX5_longestOwing_24 : decode cX5_longestOwing 24 = .ok (.getfield 12, 3) := dq_180 (dq_w dwc_478 8 rfl) (dq_w dwc_478 9 rfl) (dq_w dwc_478 10 rfl) rfl
theorem dX5_longestOwing_27 : decode cX5_longestOwing 27 = .ok (.iload_n 2, 1) := dq_28 (dq_w dwc_478 11 rfl)
theorem dX5_longestOwing_28 : decode cX5_longestOwing 28 = .ok (.invokevirtual 305, 3) := dq_182 (dq_w dwc_478 12 rfl) (dq_w dwc_478 13 rfl) (dq_w dwc_478 14 rfl) rfl
theorem dX5_longestOwing_31 : decode cX5_longestOwing 31 = .ok (.iload_n 1, 1) := dq_27 (dq_w dwc_478 15 rfl)
theorem dX5_longestOwing_32 : decode cX5_longestOwing 32 = .ok (.if_icmp .ne 5, 3) := dq_160 (dq_w dwc_479 0 rfl) (dq_w dwc_479 1 rfl) (dq_w dwc_479 2 rfl) (dq_p (n := 5) rfl rfl)
theorem dX5_longestOwing_35 : decode cX5_longestOwing 35 = .ok (.iload_n 2, 1) := dq_28 (dq_w dwc_479 3 rfl)
theorem dX5_longestOwing_36 : decode cX5_longestOwing 36 = .ok (.ireturn, 1) := dq_172 (dq_w dwc_479 4 rfl)
theorem dX5_longestOwing_37 : decode cX5_longestOwing 37 = .ok (.iinc 2 1, 3) := dq_132 (dq_w dwc_479 5 rfl) (dq_w dwc_479 6 rfl) rfl (dq_w dwc_479 7 rfl) rfl
theorem dX5_longestOwing_40 : decode cX5_longestOwing 40 = .ok (.goto (-33), 3) := dq_167 (dq_w dwc_479 8 rfl) (dq_w dwc_479 9 rfl) (dq_w dwc_479 10 rfl) (dq_n (m := 33) rfl rfl)
theorem dX5_longestOwing_43 : decode cX5_longestOwing 43 = .ok (.bipush (-9), 2) := dq_16 (dq_w dwc_479 11 rfl) (dq_w dwc_479 12 rfl) rfl
theorem dX5_longestOwing_45 : decode cX5_longestOwing 45 = .ok (.ireturn, 1) := dq_172 (dq_w dwc_479 13 rfl)
theorem dwc_480 : (cX5_lane.data.toList.drop 0).take 16 = [3, 60, 3, 61, 28, 42, 180, 0, 12, 180, 0, 148, 162, 0, 92, 28] := by decide +kernel
theorem dwc_481 : (cX5_lane.data.toList.drop 16).take 16 = [4, 96, 62, 29, 42, 180, 0, 12, 180, 0, 148, 162, 0, 71, 42, 180] := by decide +kernel
theorem dwc_482 : (cX5_lane.data.toList.drop 32).take 16 = [0, 12, 28, 182, 0, 103, 153, 0, 18, 42, 180, 0, 12, 29, 182, 0] := by decide +kernel
theorem dwc_483 : (cX5_lane.data.toList.drop 48).take 16 = [103, 153, 0, 7, 4, 167, 0, 4, 3, 54, 4, 21, 4, 153, 0, 31] := by decide +kernel
theorem dwc_484 : (cX5_lane.data.toList.drop 64).take 16 = [42, 180, 0, 12, 180, 0, 100, 28, 46, 42, 180, 0, 12, 180, 0, 100] := by decide +kernel
theorem dwc_485 : (cX5_lane.data.toList.drop 80).take 16 = [29, 46, 184, 0, 204, 5, 163, 0, 6, 132, 1, 1, 132, 3, 1, 167] := by decide +kernel
theorem dwc_486 : (cX5_lane.data.toList.drop 96).take 16 = [255, 180, 132, 2, 1, 167, 255, 159, 27, 172] := by decide +kernel
theorem dX5_lane_0 : decode cX5_lane 0 = .ok (.iconst 0, 1) := dq_3 (dq_w dwc_480 0 rfl)
theorem dX5_lane_1 : decode cX5_lane 1 = .ok (.istore_n 1, 1) := dq_60 (dq_w dwc_480 1 rfl)
theorem dX5_lane_2 : decode cX5_lane 2 = .ok (.iconst 0, 1) := dq_3 (dq_w dwc_480 2 rfl)
theorem dX5_lane_3 : decode cX5_lane 3 = .ok (.istore_n 2, 1) := dq_61 (dq_w dwc_480 3 rfl)
theorem dX5_lane_4 : decode cX5_lane 4 = .ok (.iload_n 2, 1) := dq_28 (dq_w dwc_480 4 rfl)
theorem dX5_lane_5 : decode cX5_lane 5 = .ok (.aload_n 0, 1) := dq_42 (dq_w dwc_480 5 rfl)
theorem dX5_lane_6 : decode cX5_lane 6 = .ok (.getfield 12, 3) := dq_180 (dq_w dwc_480 6 rfl) (dq_w dwc_480 7 rfl) (dq_w dwc_480 8 rfl) rfl
theorem dX5_lane_9 : decode cX5_lane 9 = .ok (.getfield 148, 3) := dq_180 (dq_w dwc_480 9 rfl) (dq_w dwc_480 10 rfl) (dq_w dwc_480 11 rfl) rfl
theorem dX5_lane_12 : decode cX5_lane 12 = .ok (.if_icmp .ge 92, 3) := dq_162 (dq_w dwc_480 12 rfl) (dq_w dwc_480 13 rfl) (dq_w dwc_480 14 rfl) (dq_p (n := 92) rfl rfl)
theorem dX5_lane_15 : decode cX5_lane 15 = .ok (.iload_n 2, 1) := dq_28 (dq_w dwc_480 15 rfl)
theorem dX5_lane_16 : decode cX5_lane 16 = .ok (.iconst 1, 1) := dq_4 (dq_w dwc_481 0 rfl)
theorem dX5_lane_17 : decode cX5_lane 17 = .ok (.iadd, 1) := dq_96 (dq_w dwc_481 1 rfl)
theorem dX5_lane_18 : decode cX5_lane 18 = .ok (.istore_n 3, 1) := dq_62 (dq_w dwc_481 2 rfl)
theorem dX5_lane_19 : decode cX5_lane 19 = .ok (.iload_n 3, 1) := dq_29 (dq_w dwc_481 3 rfl)
theorem dX5_lane_20 : decode cX5_lane 20 = .ok (.aload_n 0, 1) := dq_42 (dq_w dwc_481 4 rfl)
theorem dX5_lane_21 : decode cX5_lane 21 = .ok (.getfield 12, 3) := dq_180 (dq_w dwc_481 5 rfl) (dq_w dwc_481 6 rfl) (dq_w dwc_481 7 rfl) rfl
theorem dX5_lane_24 : decode cX5_lane 24 = .ok (.getfield 148, 3) := dq_180 (dq_w dwc_481 8 rfl) (dq_w dwc_481 9 rfl) (dq_w dwc_481 10 rfl) rfl
theorem dX5_lane_27 : decode cX5_lane 27 = .ok (.if_icmp .ge 71, 3) := dq_162 (dq_w dwc_481 11 rfl) (dq_w dwc_481 12 rfl) (dq_w dwc_481 13 rfl) (dq_p (n := 71) rfl rfl)
theorem dX5_lane_30 : decode cX5_lane 30 = .ok (.aload_n 0, 1) := dq_42 (dq_w dwc_481 14 rfl)
theorem dX5_lane_31 : decode cX5_lane 31 = .ok (.getfield 12, 3) := dq_180 (dq_w dwc_481 15 rfl) (dq_w dwc_482 0 rfl) (dq_w dwc_482 1 rfl) rfl
theorem dX5_lane_34 : decode cX5_lane 34 = .ok (.iload_n 2, 1) := dq_28 (dq_w dwc_482 2 rfl)
theorem dX5_lane_35 : decode cX5_lane 35 = .ok (.invokevirtual 103, 3) := dq_182 (dq_w dwc_482 3 rfl) (dq_w dwc_482 4 rfl) (dq_w dwc_482 5 rfl) rfl
theorem dX5_lane_38 : decode cX5_lane 38 = .ok (.ifCond .eq 18, 3) := dq_153 (dq_w dwc_482 6 rfl) (dq_w dwc_482 7 rfl) (dq_w dwc_482 8 rfl) (dq_p (n := 18) rfl rfl)
theorem dX5_lane_41 : decode cX5_lane 41 = .ok (.aload_n 0, 1) := dq_42 (dq_w dwc_482 9 rfl)
theorem dX5_lane_42 : decode cX5_lane 42 = .ok (.getfield 12, 3) := dq_180 (dq_w dwc_482 10 rfl) (dq_w dwc_482 11 rfl) (dq_w dwc_482 12 rfl) rfl
theorem dX5_lane_45 : decode cX5_lane 45 = .ok (.iload_n 3, 1) := dq_29 (dq_w dwc_482 13 rfl)
theorem dX5_lane_46 : decode cX5_lane 46 = .ok (.invokevirtual 103, 3) := dq_182 (dq_w dwc_482 14 rfl) (dq_w dwc_482 15 rfl) (dq_w dwc_483 0 rfl) rfl
theorem dX5_lane_49 : decode cX5_lane 49 = .ok (.ifCond .eq 7, 3) := dq_153 (dq_w dwc_483 1 rfl) (dq_w dwc_483 2 rfl) (dq_w dwc_483 3 rfl) (dq_p (n := 7) rfl rfl)
theorem dX5_lane_52 : decode cX5_lane 52 = .ok (.iconst 1, 1) := dq_4 (dq_w dwc_483 4 rfl)
theorem dX5_lane_53 : decode cX5_lane 53 = .ok (.goto 4, 3) := dq_167 (dq_w dwc_483 5 rfl) (dq_w dwc_483 6 rfl) (dq_w dwc_483 7 rfl) (dq_p (n := 4) rfl rfl)
theorem dX5_lane_56 : decode cX5_lane 56 = .ok (.iconst 0, 1) := dq_3 (dq_w dwc_483 8 rfl)
theorem dX5_lane_57 : decode cX5_lane 57 = .ok (.istore 4, 2) := dq_54 (dq_w dwc_483 9 rfl) (dq_w dwc_483 10 rfl) rfl
theorem dX5_lane_59 : decode cX5_lane 59 = .ok (.iload 4, 2) := dq_21 (dq_w dwc_483 11 rfl) (dq_w dwc_483 12 rfl) rfl
theorem dX5_lane_61 : decode cX5_lane 61 = .ok (.ifCond .eq 31, 3) := dq_153 (dq_w dwc_483 13 rfl) (dq_w dwc_483 14 rfl) (dq_w dwc_483 15 rfl) (dq_p (n := 31) rfl rfl)
theorem dX5_lane_64 : decode cX5_lane 64 = .ok (.aload_n 0, 1) := dq_42 (dq_w dwc_484 0 rfl)
theorem dX5_lane_65 : decode cX5_lane 65 = .ok (.getfield 12, 3) := dq_180 (dq_w dwc_484 1 rfl) (dq_w dwc_484 2 rfl) (dq_w dwc_484 3 rfl) rfl
theorem dX5_lane_68 : decode cX5_lane 68 = .ok (.getfield 100, 3) := dq_180 (dq_w dwc_484 4 rfl) (dq_w dwc_484 5 rfl) (dq_w dwc_484 6 rfl) rfl
theorem dX5_lane_71 : decode cX5_lane 71 = .ok (.iload_n 2, 1) := dq_28 (dq_w dwc_484 7 rfl)
theorem dX5_lane_72 : decode cX5_lane 72 = .ok (.iaload, 1) := dq_46 (dq_w dwc_484 8 rfl)
theorem dX5_lane_73 : decode cX5_lane 73 = .ok (.aload_n 0, 1) := dq_42 (dq_w dwc_484 9 rfl)
theorem dX5_lane_74 : decode cX5_lane 74 = .ok (.getfield 12, 3) := dq_180 (dq_w dwc_484 10 rfl) (dq_w dwc_484 11 rfl) (dq_w dwc_484 12 rfl) rfl
theorem dX5_lane_77 : decode cX5_lane 77 = .ok (.getfield 100, 3) := dq_180 (dq_w dwc_484 13 rfl) (dq_w dwc_484 14 rfl) (dq_w dwc_484 15 rfl) rfl
theorem dX5_lane_80 : decode cX5_lane 80 = .ok (.iload_n 3, 1) := dq_29 (dq_w dwc_485 0 rfl)
theorem dX5_lane_81 : decode cX5_lane 81 = .ok (.iaload, 1) := dq_46 (dq_w dwc_485 1 rfl)
theorem dX5_lane_82 : decode cX5_lane 82 = .ok (.invokestatic 204, 3) := dq_184 (dq_w dwc_485 2 rfl) (dq_w dwc_485 3 rfl) (dq_w dwc_485 4 rfl) rfl
theorem dX5_lane_85 : decode cX5_lane 85 = .ok (.iconst 2, 1) := dq_5 (dq_w dwc_485 5 rfl)
theorem dX5_lane_86 : decode cX5_lane 86 = .ok (.if_icmp .gt 6, 3) := dq_163 (dq_w dwc_485 6 rfl) (dq_w dwc_485 7 rfl) (dq_w dwc_485 8 rfl) (dq_p (n := 6) rfl rfl)
theorem dX5_lane_89 : decode cX5_lane 89 = .ok (.iinc 1 1, 3) := dq_132 (dq_w dwc_485 9 rfl) (dq_w dwc_485 10 rfl) rfl (dq_w dwc_485 11 rfl) rfl
theorem dX5_lane_92 : decode cX5_lane 92 = .ok (.iinc 3 1, 3) := dq_132 (dq_w dwc_485 12 rfl) (dq_w dwc_485 13 rfl) rfl (dq_w dwc_485 14 rfl) rfl
theorem dX5_lane_95 : decode cX5_lane 95 = .ok (.goto (-76), 3) := dq_167 (dq_w dwc_485 15 rfl) (dq_w dwc_486 0 rfl) (dq_w dwc_486 1 rfl) (dq_n (m := 76) rfl rfl)
theorem dX5_lane_98 : decode cX5_lane 98 = .ok (.iinc 2 1, 3) := dq_132 (dq_w dwc_486 2 rfl) (dq_w dwc_486 3 rfl) rfl (dq_w dwc_486 4 rfl) rfl
theorem dX5_lane_101 : decode cX5_lane 101 = .ok (.goto (-97), 3) := dq_167 (dq_w dwc_486 5 rfl) (dq_w dwc_486 6 rfl) (dq_w dwc_486 7 rfl) (dq_n (m := 97) rfl rfl)
theorem dX5_lane_104 : decode cX5_lane 104 = .ok (.iload_n 1, 1) := dq_27 (dq_w dwc_486 8 rfl)
theorem dX5_lane_105 : decode cX5_lane 105 = .ok (.ireturn, 1) := dq_172 (dq_w dwc_486 9 rfl)
theorem dwc_487 : (cX5_eveningsOfNewDebts.data.toList.drop 0).take 16 = [9, 64, 3, 62, 29, 42, 180, 0, 12, 180, 0, 158, 162, 0, 72, 3] := by decide +kernel
theorem dwc_488 : (cX5_eveningsOfNewDebts.data.toList.drop 16).take 16 = [54, 4, 21, 4, 42, 180, 0, 12, 180, 0, 148, 162, 0, 51, 42, 180] := by decide +kernel
theorem dwc_489 : (cX5_eveningsOfNewDebts.data.toList.drop 32).take 16 = [0, 12, 29, 21, 4, 182, 0, 140, 153, 0, 6, 167, 0, 29, 42, 180] := by decide +kernel
theorem dwc_490 : (cX5_eveningsOfNewDebts.data.toList.drop 48).take 16 = [0, 12, 29, 21, 4, 16, 61, 182, 0, 201, 54, 5, 21, 5, 158, 0] := by decide +kernel
theorem dwc_491 : (cX5_eveningsOfNewDebts.data.toList.drop 64).take 16 = [10, 31, 10, 21, 5, 121, 129, 64, 132, 4, 1, 167, 255, 199, 132, 3] := by decide +kernel
theorem dwc_492 : (cX5_eveningsOfNewDebts.data.toList.drop 80).take 16 = [1, 167, 255, 179, 31, 173] := by decide +kernel
theorem dX5_eveningsOfNewDebts_0 : decode cX5_eveningsOfNewDebts 0 = .ok (.lconst 0, 1) := dq_9 (dq_w dwc_487 0 rfl)
theorem dX5_eveningsOfNewDebts_1 : decode cX5_eveningsOfNewDebts 1 = .ok (.lstore_n 1, 1) := dq_64 (dq_w dwc_487 1 rfl)
theorem dX5_eveningsOfNewDebts_2 : decode cX5_eveningsOfNewDebts 2 = .ok (.iconst 0, 1) := dq_3 (dq_w dwc_487 2 rfl)
theorem dX5_eveningsOfNewDebts_3 : decode cX5_eveningsOfNewDebts 3 = .ok (.istore_n 3, 1) := dq_62 (dq_w dwc_487 3 rfl)
theorem dX5_eveningsOfNewDebts_4 : decode cX5_eveningsOfNewDebts 4 = .ok (.iload_n 3, 1) := dq_29 (dq_w dwc_487 4 rfl)
theorem dX5_eveningsOfNewDebts_5 : decode cX5_eveningsOfNewDebts 5 = .ok (.aload_n 0, 1) := dq_42 (dq_w dwc_487 5 rfl)
theorem dX5_eveningsOfNewDebts_6 : decode cX5_eveningsOfNewDebts 6 = .ok (.getfield 12, 3) := dq_180 (dq_w dwc_487 6 rfl) (dq_w dwc_487 7 rfl) (dq_w dwc_487 8 rfl) rfl
theorem dX5_eveningsOfNewDebts_9 : decode cX5_eveningsOfNewDebts 9 = .ok (.getfield 158, 3) := dq_180 (dq_w dwc_487 9 rfl) (dq_w dwc_487 10 rfl) (dq_w dwc_487 11 rfl) rfl
theorem dX5_eveningsOfNewDebts_12 : decode cX5_eveningsOfNewDebts 12 = .ok (.if_icmp .ge 72, 3) := dq_162 (dq_w dwc_487 12 rfl) (dq_w dwc_487 13 rfl) (dq_w dwc_487 14 rfl) (dq_p (n := 72) rfl rfl)
theorem dX5_eveningsOfNewDebts_15 : decode cX5_eveningsOfNewDebts 15 = .ok (.iconst 0, 1) := dq_3 (dq_w dwc_487 15 rfl)
theorem dX5_eveningsOfNewDebts_16 : decode cX5_eveningsOfNewDebts 16 = .ok (.istore 4, 2) := dq_54 (dq_w dwc_488 0 rfl) (dq_w dwc_488 1 rfl) rfl
theorem dX5_eveningsOfNewDebts_18 : decode cX5_eveningsOfNewDebts 18 = .ok (.iload 4, 2) := dq_21 (dq_w dwc_488 2 rfl) (dq_w dwc_488 3 rfl) rfl
theorem dX5_eveningsOfNewDebts_20 : decode cX5_eveningsOfNewDebts 20 = .ok (.aload_n 0, 1) := dq_42 (dq_w dwc_488 4 rfl)
theorem dX5_eveningsOfNewDebts_21 : decode cX5_eveningsOfNewDebts 21 = .ok (.getfield 12, 3) := dq_180 (dq_w dwc_488 5 rfl) (dq_w dwc_488 6 rfl) (dq_w dwc_488 7 rfl) rfl
theorem dX5_eveningsOfNewDebts_24 : decode cX5_eveningsOfNewDebts 24 = .ok (.getfield 148, 3) := dq_180 (dq_w dwc_488 8 rfl) (dq_w dwc_488 9 rfl) (dq_w dwc_488 10 rfl) rfl
theorem dX5_eveningsOfNewDebts_27 : decode cX5_eveningsOfNewDebts 27 = .ok (.if_icmp .ge 51, 3) := dq_162 (dq_w dwc_488 11 rfl) (dq_w dwc_488 12 rfl) (dq_w dwc_488 13 rfl) (dq_p (n := 51) rfl rfl)
theorem dX5_eveningsOfNewDebts_30 : decode cX5_eveningsOfNewDebts 30 = .ok (.aload_n 0, 1) := dq_42 (dq_w dwc_488 14 rfl)
theorem dX5_eveningsOfNewDebts_31 : decode cX5_eveningsOfNewDebts 31 = .ok (.getfield 12, 3) := dq_180 (dq_w dwc_488 15 rfl) (dq_w dwc_489 0 rfl) (dq_w dwc_489 1 rfl) rfl
theorem dX5_eveningsOfNewDebts_34 : decode cX5_eveningsOfNewDebts 34 = .ok (.iload_n 3, 1) := dq_29 (dq_w dwc_489 2 rfl)
theorem dX5_eveningsOfNewDebts_35 : decode cX5_eveningsOfNewDebts 35 = .ok (.iload 4, 2) := dq_21 (dq_w dwc_489 3 rfl) (dq_w dwc_489 4 rfl) rfl
theorem dX5_eveningsOfNewDebts_37 : decode cX5_eveningsOfNewDebts 37 = .ok (.invokevirtual 140, 3) := dq_182 (dq_w dwc_489 5 rfl) (dq_w dwc_489 6 rfl) (dq_w dwc_489 7 rfl) rfl
theorem dX5_eveningsOfNewDebts_40 : decode cX5_eveningsOfNewDebts 40 = .ok (.ifCond .eq 6, 3) := dq_153 (dq_w dwc_489 8 rfl) (dq_w dwc_489 9 rfl) (dq_w dwc_489 10 rfl) (dq_p (n := 6) rfl rfl)
theorem dX5_eveningsOfNewDebts_43 : decode cX5_eveningsOfNewDebts 43 = .ok (.goto 29, 3) := dq_167 (dq_w dwc_489 11 rfl) (dq_w dwc_489 12 rfl) (dq_w dwc_489 13 rfl) (dq_p (n := 29) rfl rfl)
theorem dX5_eveningsOfNewDebts_46 : decode cX5_eveningsOfNewDebts 46 = .ok (.aload_n 0, 1) := dq_42 (dq_w dwc_489 14 rfl)
theorem dX5_eveningsOfNewDebts_47 : decode cX5_eveningsOfNewDebts 47 = .ok (.getfield 12, 3) := dq_180 (dq_w dwc_489 15 rfl) (dq_w dwc_490 0 rfl) (dq_w dwc_490 1 rfl) rfl
theorem dX5_eveningsOfNewDebts_50 : decode cX5_eveningsOfNewDebts 50 = .ok (.iload_n 3, 1) := dq_29 (dq_w dwc_490 2 rfl)
theorem dX5_eveningsOfNewDebts_51 : decode cX5_eveningsOfNewDebts 51 = .ok (.iload 4, 2) := dq_21 (dq_w dwc_490 3 rfl) (dq_w dwc_490 4 rfl) rfl
theorem dX5_eveningsOfNewDebts_53 : decode cX5_eveningsOfNewDebts 53 = .ok (.bipush 61, 2) := dq_16 (dq_w dwc_490 5 rfl) (dq_w dwc_490 6 rfl) rfl
theorem dX5_eveningsOfNewDebts_55 : decode cX5_eveningsOfNewDebts 55 = .ok (.invokevirtual 201, 3) := dq_182 (dq_w dwc_490 7 rfl) (dq_w dwc_490 8 rfl) (dq_w dwc_490 9 rfl) rfl
theorem dX5_eveningsOfNewDebts_58 : decode cX5_eveningsOfNewDebts 58 = .ok (.istore 5, 2) := dq_54 (dq_w dwc_490 10 rfl) (dq_w dwc_490 11 rfl) rfl
theorem dX5_eveningsOfNewDebts_60 : decode cX5_eveningsOfNewDebts 60 = .ok (.iload 5, 2) := dq_21 (dq_w dwc_490 12 rfl) (dq_w dwc_490 13 rfl) rfl
theorem dX5_eveningsOfNewDebts_62 : decode cX5_eveningsOfNewDebts 62 = .ok (.ifCond .le 10, 3) := dq_158 (dq_w dwc_490 14 rfl) (dq_w dwc_490 15 rfl) (dq_w dwc_491 0 rfl) (dq_p (n := 10) rfl rfl)
theorem dX5_eveningsOfNewDebts_65 : decode cX5_eveningsOfNewDebts 65 = .ok (.lload_n 1, 1) := dq_31 (dq_w dwc_491 1 rfl)
theorem dX5_eveningsOfNewDebts_66 : decode cX5_eveningsOfNewDebts 66 = .ok (.lconst 1, 1) := dq_10 (dq_w dwc_491 2 rfl)
theorem dX5_eveningsOfNewDebts_67 : decode cX5_eveningsOfNewDebts 67 = .ok (.iload 5, 2) := dq_21 (dq_w dwc_491 3 rfl) (dq_w dwc_491 4 rfl) rfl
theorem dX5_eveningsOfNewDebts_69 : decode cX5_eveningsOfNewDebts 69 = .ok (.lshl, 1) := dq_121 (dq_w dwc_491 5 rfl)
theorem dX5_eveningsOfNewDebts_70 : decode cX5_eveningsOfNewDebts 70 = .ok (.lor, 1) := dq_129 (dq_w dwc_491 6 rfl)
theorem dX5_eveningsOfNewDebts_71 : decode cX5_eveningsOfNewDebts 71 = .ok (.lstore_n 1, 1) := dq_64 (dq_w dwc_491 7 rfl)
theorem dX5_eveningsOfNewDebts_72 : decode cX5_eveningsOfNewDebts 72 = .ok (.iinc 4 1, 3) := dq_132 (dq_w dwc_491 8 rfl) (dq_w dwc_491 9 rfl) rfl (dq_w dwc_491 10 rfl) rfl
theorem dX5_eveningsOfNewDebts_75 : decode cX5_eveningsOfNewDebts 75 = .ok (.goto (-57), 3) := dq_167 (dq_w dwc_491 11 rfl) (dq_w dwc_491 12 rfl) (dq_w dwc_491 13 rfl) (dq_n (m := 57) rfl rfl)
theorem dX5_eveningsOfNewDebts_78 : decode cX5_eveningsOfNewDebts 78 = .ok (.iinc 3 1, 3) := dq_132 (dq_w dwc_491 14 rfl) (dq_w dwc_491 15 rfl) rfl (dq_w dwc_492 0 rfl) rfl
theorem dX5_eveningsOfNewDebts_81 : decode cX5_eveningsOfNewDebts 81 = .ok (.goto (-77), 3) := dq_167 (dq_w dwc_492 1 rfl) (dq_w dwc_492 2 rfl) (dq_w dwc_492 3 rfl) (dq_n (m := 77) rfl rfl)
theorem dX5_eveningsOfNewDebts_84 : decode cX5_eveningsOfNewDebts 84 = .ok (.lload_n 1, 1) := dq_31 (dq_w dwc_492 4 rfl)
theorem dX5_eveningsOfNewDebts_85 : decode cX5_eveningsOfNewDebts 85 = .ok (.lreturn, 1) := dq_173 (dq_w dwc_492 5 rfl)
theorem dwc_493 : (cX5_nextSeed.data.toList.drop 0).take 16 = [26, 19, 1, 52, 104, 17, 48, 57, 96, 172] := by decide +kernel
theorem dX5_nextSeed_0 : decode cX5_nextSeed 0 = .ok (.iload_n 0, 1) := dq_26 (dq_w dwc_493 0 rfl)
theorem dX5_nextSeed_1 : decode cX5_nextSeed 1 = .ok (.ldc_w 308, 3) := dq_19 (dq_w dwc_493 1 rfl) (dq_w dwc_493 2 rfl) (dq_w dwc_493 3 rfl) rfl
theorem dX5_nextSeed_4 : decode cX5_nextSeed 4 = .ok (.imul, 1) := dq_104 (dq_w dwc_493 4 rfl)
theorem dX5_nextSeed_5 : decode cX5_nextSeed 5 = .ok (.sipush 12345, 3) := dq_17 (dq_w dwc_493 5 rfl) (dq_w dwc_493 6 rfl) (dq_w dwc_493 7 rfl) (dq_p (n := 12345) rfl rfl)
theorem dX5_nextSeed_8 : decode cX5_nextSeed 8 = .ok (.iadd, 1) := dq_96 (dq_w dwc_493 8 rfl)
theorem dX5_nextSeed_9 : decode cX5_nextSeed 9 = .ok (.ireturn, 1) := dq_172 (dq_w dwc_493 9 rfl)
theorem dwc_494 : (cX5_drawnCell.data.toList.drop 0).take 16 = [26, 19, 1, 53, 126, 19, 1, 54, 108, 16, 49, 112, 172] := by decide +kernel
theorem dX5_drawnCell_0 : decode cX5_drawnCell 0 = .ok (.iload_n 0, 1) := dq_26 (dq_w dwc_494 0 rfl)
theorem dX5_drawnCell_1 : decode cX5_drawnCell 1 = .ok (.ldc_w 309, 3) := dq_19 (dq_w dwc_494 1 rfl) (dq_w dwc_494 2 rfl) (dq_w dwc_494 3 rfl) rfl
theorem dX5_drawnCell_4 : decode cX5_drawnCell 4 = .ok (.iand, 1) := dq_126 (dq_w dwc_494 4 rfl)
theorem dX5_drawnCell_5 : decode cX5_drawnCell 5 = .ok (.ldc_w 310, 3) := dq_19 (dq_w dwc_494 5 rfl) (dq_w dwc_494 6 rfl) (dq_w dwc_494 7 rfl) rfl
theorem dX5_drawnCell_8 : decode cX5_drawnCell 8 = .ok (.idiv, 1) := dq_108 (dq_w dwc_494 8 rfl)
theorem dX5_drawnCell_9 : decode cX5_drawnCell 9 = .ok (.bipush 49, 2) := dq_16 (dq_w dwc_494 9 rfl) (dq_w dwc_494 10 rfl) rfl
theorem dX5_drawnCell_11 : decode cX5_drawnCell 11 = .ok (.irem, 1) := dq_112 (dq_w dwc_494 11 rfl)
theorem dX5_drawnCell_12 : decode cX5_drawnCell 12 = .ok (.ireturn, 1) := dq_172 (dq_w dwc_494 12 rfl)
theorem dwc_495 : (cX5_isCell.data.toList.drop 0).take 16 = [26, 155, 0, 13, 26, 16, 49, 162, 0, 7, 4, 167, 0, 4, 3, 172] := by decide +kernel
theorem dX5_isCell_0 : decode cX5_isCell 0 = .ok (.iload_n 0, 1) := dq_26 (dq_w dwc_495 0 rfl)
theorem dX5_isCell_1 : decode cX5_isCell 1 = .ok (.ifCond .lt 13, 3) := dq_155 (dq_w dwc_495 1 rfl) (dq_w dwc_495 2 rfl) (dq_w dwc_495 3 rfl) (dq_p (n := 13) rfl rfl)
theorem dX5_isCell_4 : decode cX5_isCell 4 = .ok (.iload_n 0, 1) := dq_26 (dq_w dwc_495 4 rfl)
theorem dX5_isCell_5 : decode cX5_isCell 5 = .ok (.bipush 49, 2) := dq_16 (dq_w dwc_495 5 rfl) (dq_w dwc_495 6 rfl) rfl
theorem dX5_isCell_7 : decode cX5_isCell 7 = .ok (.if_icmp .ge 7, 3) := dq_162 (dq_w dwc_495 7 rfl) (dq_w dwc_495 8 rfl) (dq_w dwc_495 9 rfl) (dq_p (n := 7) rfl rfl)
theorem dX5_isCell_10 : decode cX5_isCell 10 = .ok (.iconst 1, 1) := dq_4 (dq_w dwc_495 10 rfl)
theorem dX5_isCell_11 : decode cX5_isCell 11 = .ok (.goto 4, 3) := dq_167 (dq_w dwc_495 11 rfl) (dq_w dwc_495 12 rfl) (dq_w dwc_495 13 rfl) (dq_p (n := 4) rfl rfl)
theorem dX5_isCell_14 : decode cX5_isCell 14 = .ok (.iconst 0, 1) := dq_3 (dq_w dwc_495 14 rfl)
theorem dX5_isCell_15 : decode cX5_isCell 15 = .ok (.ireturn, 1) := dq_172 (dq_w dwc_495 15 rfl)
theorem dwc_496 : (cX5_steps.data.toList.drop 0).take 16 = [26, 16, 7, 108, 27, 16, 7, 108, 100, 184, 1, 55, 26, 16, 7, 112] := by decide +kernel
theorem dwc_497 : (cX5_steps.data.toList.drop 16).take 16 = [27, 16, 7, 112, 100, 184, 1, 55, 96, 172] := by decide +kernel
theorem dX5_steps_0 : decode cX5_steps 0 = .ok (.iload_n 0, 1) := dq_26 (dq_w dwc_496 0 rfl)
theorem dX5_steps_1 : decode cX5_steps 1 = .ok (.bipush 7, 2) := dq_16 (dq_w dwc_496 1 rfl) (dq_w dwc_496 2 rfl) rfl
theorem dX5_steps_3 : decode cX5_steps 3 = .ok (.idiv, 1) := dq_108 (dq_w dwc_496 3 rfl)
theorem dX5_steps_4 : decode cX5_steps 4 = .ok (.iload_n 1, 1) := dq_27 (dq_w dwc_496 4 rfl)
theorem dX5_steps_5 : decode cX5_steps 5 = .ok (.bipush 7, 2) := dq_16 (dq_w dwc_496 5 rfl) (dq_w dwc_496 6 rfl) rfl
theorem dX5_steps_7 : decode cX5_steps 7 = .ok (.idiv, 1) := dq_108 (dq_w dwc_496 7 rfl)
theorem dX5_steps_8 : decode cX5_steps 8 = .ok (.isub, 1) := dq_100 (dq_w dwc_496 8 rfl)
theorem dX5_steps_9 : decode cX5_steps 9 = .ok (.invokestatic 311, 3) := dq_184 (dq_w dwc_496 9 rfl) (dq_w dwc_496 10 rfl) (dq_w dwc_496 11 rfl) rfl
theorem dX5_steps_12 : decode cX5_steps 12 = .ok (.iload_n 0, 1) := dq_26 (dq_w dwc_496 12 rfl)
theorem dX5_steps_13 : decode cX5_steps 13 = .ok (.bipush 7, 2) := dq_16 (dq_w dwc_496 13 rfl) (dq_w dwc_496 14 rfl) rfl
theorem dX5_steps_15 : decode cX5_steps 15 = .ok (.irem, 1) := dq_112 (dq_w dwc_496 15 rfl)
theorem dX5_steps_16 : decode cX5_steps 16 = .ok (.iload_n 1, 1) := dq_27 (dq_w dwc_497 0 rfl)
theorem dX5_steps_17 : decode cX5_steps 17 = .ok (.bipush 7, 2) := dq_16 (dq_w dwc_497 1 rfl) (dq_w dwc_497 2 rfl) rfl
theorem dX5_steps_19 : decode cX5_steps 19 = .ok (.irem, 1) := dq_112 (dq_w dwc_497 3 rfl)
theorem dX5_steps_20 : decode cX5_steps 20 = .ok (.isub, 1) := dq_100 (dq_w dwc_497 4 rfl)
theorem dX5_steps_21 : decode cX5_steps 21 = .ok (.invokestatic 311, 3) := dq_184 (dq_w dwc_497 5 rfl) (dq_w dwc_497 6 rfl) (dq_w dwc_497 7 rfl) rfl
theorem dX5_steps_24 : decode cX5_steps 24 = .ok (.iadd, 1) := dq_96 (dq_w dwc_497 8 rfl)
theorem dX5_steps_25 : decode cX5_steps 25 = .ok (.ireturn, 1) := dq_172 (dq_w dwc_497 9 rfl)
theorem dwc_498 : (cX5_stepTowards.data.toList.drop 0).take 16 = [26, 16, 7, 108, 27, 16, 7, 108, 162, 0, 8, 26, 16, 7, 96, 172] := by decide +kernel
theorem dwc_499 : (cX5_stepTowards.data.toList.drop 16).take 16 = [26, 16, 7, 108, 27, 16, 7, 108, 164, 0, 8, 26, 16, 7, 100, 172] := by decide +kernel
theorem dwc_500 : (cX5_stepTowards.data.toList.drop 32).take 16 = [26, 27, 26, 184, 1, 58, 96, 172] := by decide +kernel
theorem dX5_stepTowards_0 : decode cX5_stepTowards 0 = .ok (.iload_n 0, 1) := dq_26 (dq_w dwc_498 0 rfl)
theorem dX5_stepTowards_1 : decode cX5_stepTowards 1 = .ok (.bipush 7, 2) := dq_16 (dq_w dwc_498 1 rfl) (dq_w dwc_498 2 rfl) rfl
theorem dX5_stepTowards_3 : decode cX5_stepTowards 3 = .ok (.idiv, 1) := dq_108 (dq_w dwc_498 3 rfl)
theorem dX5_stepTowards_4 : decode cX5_stepTowards 4 = .ok (.iload_n 1, 1) := dq_27 (dq_w dwc_498 4 rfl)
theorem dX5_stepTowards_5 : decode cX5_stepTowards 5 = .ok (.bipush 7, 2) := dq_16 (dq_w dwc_498 5 rfl) (dq_w dwc_498 6 rfl) rfl
theorem dX5_stepTowards_7 : decode cX5_stepTowards 7 = .ok (.idiv, 1) := dq_108 (dq_w dwc_498 7 rfl)
theorem dX5_stepTowards_8 : decode cX5_stepTowards 8 = .ok (.if_icmp .ge 8, 3) := dq_162 (dq_w dwc_498 8 rfl) (dq_w dwc_498 9 rfl) (dq_w dwc_498 10 rfl) (dq_p (n := 8) rfl rfl)
theorem dX5_stepTowards_11 : decode cX5_stepTowards 11 = .ok (.iload_n 0, 1) := dq_26 (dq_w dwc_498 11 rfl)
theorem dX5_stepTowards_12 : decode cX5_stepTowards 12 = .ok (.bipush 7, 2) := dq_16 (dq_w dwc_498 12 rfl) (dq_w dwc_498 13 rfl) rfl
theorem dX5_stepTowards_14 : decode cX5_stepTowards 14 = .ok (.iadd, 1) := dq_96 (dq_w dwc_498 14 rfl)
theorem dX5_stepTowards_15 : decode cX5_stepTowards 15 = .ok (.ireturn, 1) := dq_172 (dq_w dwc_498 15 rfl)
theorem dX5_stepTowards_16 : decode cX5_stepTowards 16 = .ok (.iload_n 0, 1) := dq_26 (dq_w dwc_499 0 rfl)
theorem dX5_stepTowards_17 : decode cX5_stepTowards 17 = .ok (.bipush 7, 2) := dq_16 (dq_w dwc_499 1 rfl) (dq_w dwc_499 2 rfl) rfl
theorem dX5_stepTowards_19 : decode cX5_stepTowards 19 = .ok (.idiv, 1) := dq_108 (dq_w dwc_499 3 rfl)
theorem dX5_stepTowards_20 : decode cX5_stepTowards 20 = .ok (.iload_n 1, 1) := dq_27 (dq_w dwc_499 4 rfl)
theorem dX5_stepTowards_21 : decode cX5_stepTowards 21 = .ok (.bipush 7, 2) := dq_16 (dq_w dwc_499 5 rfl) (dq_w dwc_499 6 rfl) rfl
theorem dX5_stepTowards_23 : decode cX5_stepTowards 23 = .ok (.idiv, 1) := dq_108 (dq_w dwc_499 7 rfl)
theorem dX5_stepTowards_24 : decode cX5_stepTowards 24 = .ok (.if_icmp .le 8, 3) := dq_164 (dq_w dwc_499 8 rfl) (dq_w dwc_499 9 rfl) (dq_w dwc_499 10 rfl) (dq_p (n := 8) rfl rfl)
theorem dX5_stepTowards_27 : decode cX5_stepTowards 27 = .ok (.iload_n 0, 1) := dq_26 (dq_w dwc_499 11 rfl)
theorem dX5_stepTowards_28 : decode cX5_stepTowards 28 = .ok (.bipush 7, 2) := dq_16 (dq_w dwc_499 12 rfl) (dq_w dwc_499 13 rfl) rfl
theorem dX5_stepTowards_30 : decode cX5_stepTowards 30 = .ok (.isub, 1) := dq_100 (dq_w dwc_499 14 rfl)
theorem dX5_stepTowards_31 : decode cX5_stepTowards 31 = .ok (.ireturn, 1) := dq_172 (dq_w dwc_499 15 rfl)
theorem dX5_stepTowards_32 : decode cX5_stepTowards 32 = .ok (.iload_n 0, 1) := dq_26 (dq_w dwc_500 0 rfl)
theorem dX5_stepTowards_33 : decode cX5_stepTowards 33 = .ok (.iload_n 1, 1) := dq_27 (dq_w dwc_500 1 rfl)
theorem dX5_stepTowards_34 : decode cX5_stepTowards 34 = .ok (.iload_n 0, 1) := dq_26 (dq_w dwc_500 2 rfl)
theorem dX5_stepTowards_35 : decode cX5_stepTowards 35 = .ok (.invokestatic 314, 3) := dq_184 (dq_w dwc_500 3 rfl) (dq_w dwc_500 4 rfl) (dq_w dwc_500 5 rfl) rfl
theorem dX5_stepTowards_38 : decode cX5_stepTowards 38 = .ok (.iadd, 1) := dq_96 (dq_w dwc_500 6 rfl)
theorem dX5_stepTowards_39 : decode cX5_stepTowards 39 = .ok (.ireturn, 1) := dq_172 (dq_w dwc_500 7 rfl)
theorem dwc_501 : (cX5_reach.data.toList.drop 0).take 16 = [26, 170, 0, 0, 0, 0, 0, 57, 0, 0, 0, 0, 0, 0, 0, 5] := by decide +kernel
theorem dwc_502 : (cX5_reach.data.toList.drop 32).take 16 = [0, 0, 0, 49, 0, 0, 0, 51, 5, 172, 6, 172, 5, 27, 5, 108] := by decide +kernel
theorem dwc_503 : (cX5_reach.data.toList.drop 48).take 16 = [96, 172, 4, 172, 7, 27, 5, 108, 96, 172, 3, 172] := by decide +kernel
theorem dX5_reach_0 : decode cX5_reach 0 = .ok (.iload_n 0, 1) := dq_26 (dq_w dwc_501 0 rfl)
theorem dX5_reach_1 : decode cX5_reach 1 = .ok (.tableswitch 57 0 5 #[39, 41, 57, 43, 49, 51], 39) := by decide +kernel
theorem dX5_reach_40 : decode cX5_reach 40 = .ok (.iconst 2, 1) := dq_5 (dq_w dwc_502 8 rfl)
theorem dX5_reach_41 : decode cX5_reach 41 = .ok (.ireturn, 1) := dq_172 (dq_w dwc_502 9 rfl)
theorem dX5_reach_42 : decode cX5_reach 42 = .ok (.iconst 3, 1) := dq_6 (dq_w dwc_502 10 rfl)
theorem dX5_reach_43 : decode cX5_reach 43 = .ok (.ireturn, 1) := dq_172 (dq_w dwc_502 11 rfl)
theorem dX5_reach_44 : decode cX5_reach 44 = .ok (.iconst 2, 1) := dq_5 (dq_w dwc_502 12 rfl)
theorem dX5_reach_45 : decode cX5_reach 45 = .ok (.iload_n 1, 1) := dq_27 (dq_w dwc_502 13 rfl)
theorem dX5_reach_46 : decode cX5_reach 46 = .ok (.iconst 2, 1) := dq_5 (dq_w dwc_502 14 rfl)
theorem dX5_reach_47 : decode cX5_reach 47 = .ok (.idiv, 1) := dq_108 (dq_w dwc_502 15 rfl)
theorem dX5_reach_48 : decode cX5_reach 48 = .ok (.iadd, 1) := dq_96 (dq_w dwc_503 0 rfl)
theorem dX5_reach_49 : decode cX5_reach 49 = .ok (.ireturn, 1) := dq_172 (dq_w dwc_503 1 rfl)
theorem dX5_reach_50 : decode cX5_reach 50 = .ok (.iconst 1, 1) := dq_4 (dq_w dwc_503 2 rfl)
theorem dX5_reach_51 : decode cX5_reach 51 = .ok (.ireturn, 1) := dq_172 (dq_w dwc_503 3 rfl)
theorem dX5_reach_52 : decode cX5_reach 52 = .ok (.iconst 4, 1) := dq_7 (dq_w dwc_503 4 rfl)
theorem dX5_reach_53 : decode cX5_reach 53 = .ok (.iload_n 1, 1) := dq_27 (dq_w dwc_503 5 rfl)
theorem dX5_reach_54 : decode cX5_reach 54 = .ok (.iconst 2, 1) := dq_5 (dq_w dwc_503 6 rfl)
theorem dX5_reach_55 : decode cX5_reach 55 = .ok (.idiv, 1) := dq_108 (dq_w dwc_503 7 rfl)
theorem dX5_reach_56 : decode cX5_reach 56 = .ok (.iadd, 1) := dq_96 (dq_w dwc_503 8 rfl)
theorem dX5_reach_57 : decode cX5_reach 57 = .ok (.ireturn, 1) := dq_172 (dq_w dwc_503 9 rfl)
theorem dX5_reach_58 : decode cX5_reach 58 = .ok (.iconst 0, 1) := dq_3 (dq_w dwc_503 10 rfl)
theorem dX5_reach_59 : decode cX5_reach 59 = .ok (.ireturn, 1) := dq_172 (dq_w dwc_503 11 rfl)
theorem dwc_504 : (cX5_minutes.data.toList.drop 0).take 16 = [27, 8, 96, 62, 26, 170, 0, 0, 0, 0, 0, 63, 0, 0, 0, 1] := by decide +kernel
theorem dwc_505 : (cX5_minutes.data.toList.drop 32).take 16 = [0, 0, 0, 48, 0, 0, 0, 54, 5, 29, 104, 172, 29, 5, 108, 172] := by decide +kernel
theorem dwc_506 : (cX5_minutes.data.toList.drop 48).take 16 = [29, 16, 20, 96, 172, 29, 5, 108, 28, 96, 172, 29, 16, 20, 96, 5] := by decide +kernel
theorem dwc_507 : (cX5_minutes.data.toList.drop 64).take 16 = [28, 104, 96, 172, 29, 172] := by decide +kernel
theorem dX5_minutes_0 : decode cX5_minutes 0 = .ok (.iload_n 1, 1) := dq_27 (dq_w dwc_504 0 rfl)
theorem dX5_minutes_1 : decode cX5_minutes 1 = .ok (.iconst 5, 1) := dq_8 (dq_w dwc_504 1 rfl)
theorem dX5_minutes_2 : decode cX5_minutes 2 = .ok (.iadd, 1) := dq_96 (dq_w dwc_504 2 rfl)
theorem dX5_minutes_3 : decode cX5_minutes 3 = .ok (.istore_n 3, 1) := dq_62 (dq_w dwc_504 3 rfl)
theorem dX5_minutes_4 : decode cX5_minutes 4 = .ok (.iload_n 0, 1) := dq_26 (dq_w dwc_504 4 rfl)
theorem dX5_minutes_5 : decode cX5_minutes 5 = .ok (.tableswitch 63 1 5 #[35, 39, 43, 48, 54], 35) := by decide +kernel
theorem dX5_minutes_40 : decode cX5_minutes 40 = .ok (.iconst 2, 1) := dq_5 (dq_w dwc_505 8 rfl)
theorem dX5_minutes_41 : decode cX5_minutes 41 = .ok (.iload_n 3, 1) := dq_29 (dq_w dwc_505 9 rfl)
theorem dX5_minutes_42 : decode cX5_minutes 42 = .ok (.imul, 1) := dq_104 (dq_w dwc_505 10 rfl)
theorem dX5_minutes_43 : decode cX5_minutes 43 = .ok (.ireturn, 1) := dq_172 (dq_w dwc_505 11 rfl)
theorem dX5_minutes_44 : decode cX5_minutes 44 = .ok (.iload_n 3, 1) := dq_29 (dq_w dwc_505 12 rfl)
theorem dX5_minutes_45 : decode cX5_minutes 45 = .ok (.iconst 2, 1) := dq_5 (dq_w dwc_505 13 rfl)
theorem dX5_minutes_46 : decode cX5_minutes 46 = .ok (.idiv, 1) := dq_108 (dq_w dwc_505 14 rfl)
theorem dX5_minutes_47 : decode cX5_minutes 47 = .ok (.ireturn, 1) := dq_172 (dq_w dwc_505 15 rfl)
theorem dX5_minutes_48 : decode cX5_minutes 48 = .ok (.iload_n 3, 1) := dq_29 (dq_w dwc_506 0 rfl)
theorem dX5_minutes_49 : decode cX5_minutes 49 = .ok (.bipush 20, 2) := dq_16 (dq_w dwc_506 1 rfl) (dq_w dwc_506 2 rfl) rfl
theorem dX5_minutes_51 : decode cX5_minutes 51 = .ok (.iadd, 1) := dq_96 (dq_w dwc_506 3 rfl)
theorem dX5_minutes_52 : decode cX5_minutes 52 = .ok (.ireturn, 1) := dq_172 (dq_w dwc_506 4 rfl)
theorem dX5_minutes_53 : decode cX5_minutes 53 = .ok (.iload_n 3, 1) := dq_29 (dq_w dwc_506 5 rfl)
theorem dX5_minutes_54 : decode cX5_minutes 54 = .ok (.iconst 2, 1) := dq_5 (dq_w dwc_506 6 rfl)
theorem dX5_minutes_55 : decode cX5_minutes 55 = .ok (.idiv, 1) := dq_108 (dq_w dwc_506 7 rfl)
theorem dX5_minutes_56 : decode cX5_minutes 56 = .ok (.iload_n 2, 1) := dq_28 (dq_w dwc_506 8 rfl)
theorem dX5_minutes_57 : decode cX5_minutes 57 = .ok (.iadd, 1) := dq_96 (dq_w dwc_506 9 rfl)
theorem dX5_minutes_58 : decode cX5_minutes 58 = .ok (.ireturn, 1) := dq_172 (dq_w dwc_506 10 rfl)
theorem dX5_minutes_59 : decode cX5_minutes 59 = .ok (.iload_n 3, 1) := dq_29 (dq_w dwc_506 11 rfl)
theorem dX5_minutes_60 : decode cX5_minutes 60 = .ok (.bipush 20, 2) := dq_16 (dq_w dwc_506 12 rfl) (dq_w dwc_506 13 rfl) rfl
theorem dX5_minutes_62 : decode cX5_minutes 62 = .ok (.iadd, 1) := dq_96 (dq_w dwc_506 14 rfl)
theorem dX5_minutes_63 : decode cX5_minutes 63 = .ok (.iconst 2, 1) := dq_5 (dq_w dwc_506 15 rfl)
theorem dX5_minutes_64 : decode cX5_minutes 64 = .ok (.iload_n 2, 1) := dq_28 (dq_w dwc_507 0 rfl)
theorem dX5_minutes_65 : decode cX5_minutes 65 = .ok (.imul, 1) := dq_104 (dq_w dwc_507 1 rfl)
theorem dX5_minutes_66 : decode cX5_minutes 66 = .ok (.iadd, 1) := dq_96 (dq_w dwc_507 2 rfl)
theorem dX5_minutes_67 : decode cX5_minutes 67 = .ok (.ireturn, 1) := dq_172 (dq_w dwc_507 3 rfl)
theorem dX5_minutes_68 : decode cX5_minutes 68 = .ok (.iload_n 3, 1) := dq_29 (dq_w dwc_507 4 rfl)
theorem dX5_minutes_69 : decode cX5_minutes 69 = .ok (.ireturn, 1) := dq_172 (dq_w dwc_507 5 rfl)
theorem dwc_508 : (cJ6_compare_7cf53.data.toList.drop 0).take 16 = [26, 27, 162, 0, 7, 2, 167, 0, 13, 26, 27, 160, 0, 7, 3, 167] := by decide +kernel
theorem dwc_509 : (cJ6_compare_7cf53.data.toList.drop 16).take 16 = [0, 4, 4, 172] := by decide +kernel
theorem dJ6_compare_7cf53_0 : decode cJ6_compare_7cf53 0 = .ok (.iload_n 0, 1) := dq_26 (dq_w dwc_508 0 rfl)
theorem dJ6_compare_7cf53_1 : decode cJ6_compare_7cf53 1 = .ok (.iload_n 1, 1) := dq_27 (dq_w dwc_508 1 rfl)
theorem dJ6_compare_7cf53_2 : decode cJ6_compare_7cf53 2 = .ok (.if_icmp .ge 7, 3) := dq_162 (dq_w dwc_508 2 rfl) (dq_w dwc_508 3 rfl) (dq_w dwc_508 4 rfl) (dq_p (n := 7) rfl rfl)
theorem dJ6_compare_7cf53_5 : decode cJ6_compare_7cf53 5 = .ok (.iconst (-1), 1) := dq_2 (dq_w dwc_508 5 rfl)
theorem dJ6_compare_7cf53_6 : decode cJ6_compare_7cf53 6 = .ok (.goto 13, 3) := dq_167 (dq_w dwc_508 6 rfl) (dq_w dwc_508 7 rfl) (dq_w dwc_508 8 rfl) (dq_p (n := 13) rfl rfl)
theorem dJ6_compare_7cf53_9 : decode cJ6_compare_7cf53 9 = .ok (.iload_n 0, 1) := dq_26 (dq_w dwc_508 9 rfl)
theorem dJ6_compare_7cf53_10 : decode cJ6_compare_7cf53 10 = .ok (.iload_n 1, 1) := dq_27 (dq_w dwc_508 10 rfl)
theorem dJ6_compare_7cf53_11 : decode cJ6_compare_7cf53 11 = .ok (.if_icmp .ne 7, 3) := dq_160 (dq_w dwc_508 11 rfl) (dq_w dwc_508 12 rfl) (dq_w dwc_508 13 rfl) (dq_p (n := 7) rfl rfl)
theorem dJ6_compare_7cf53_14 : decode cJ6_compare_7cf53 14 = .ok (.iconst 0, 1) := dq_3 (dq_w dwc_508 14 rfl)
theorem dJ6_compare_7cf53_15 : decode cJ6_compare_7cf53 15 = .ok (.goto 4, 3) := dq_167 (dq_w dwc_508 15 rfl) (dq_w dwc_509 0 rfl) (dq_w dwc_509 1 rfl) (dq_p (n := 4) rfl rfl)
theorem dJ6_compare_7cf53_18 : decode cJ6_compare_7cf53 18 = .ok (.iconst 1, 1) := dq_4 (dq_w dwc_509 2 rfl)
theorem dJ6_compare_7cf53_19 : decode cJ6_compare_7cf53 19 = .ok (.ireturn, 1) := dq_172 (dq_w dwc_509 3 rfl)
theorem dwc_510 : (cJ6_bitCount_0f7a4.data.toList.drop 0).take 16 = [26, 26, 4, 124, 19, 1, 9, 126, 100, 59, 26, 19, 1, 10, 126, 26] := by decide +kernel
theorem dwc_511 : (cJ6_bitCount_0f7a4.data.toList.drop 16).take 16 = [5, 124, 19, 1, 10, 126, 96, 59, 26, 26, 7, 124, 96, 19, 1, 11] := by decide +kernel
theorem dwc_512 : (cJ6_bitCount_0f7a4.data.toList.drop 32).take 16 = [126, 59, 26, 26, 16, 8, 124, 96, 59, 26, 26, 16, 16, 124, 96, 59] := by decide +kernel
theorem dwc_513 : (cJ6_bitCount_0f7a4.data.toList.drop 48).take 16 = [26, 16, 63, 126, 172] := by decide +kernel
theorem dJ6_bitCount_0f7a4_0 : decode cJ6_bitCount_0f7a4 0 = .ok (.iload_n 0, 1) := dq_26 (dq_w dwc_510 0 rfl)
theorem dJ6_bitCount_0f7a4_1 : decode cJ6_bitCount_0f7a4 1 = .ok (.iload_n 0, 1) := dq_26 (dq_w dwc_510 1 rfl)
theorem dJ6_bitCount_0f7a4_2 : decode cJ6_bitCount_0f7a4 2 = .ok (.iconst 1, 1) := dq_4 (dq_w dwc_510 2 rfl)
theorem dJ6_bitCount_0f7a4_3 : decode cJ6_bitCount_0f7a4 3 = .ok (.iushr, 1) := dq_124 (dq_w dwc_510 3 rfl)
theorem dJ6_bitCount_0f7a4_4 : decode cJ6_bitCount_0f7a4 4 = .ok (.ldc_w 265, 3) := dq_19 (dq_w dwc_510 4 rfl) (dq_w dwc_510 5 rfl) (dq_w dwc_510 6 rfl) rfl
theorem dJ6_bitCount_0f7a4_7 : decode cJ6_bitCount_0f7a4 7 = .ok (.iand, 1) := dq_126 (dq_w dwc_510 7 rfl)
theorem dJ6_bitCount_0f7a4_8 : decode cJ6_bitCount_0f7a4 8 = .ok (.isub, 1) := dq_100 (dq_w dwc_510 8 rfl)
theorem dJ6_bitCount_0f7a4_9 : decode cJ6_bitCount_0f7a4 9 = .ok (.istore_n 0, 1) := dq_59 (dq_w dwc_510 9 rfl)
theorem dJ6_bitCount_0f7a4_10 : decode cJ6_bitCount_0f7a4 10 = .ok (.iload_n 0, 1) := dq_26 (dq_w dwc_510 10 rfl)
theorem dJ6_bitCount_0f7a4_11 : decode cJ6_bitCount_0f7a4 11 = .ok (.ldc_w 266, 3) := dq_19 (dq_w dwc_510 11 rfl) (dq_w dwc_510 12 rfl) (dq_w dwc_510 13 rfl) rfl
theorem dJ6_bitCount_0f7a4_14 : decode cJ6_bitCount_0f7a4 14 = .ok (.iand, 1) := dq_126 (dq_w dwc_510 14 rfl)
theorem dJ6_bitCount_0f7a4_15 : decode cJ6_bitCount_0f7a4 15 = .ok (.iload_n 0, 1) := dq_26 (dq_w dwc_510 15 rfl)
theorem dJ6_bitCount_0f7a4_16 : decode cJ6_bitCount_0f7a4 16 = .ok (.iconst 2, 1) := dq_5 (dq_w dwc_511 0 rfl)
theorem dJ6_bitCount_0f7a4_17 : decode cJ6_bitCount_0f7a4 17 = .ok (.iushr, 1) := dq_124 (dq_w dwc_511 1 rfl)
theorem dJ6_bitCount_0f7a4_18 : decode cJ6_bitCount_0f7a4 18 = .ok (.ldc_w 266, 3) := dq_19 (dq_w dwc_511 2 rfl) (dq_w dwc_511 3 rfl) (dq_w dwc_511 4 rfl) rfl
theorem dJ6_bitCount_0f7a4_21 : decode cJ6_bitCount_0f7a4 21 = .ok (.iand, 1) := dq_126 (dq_w dwc_511 5 rfl)
theorem dJ6_bitCount_0f7a4_22 : decode cJ6_bitCount_0f7a4 22 = .ok (.iadd, 1) := dq_96 (dq_w dwc_511 6 rfl)
theorem dJ6_bitCount_0f7a4_23 : decode cJ6_bitCount_0f7a4 23 = .ok (.istore_n 0, 1) := dq_59 (dq_w dwc_511 7 rfl)
theorem dJ6_bitCount_0f7a4_24 : decode cJ6_bitCount_0f7a4 24 = .ok (.iload_n 0, 1) := dq_26 (dq_w dwc_511 8 rfl)
theorem dJ6_bitCount_0f7a4_25 : decode cJ6_bitCount_0f7a4 25 = .ok (.iload_n 0, 1) := dq_26 (dq_w dwc_511 9 rfl)
theorem dJ6_bitCount_0f7a4_26 : decode cJ6_bitCount_0f7a4 26 = .ok (.iconst 4, 1) := dq_7 (dq_w dwc_511 10 rfl)
theorem dJ6_bitCount_0f7a4_27 : decode cJ6_bitCount_0f7a4 27 = .ok (.iushr, 1) := dq_124 (dq_w dwc_511 11 rfl)
theorem dJ6_bitCount_0f7a4_28 : decode cJ6_bitCount_0f7a4 28 = .ok (.iadd, 1) := dq_96 (dq_w dwc_511 12 rfl)
theorem dJ6_bitCount_0f7a4_29 : decode cJ6_bitCount_0f7a4 29 = .ok (.ldc_w 267, 3) := dq_19 (dq_w dwc_511 13 rfl) (dq_w dwc_511 14 rfl) (dq_w dwc_511 15 rfl) rfl
theorem dJ6_bitCount_0f7a4_32 : decode cJ6_bitCount_0f7a4 32 = .ok (.iand, 1) := dq_126 (dq_w dwc_512 0 rfl)
theorem dJ6_bitCount_0f7a4_33 : decode cJ6_bitCount_0f7a4 33 = .ok (.istore_n 0, 1) := dq_59 (dq_w dwc_512 1 rfl)
theorem dJ6_bitCount_0f7a4_34 : decode cJ6_bitCount_0f7a4 34 = .ok (.iload_n 0, 1) := dq_26 (dq_w dwc_512 2 rfl)
theorem dJ6_bitCount_0f7a4_35 : decode cJ6_bitCount_0f7a4 35 = .ok (.iload_n 0, 1) := dq_26 (dq_w dwc_512 3 rfl)
theorem dJ6_bitCount_0f7a4_36 : decode cJ6_bitCount_0f7a4 36 = .ok (.bipush 8, 2) := dq_16 (dq_w dwc_512 4 rfl) (dq_w dwc_512 5 rfl) rfl
theorem dJ6_bitCount_0f7a4_38 : decode cJ6_bitCount_0f7a4 38 = .ok (.iushr, 1) := dq_124 (dq_w dwc_512 6 rfl)
theorem dJ6_bitCount_0f7a4_39 : decode cJ6_bitCount_0f7a4 39 = .ok (.iadd, 1) := dq_96 (dq_w dwc_512 7 rfl)
theorem dJ6_bitCount_0f7a4_40 : decode cJ6_bitCount_0f7a4 40 = .ok (.istore_n 0, 1) := dq_59 (dq_w dwc_512 8 rfl)
theorem dJ6_bitCount_0f7a4_41 : decode cJ6_bitCount_0f7a4 41 = .ok (.iload_n 0, 1) := dq_26 (dq_w dwc_512 9 rfl)
theorem dJ6_bitCount_0f7a4_42 : decode cJ6_bitCount_0f7a4 42 = .ok (.iload_n 0, 1) := dq_26 (dq_w dwc_512 10 rfl)
theorem dJ6_bitCount_0f7a4_43 : decode cJ6_bitCount_0f7a4 43 = .ok (.bipush 16, 2) := dq_16 (dq_w dwc_512 11 rfl) (dq_w dwc_512 12 rfl) rfl
theorem dJ6_bitCount_0f7a4_45 : decode cJ6_bitCount_0f7a4 45 = .ok (.iushr, 1) := dq_124 (dq_w dwc_512 13 rfl)
theorem dJ6_bitCount_0f7a4_46 : decode cJ6_bitCount_0f7a4 46 = .ok (.iadd, 1) := dq_96 (dq_w dwc_512 14 rfl)
theorem dJ6_bitCount_0f7a4_47 : decode cJ6_bitCount_0f7a4 47 = .ok (.istore_n 0, 1) := dq_59 (dq_w dwc_512 15 rfl)
theorem dJ6_bitCount_0f7a4_48 : decode cJ6_bitCount_0f7a4 48 = .ok (.iload_n 0, 1) := dq_26 (dq_w dwc_513 0 rfl)
theorem dJ6_bitCount_0f7a4_49 : decode cJ6_bitCount_0f7a4 49 = .ok (.bipush 63, 2) := dq_16 (dq_w dwc_513 1 rfl) (dq_w dwc_513 2 rfl) rfl
theorem dJ6_bitCount_0f7a4_51 : decode cJ6_bitCount_0f7a4 51 = .ok (.iand, 1) := dq_126 (dq_w dwc_513 3 rfl)
theorem dJ6_bitCount_0f7a4_52 : decode cJ6_bitCount_0f7a4 52 = .ok (.ireturn, 1) := dq_172 (dq_w dwc_513 4 rfl)
theorem dwc_514 : (cJ9_abs_0f7a4.data.toList.drop 0).take 16 = [26, 156, 0, 8, 26, 116, 167, 0, 4, 26, 172] := by decide +kernel
theorem dJ9_abs_0f7a4_0 : decode cJ9_abs_0f7a4 0 = .ok (.iload_n 0, 1) := dq_26 (dq_w dwc_514 0 rfl)
theorem dJ9_abs_0f7a4_1 : decode cJ9_abs_0f7a4 1 = .ok (.ifCond .ge 8, 3) := dq_156 (dq_w dwc_514 1 rfl) (dq_w dwc_514 2 rfl) (dq_w dwc_514 3 rfl) (dq_p (n := 8) rfl rfl)
theorem dJ9_abs_0f7a4_4 : decode cJ9_abs_0f7a4 4 = .ok (.iload_n 0, 1) := dq_26 (dq_w dwc_514 4 rfl)
theorem dJ9_abs_0f7a4_5 : decode cJ9_abs_0f7a4 5 = .ok (.ineg, 1) := dq_116 (dq_w dwc_514 5 rfl)
theorem dJ9_abs_0f7a4_6 : decode cJ9_abs_0f7a4 6 = .ok (.goto 4, 3) := dq_167 (dq_w dwc_514 6 rfl) (dq_w dwc_514 7 rfl) (dq_w dwc_514 8 rfl) (dq_p (n := 4) rfl rfl)
theorem dJ9_abs_0f7a4_9 : decode cJ9_abs_0f7a4 9 = .ok (.iload_n 0, 1) := dq_26 (dq_w dwc_514 9 rfl)
theorem dJ9_abs_0f7a4_10 : decode cJ9_abs_0f7a4 10 = .ok (.ireturn, 1) := dq_172 (dq_w dwc_514 10 rfl)
theorem dwc_515 : (cJ9_max_7cf53.data.toList.drop 0).take 16 = [26, 27, 161, 0, 7, 26, 167, 0, 4, 27, 172] := by decide +kernel
theorem dJ9_max_7cf53_0 : decode cJ9_max_7cf53 0 = .ok (.iload_n 0, 1) := dq_26 (dq_w dwc_515 0 rfl)
theorem dJ9_max_7cf53_1 : decode cJ9_max_7cf53 1 = .ok (.iload_n 1, 1) := dq_27 (dq_w dwc_515 1 rfl)
theorem dJ9_max_7cf53_2 : decode cJ9_max_7cf53 2 = .ok (.if_icmp .lt 7, 3) := dq_161 (dq_w dwc_515 2 rfl) (dq_w dwc_515 3 rfl) (dq_w dwc_515 4 rfl) (dq_p (n := 7) rfl rfl)
theorem dJ9_max_7cf53_5 : decode cJ9_max_7cf53 5 = .ok (.iload_n 0, 1) := dq_26 (dq_w dwc_515 5 rfl)
theorem dJ9_max_7cf53_6 : decode cJ9_max_7cf53 6 = .ok (.goto 4, 3) := dq_167 (dq_w dwc_515 6 rfl) (dq_w dwc_515 7 rfl) (dq_w dwc_515 8 rfl) (dq_p (n := 4) rfl rfl)
theorem dJ9_max_7cf53_9 : decode cJ9_max_7cf53 9 = .ok (.iload_n 1, 1) := dq_27 (dq_w dwc_515 9 rfl)
theorem dJ9_max_7cf53_10 : decode cJ9_max_7cf53 10 = .ok (.ireturn, 1) := dq_172 (dq_w dwc_515 10 rfl)
theorem dwc_516 : (cJ9_min_7cf53.data.toList.drop 0).take 16 = [26, 27, 163, 0, 7, 26, 167, 0, 4, 27, 172] := by decide +kernel
theorem dJ9_min_7cf53_0 : decode cJ9_min_7cf53 0 = .ok (.iload_n 0, 1) := dq_26 (dq_w dwc_516 0 rfl)
theorem dJ9_min_7cf53_1 : decode cJ9_min_7cf53 1 = .ok (.iload_n 1, 1) := dq_27 (dq_w dwc_516 1 rfl)
theorem dJ9_min_7cf53_2 : decode cJ9_min_7cf53 2 = .ok (.if_icmp .gt 7, 3) := dq_163 (dq_w dwc_516 2 rfl) (dq_w dwc_516 3 rfl) (dq_w dwc_516 4 rfl) (dq_p (n := 7) rfl rfl)
theorem dJ9_min_7cf53_5 : decode cJ9_min_7cf53 5 = .ok (.iload_n 0, 1) := dq_26 (dq_w dwc_516 5 rfl)
theorem dJ9_min_7cf53_6 : decode cJ9_min_7cf53 6 = .ok (.goto 4, 3) := dq_167 (dq_w dwc_516 6 rfl) (dq_w dwc_516 7 rfl) (dq_w dwc_516 8 rfl) (dq_p (n := 4) rfl rfl)
theorem dJ9_min_7cf53_9 : decode cJ9_min_7cf53 9 = .ok (.iload_n 1, 1) := dq_27 (dq_w dwc_516 9 rfl)
theorem dJ9_min_7cf53_10 : decode cJ9_min_7cf53 10 = .ok (.ireturn, 1) := dq_172 (dq_w dwc_516 10 rfl)
theorem dwc_517 : (cJ7_fill_53178.data.toList.drop 0).take 16 = [3, 61, 42, 190, 62, 28, 29, 162, 0, 13, 42, 28, 27, 79, 132, 2] := by decide +kernel
theorem dwc_518 : (cJ7_fill_53178.data.toList.drop 16).take 16 = [1, 167, 255, 244, 177] := by decide +kernel
theorem dJ7_fill_53178_0 : decode cJ7_fill_53178 0 = .ok (.iconst 0, 1) := dq_3 (dq_w dwc_517 0 rfl)
theorem dJ7_fill_53178_1 : decode cJ7_fill_53178 1 = .ok (.istore_n 2, 1) := dq_61 (dq_w dwc_517 1 rfl)
theorem dJ7_fill_53178_2 : decode cJ7_fill_53178 2 = .ok (.aload_n 0, 1) := dq_42 (dq_w dwc_517 2 rfl)
theorem dJ7_fill_53178_3 : decode cJ7_fill_53178 3 = .ok (.arraylength, 1) := dq_190 (dq_w dwc_517 3 rfl)
theorem dJ7_fill_53178_4 : decode cJ7_fill_53178 4 = .ok (.istore_n 3, 1) := dq_62 (dq_w dwc_517 4 rfl)
theorem dJ7_fill_53178_5 : decode cJ7_fill_53178 5 = .ok (.iload_n 2, 1) := dq_28 (dq_w dwc_517 5 rfl)
theorem dJ7_fill_53178_6 : decode cJ7_fill_53178 6 = .ok (.iload_n 3, 1) := dq_29 (dq_w dwc_517 6 rfl)
theorem dJ7_fill_53178_7 : decode cJ7_fill_53178 7 = .ok (.if_icmp .ge 13, 3) := dq_162 (dq_w dwc_517 7 rfl) (dq_w dwc_517 8 rfl) (dq_w dwc_517 9 rfl) (dq_p (n := 13) rfl rfl)
theorem dJ7_fill_53178_10 : decode cJ7_fill_53178 10 = .ok (.aload_n 0, 1) := dq_42 (dq_w dwc_517 10 rfl)
theorem dJ7_fill_53178_11 : decode cJ7_fill_53178 11 = .ok (.iload_n 2, 1) := dq_28 (dq_w dwc_517 11 rfl)
theorem dJ7_fill_53178_12 : decode cJ7_fill_53178 12 = .ok (.iload_n 1, 1) := dq_27 (dq_w dwc_517 12 rfl)
theorem dJ7_fill_53178_13 : decode cJ7_fill_53178 13 = .ok (.iastore, 1) := dq_79 (dq_w dwc_517 13 rfl)
theorem dJ7_fill_53178_14 : decode cJ7_fill_53178 14 = .ok (.iinc 2 1, 3) := dq_132 (dq_w dwc_517 14 rfl) (dq_w dwc_517 15 rfl) rfl (dq_w dwc_518 0 rfl) rfl
theorem dJ7_fill_53178_17 : decode cJ7_fill_53178 17 = .ok (.goto (-12), 3) := dq_167 (dq_w dwc_518 1 rfl) (dq_w dwc_518 2 rfl) (dq_w dwc_518 3 rfl) (dq_n (m := 12) rfl rfl)
theorem dJ7_fill_53178_20 : decode cJ7_fill_53178 20 = .ok (.return_, 1) := dq_177 (dq_w dwc_518 4 rfl)
