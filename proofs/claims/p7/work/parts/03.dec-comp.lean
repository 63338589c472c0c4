theorem dbc_0 : (((((decode cX0_init 0 = .ok (.aload_n 0, 1)) ∧ (decode cX0_init 1 = .ok (.invokespecial 1, 3))) ∧ ((decode cX0_init 4 = .ok (.aload_n 0, 1)) ∧ (decode cX0_init 5 = .ok (.bipush 8, 2)))) ∧ (((decode cX0_init 7 = .ok (.anewarray 9, 3)) ∧ (decode cX0_init 10 = .ok (.putfield 11, 3))) ∧ ((decode cX0_init 13 = .ok (.iconst 0, 1)) ∧ (decode cX0_init 14 = .ok (.istore_n 1, 1))))) ∧ ((((decode cX0_init 15 = .ok (.iload_n 1, 1)) ∧ (decode cX0_init 16 = .ok (.bipush 8, 2))) ∧ ((decode cX0_init 18 = .ok (.if_icmp .ge 22, 3)) ∧ (decode cX0_init 21 = .ok (.aload_n 0, 1)))) ∧ (((decode cX0_init 22 = .ok (.getfield 11, 3)) ∧ (decode cX0_init 25 = .ok (.iload_n 1, 1))) ∧ ((decode cX0_init 26 = .ok (.new 9, 3)) ∧ (decode cX0_init 29 = .ok (.dup, 1)))))) := by decide +kernel
theorem dX0_init_0 : decode cX0_init 0 = .ok (.aload_n 0, 1) := dbc_0.1.1.1.1
theorem dX0_init_1 : decode cX0_init 1 = .ok (.invokespecial 1, 3) := dbc_0.1.1.1.2
theorem dX0_init_4 : decode cX0_init 4 = .ok (.aload_n 0, 1) := dbc_0.1.1.2.1
theorem dX0_init_5 : decode cX0_init 5 = .ok (.bipush 8, 2) := dbc_0.1.1.2.2
theorem dX0_init_7 : decode cX0_init 7 = .ok (.anewarray 9, 3) := dbc_0.1.2.1.1
theorem dX0_init_10 : decode cX0_init 10 = .ok (.putfield 11, 3) := dbc_0.1.2.1.2
theorem dX0_init_13 : decode cX0_init 13 = .ok (.iconst 0, 1) := dbc_0.1.2.2.1
theorem dX0_init_14 : decode cX0_init 14 = .ok (.istore_n 1, 1) := dbc_0.1.2.2.2
theorem dX0_init_15 : decode cX0_init 15 = .ok (.iload_n 1, 1) := dbc_0.2.1.1.1
theorem dX0_init_16 : decode cX0_init 16 = .ok (.bipush 8, 2) := dbc_0.2.1.1.2
theorem dX0_init_18 : decode cX0_init 18 = .ok (.if_icmp .ge 22, 3) := dbc_0.2.1.2.1
theorem dX0_init_21 : decode cX0_init 21 = .ok (.aload_n 0, 1) := dbc_0.2.1.2.2
theorem dX0_init_22 : decode cX0_init 22 = .ok (.getfield 11, 3) := dbc_0.2.2.1.1
theorem dX0_init_25 : decode cX0_init 25 = .ok (.iload_n 1, 1) := dbc_0.2.2.1.2
theorem dX0_init_26 : decode cX0_init 26 = .ok (.new 9, 3) := dbc_0.2.2.2.1
theorem dX0_init_29 : decode cX0_init 29 = .ok (.dup, 1) := dbc_0.2.2.2.2
theorem dbc_1 : (((((decode cX0_init 30 = .ok (.invokespecial 15, 3)) ∧ (decode cX0_init 33 = .ok (.aastore, 1))) ∧ ((decode cX0_init 34 = .ok (.iinc 1 1, 3)) ∧ (decode cX0_init 37 = .ok (.goto (-22), 3)))) ∧ (((decode cX0_init 40 = .ok (.return_, 1)) ∧ (decode cX0_keep 0 = .ok (.aload_n 0, 1))) ∧ ((decode cX0_keep 1 = .ok (.getfield 11, 3)) ∧ (decode cX0_keep 4 = .ok (.aload_n 0, 1))))) ∧ ((((decode cX0_keep 5 = .ok (.getfield 16, 3)) ∧ (decode cX0_keep 8 = .ok (.aaload, 1))) ∧ ((decode cX0_keep 9 = .ok (.aload_n 1, 1)) ∧ (decode cX0_keep 10 = .ok (.invokevirtual 20, 3)))) ∧ (((decode cX0_keep 13 = .ok (.aload_n 0, 1)) ∧ (decode cX0_keep 14 = .ok (.aload_n 0, 1))) ∧ ((decode cX0_keep 15 = .ok (.getfield 16, 3)) ∧ (decode cX0_keep 18 = .ok (.iconst 1, 1)))))) := by decide +kernel
theorem dX0_init_30 : decode cX0_init 30 = .ok (.invokespecial 15, 3) := dbc_1.1.1.1.1
theorem dX0_init_33 : decode cX0_init 33 = .ok (.aastore, 1) := dbc_1.1.1.1.2
theorem dX0_init_34 : decode cX0_init 34 = .ok (.iinc 1 1, 3) := dbc_1.1.1.2.1
theorem dX0_init_37 : decode cX0_init 37 = .ok (.goto (-22), 3) := dbc_1.1.1.2.2
theorem dX0_init_40 : decode cX0_init 40 = .ok (.return_, 1) := dbc_1.1.2.1.1
theorem dX0_keep_0 : decode cX0_keep 0 = .ok (.aload_n 0, 1) := dbc_1.1.2.1.2
theorem dX0_keep_1 : decode cX0_keep 1 = .ok (.getfield 11, 3) := dbc_1.1.2.2.1
theorem dX0_keep_4 : decode cX0_keep 4 = .ok (.aload_n 0, 1) := dbc_1.1.2.2.2
theorem dX0_keep_5 : decode cX0_keep 5 = .ok (.getfield 16, 3) := dbc_1.2.1.1.1
theorem dX0_keep_8 : decode cX0_keep 8 = .ok (.aaload, 1) := dbc_1.2.1.1.2
theorem dX0_keep_9 : decode cX0_keep 9 = .ok (.aload_n 1, 1) := dbc_1.2.1.2.1
theorem dX0_keep_10 : decode cX0_keep 10 = .ok (.invokevirtual 20, 3) := dbc_1.2.1.2.2
theorem dX0_keep_13 : decode cX0_keep 13 = .ok (.aload_n 0, 1) := dbc_1.2.2.1.1
theorem dX0_keep_14 : decode cX0_keep 14 = .ok (.aload_n 0, 1) := dbc_1.2.2.1.2
theorem dX0_keep_15 : decode cX0_keep 15 = .ok (.getfield 16, 3) := dbc_1.2.2.2.1
theorem dX0_keep_18 : decode cX0_keep 18 = .ok (.iconst 1, 1) := dbc_1.2.2.2.2
theorem dbc_2 : (((((decode cX0_keep 19 = .ok (.iadd, 1)) ∧ (decode cX0_keep 20 = .ok (.bipush 8, 2))) ∧ ((decode cX0_keep 22 = .ok (.irem, 1)) ∧ (decode cX0_keep 23 = .ok (.putfield 16, 3)))) ∧ (((decode cX0_keep 26 = .ok (.aload_n 0, 1)) ∧ (decode cX0_keep 27 = .ok (.bipush 8, 2))) ∧ ((decode cX0_keep 29 = .ok (.aload_n 0, 1)) ∧ (decode cX0_keep 30 = .ok (.getfield 24, 3))))) ∧ ((((decode cX0_keep 33 = .ok (.iconst 1, 1)) ∧ (decode cX0_keep 34 = .ok (.iadd, 1))) ∧ ((decode cX0_keep 35 = .ok (.invokestatic 27, 3)) ∧ (decode cX0_keep 38 = .ok (.putfield 24, 3)))) ∧ (((decode cX0_keep 41 = .ok (.return_, 1)) ∧ (decode cX0_takeBack 0 = .ok (.aload_n 0, 1))) ∧ ((decode cX0_takeBack 1 = .ok (.getfield 24, 3)) ∧ (decode cX0_takeBack 4 = .ok (.ifCond .ne 4, 3)))))) := by decide +kernel
theorem dX0_keep_19 : decode cX0_keep 19 = .ok (.iadd, 1) := dbc_2.1.1.1.1
theorem dX0_keep_20 : decode cX0_keep 20 = .ok (.bipush 8, 2) := dbc_2.1.1.1.2
theorem dX0_keep_22 : decode cX0_keep 22 = .ok (.irem, 1) := dbc_2.1.1.2.1
theorem dX0_keep_23 : decode cX0_keep 23 = .ok (.putfield 16, 3) := dbc_2.1.1.2.2
theorem dX0_keep_26 : decode cX0_keep 26 = .ok (.aload_n 0, 1) := dbc_2.1.2.1.1
theorem dX0_keep_27 : decode cX0_keep 27 = .ok (.bipush 8, 2) := dbc_2.1.2.1.2
theorem dX0_keep_29 : decode cX0_keep 29 = .ok (.aload_n 0, 1) := dbc_2.1.2.2.1
theorem dX0_keep_30 : decode cX0_keep 30 = .ok (.getfield 24, 3) := dbc_2.1.2.2.2
theorem dX0_keep_33 : decode cX0_keep 33 = .ok (.iconst 1, 1) := dbc_2.2.1.1.1
theorem dX0_keep_34 : decode cX0_keep 34 = .ok (.iadd, 1) := dbc_2.2.1.1.2
theorem dX0_keep_35 : decode cX0_keep 35 = .ok (.invokestatic 27, 3) := dbc_2.2.1.2.1
theorem dX0_keep_38 : decode cX0_keep 38 = .ok (.putfield 24, 3) := dbc_2.2.1.2.2
theorem dX0_keep_41 : decode cX0_keep 41 = .ok (.return_, 1) := dbc_2.2.2.1.1
theorem dX0_takeBack_0 : decode cX0_takeBack 0 = .ok (.aload_n 0, 1) := dbc_2.2.2.1.2
theorem dX0_takeBack_1 : decode cX0_takeBack 1 = .ok (.getfield 24, 3) := dbc_2.2.2.2.1
theorem dX0_takeBack_4 : decode cX0_takeBack 4 = .ok (.ifCond .ne 4, 3) := dbc_2.2.2.2.2
theorem dbc_3 : (((((decode cX0_takeBack 7 = .ok (.return_, 1)) ∧ (decode cX0_takeBack 8 = .ok (.aload_n 0, 1))) ∧ ((decode cX0_takeBack 9 = .ok (.aload_n 0, 1)) ∧ (decode cX0_takeBack 10 = .ok (.getfield 16, 3)))) ∧ (((decode cX0_takeBack 13 = .ok (.bipush 8, 2)) ∧ (decode cX0_takeBack 15 = .ok (.iadd, 1))) ∧ ((decode cX0_takeBack 16 = .ok (.iconst 1, 1)) ∧ (decode cX0_takeBack 17 = .ok (.isub, 1))))) ∧ ((((decode cX0_takeBack 18 = .ok (.bipush 8, 2)) ∧ (decode cX0_takeBack 20 = .ok (.irem, 1))) ∧ ((decode cX0_takeBack 21 = .ok (.putfield 16, 3)) ∧ (decode cX0_takeBack 24 = .ok (.aload_n 0, 1)))) ∧ (((decode cX0_takeBack 25 = .ok (.dup, 1)) ∧ (decode cX0_takeBack 26 = .ok (.getfield 24, 3))) ∧ ((decode cX0_takeBack 29 = .ok (.iconst 1, 1)) ∧ (decode cX0_takeBack 30 = .ok (.isub, 1)))))) := by decide +kernel
theorem dX0_takeBack_7 : decode cX0_takeBack 7 = .ok (.return_, 1) := dbc_3.1.1.1.1
theorem dX0_takeBack_8 : decode cX0_takeBack 8 = .ok (.aload_n 0, 1) := dbc_3.1.1.1.2
theorem dX0_takeBack_9 : decode cX0_takeBack 9 = .ok (.aload_n 0, 1) := dbc_3.1.1.2.1
theorem dX0_takeBack_10 : decode cX0_takeBack 10 = .ok (.getfield 16, 3) := dbc_3.1.1.2.2
theorem dX0_takeBack_13 : decode cX0_takeBack 13 = .ok (.bipush 8, 2) := dbc_3.1.2.1.1
theorem dX0_takeBack_15 : decode cX0_takeBack 15 = .ok (.iadd, 1) := dbc_3.1.2.1.2
theorem dX0_takeBack_16 : decode cX0_takeBack 16 = .ok (.iconst 1, 1) := dbc_3.1.2.2.1
theorem dX0_takeBack_17 : decode cX0_takeBack 17 = .ok (.isub, 1) := dbc_3.1.2.2.2
theorem dX0_takeBack_18 : decode cX0_takeBack 18 = .ok (.bipush 8, 2) := dbc_3.2.1.1.1
theorem dX0_takeBack_20 : decode cX0_takeBack 20 = .ok (.irem, 1) := dbc_3.2.1.1.2
theorem dX0_takeBack_21 : decode cX0_takeBack 21 = .ok (.putfield 16, 3) := dbc_3.2.1.2.1
theorem dX0_takeBack_24 : decode cX0_takeBack 24 = .ok (.aload_n 0, 1) := dbc_3.2.1.2.2
theorem dX0_takeBack_25 : decode cX0_takeBack 25 = .ok (.dup, 1) := dbc_3.2.2.1.1
theorem dX0_takeBack_26 : decode cX0_takeBack 26 = .ok (.getfield 24, 3) := dbc_3.2.2.1.2
theorem dX0_takeBack_29 : decode cX0_takeBack 29 = .ok (.iconst 1, 1) := dbc_3.2.2.2.1
theorem dX0_takeBack_30 : decode cX0_takeBack 30 = .ok (.isub, 1) := dbc_3.2.2.2.2
theorem dbc_4 : (((((decode cX0_takeBack 31 = .ok (.putfield 24, 3)) ∧ (decode cX0_takeBack 34 = .ok (.aload_n 1, 1))) ∧ ((decode cX0_takeBack 35 = .ok (.aload_n 0, 1)) ∧ (decode cX0_takeBack 36 = .ok (.getfield 11, 3)))) ∧ (((decode cX0_takeBack 39 = .ok (.aload_n 0, 1)) ∧ (decode cX0_takeBack 40 = .ok (.getfield 16, 3))) ∧ ((decode cX0_takeBack 43 = .ok (.aaload, 1)) ∧ (decode cX0_takeBack 44 = .ok (.invokevirtual 20, 3))))) ∧ ((((decode cX0_takeBack 47 = .ok (.return_, 1)) ∧ (decode cX0_forget 0 = .ok (.aload_n 0, 1))) ∧ ((decode cX0_forget 1 = .ok (.iconst 0, 1)) ∧ (decode cX0_forget 2 = .ok (.putfield 24, 3)))) ∧ (((decode cX0_forget 5 = .ok (.return_, 1)) ∧ (decode cX1_init 0 = .ok (.aload_n 0, 1))) ∧ ((decode cX1_init 1 = .ok (.invokespecial 3, 3)) ∧ (decode cX1_init 4 = .ok (.aload_n 0, 1)))))) := by decide +kernel
theorem dX0_takeBack_31 : decode cX0_takeBack 31 = .ok (.putfield 24, 3) := dbc_4.1.1.1.1
theorem dX0_takeBack_34 : decode cX0_takeBack 34 = .ok (.aload_n 1, 1) := dbc_4.1.1.1.2
theorem dX0_takeBack_35 : decode cX0_takeBack 35 = .ok (.aload_n 0, 1) := dbc_4.1.1.2.1
theorem dX0_takeBack_36 : decode cX0_takeBack 36 = .ok (.getfield 11, 3) := dbc_4.1.1.2.2
theorem dX0_takeBack_39 : decode cX0_takeBack 39 = .ok (.aload_n 0, 1) := dbc_4.1.2.1.1
theorem dX0_takeBack_40 : decode cX0_takeBack 40 = .ok (.getfield 16, 3) := dbc_4.1.2.1.2
theorem dX0_takeBack_43 : decode cX0_takeBack 43 = .ok (.aaload, 1) := dbc_4.1.2.2.1
theorem dX0_takeBack_44 : decode cX0_takeBack 44 = .ok (.invokevirtual 20, 3) := dbc_4.1.2.2.2
theorem dX0_takeBack_47 : decode cX0_takeBack 47 = .ok (.return_, 1) := dbc_4.2.1.1.1
theorem dX0_forget_0 : decode cX0_forget 0 = .ok (.aload_n 0, 1) := dbc_4.2.1.1.2
theorem dX0_forget_1 : decode cX0_forget 1 = .ok (.iconst 0, 1) := dbc_4.2.1.2.1
theorem dX0_forget_2 : decode cX0_forget 2 = .ok (.putfield 24, 3) := dbc_4.2.1.2.2
theorem dX0_forget_5 : decode cX0_forget 5 = .ok (.return_, 1) := dbc_4.2.2.1.1
theorem dX1_init_0 : decode cX1_init 0 = .ok (.aload_n 0, 1) := dbc_4.2.2.1.2
theorem dX1_init_1 : decode cX1_init 1 = .ok (.invokespecial 3, 3) := dbc_4.2.2.2.1
theorem dX1_init_4 : decode cX1_init 4 = .ok (.aload_n 0, 1) := dbc_4.2.2.2.2
theorem dbc_5 : (((((decode cX1_init 5 = .ok (.bipush 96, 2)) ∧ (decode cX1_init 7 = .ok (.newarray .int, 2))) ∧ ((decode cX1_init 9 = .ok (.putfield 9, 3)) ∧ (decode cX1_init 12 = .ok (.return_, 1)))) ∧ (((decode cX1_areFull 0 = .ok (.aload_n 0, 1)) ∧ (decode cX1_areFull 1 = .ok (.getfield 15, 3))) ∧ ((decode cX1_areFull 4 = .ok (.bipush 96, 2)) ∧ (decode cX1_areFull 6 = .ok (.if_icmp .lt 7, 3))))) ∧ ((((decode cX1_areFull 9 = .ok (.iconst 1, 1)) ∧ (decode cX1_areFull 10 = .ok (.goto 4, 3))) ∧ ((decode cX1_areFull 13 = .ok (.iconst 0, 1)) ∧ (decode cX1_areFull 14 = .ok (.ireturn, 1)))) ∧ (((decode cX1_take 0 = .ok (.aload_n 0, 1)) ∧ (decode cX1_take 1 = .ok (.invokevirtual 19, 3))) ∧ ((decode cX1_take 4 = .ok (.ifCond .eq 8, 3)) ∧ (decode cX1_take 7 = .ok (.aload_n 0, 1)))))) := by decide +kernel
theorem dX1_init_5 : decode cX1_init 5 = .ok (.bipush 96, 2) := dbc_5.1.1.1.1
theorem dX1_init_7 : decode cX1_init 7 = .ok (.newarray .int, 2) := dbc_5.1.1.1.2
theorem dX1_init_9 : decode cX1_init 9 = .ok (.putfield 9, 3) := dbc_5.1.1.2.1
theorem dX1_init_12 : decode cX1_init 12 = .ok (.return_, 1) := dbc_5.1.1.2.2
theorem dX1_areFull_0 : decode cX1_areFull 0 = .ok (.aload_n 0, 1) := dbc_5.1.2.1.1
theorem dX1_areFull_1 : decode cX1_areFull 1 = .ok (.getfield 15, 3) := dbc_5.1.2.1.2
theorem dX1_areFull_4 : decode cX1_areFull 4 = .ok (.bipush 96, 2) := dbc_5.1.2.2.1
theorem dX1_areFull_6 : decode cX1_areFull 6 = .ok (.if_icmp .lt 7, 3) := dbc_5.1.2.2.2
theorem dX1_areFull_9 : decode cX1_areFull 9 = .ok (.iconst 1, 1) := dbc_5.2.1.1.1
theorem dX1_areFull_10 : decode cX1_areFull 10 = .ok (.goto 4, 3) := dbc_5.2.1.1.2
theorem dX1_areFull_13 : decode cX1_areFull 13 = .ok (.iconst 0, 1) := dbc_5.2.1.2.1
theorem dX1_areFull_14 : decode cX1_areFull 14 = .ok (.ireturn, 1) := dbc_5.2.1.2.2
theorem dX1_take_0 : decode cX1_take 0 = .ok (.aload_n 0, 1) := dbc_5.2.2.1.1
theorem dX1_take_1 : decode cX1_take 1 = .ok (.invokevirtual 19, 3) := dbc_5.2.2.1.2
theorem dX1_take_4 : decode cX1_take 4 = .ok (.ifCond .eq 8, 3) := dbc_5.2.2.2.1
theorem dX1_take_7 : decode cX1_take 7 = .ok (.aload_n 0, 1) := dbc_5.2.2.2.2
theorem dbc_6 : (((((decode cX1_take 8 = .ok (.getfield 15, 3)) ∧ (decode cX1_take 11 = .ok (.ireturn, 1))) ∧ ((decode cX1_take 12 = .ok (.aload_n 0, 1)) ∧ (decode cX1_take 13 = .ok (.getfield 9, 3)))) ∧ (((decode cX1_take 16 = .ok (.aload_n 0, 1)) ∧ (decode cX1_take 17 = .ok (.getfield 15, 3))) ∧ ((decode cX1_take 20 = .ok (.iload_n 1, 1)) ∧ (decode cX1_take 21 = .ok (.iastore, 1))))) ∧ ((((decode cX1_take 22 = .ok (.aload_n 0, 1)) ∧ (decode cX1_take 23 = .ok (.dup, 1))) ∧ ((decode cX1_take 24 = .ok (.getfield 15, 3)) ∧ (decode cX1_take 27 = .ok (.iconst 1, 1)))) ∧ (((decode cX1_take 28 = .ok (.iadd, 1)) ∧ (decode cX1_take 29 = .ok (.putfield 15, 3))) ∧ ((decode cX1_take 32 = .ok (.aload_n 0, 1)) ∧ (decode cX1_take 33 = .ok (.getfield 15, 3)))))) := by decide +kernel
theorem dX1_take_8 : decode cX1_take 8 = .ok (.getfield 15, 3) := dbc_6.1.1.1.1
theorem dX1_take_11 : decode cX1_take 11 = .ok (.ireturn, 1) := dbc_6.1.1.1.2
theorem dX1_take_12 : decode cX1_take 12 = .ok (.aload_n 0, 1) := dbc_6.1.1.2.1
theorem dX1_take_13 : decode cX1_take 13 = .ok (.getfield 9, 3) := dbc_6.1.1.2.2
theorem dX1_take_16 : decode cX1_take 16 = .ok (.aload_n 0, 1) := dbc_6.1.2.1.1
theorem dX1_take_17 : decode cX1_take 17 = .ok (.getfield 15, 3) := dbc_6.1.2.1.2
theorem dX1_take_20 : decode cX1_take 20 = .ok (.iload_n 1, 1) := dbc_6.1.2.2.1
theorem dX1_take_21 : decode cX1_take 21 = .ok (.iastore, 1) := dbc_6.1.2.2.2
theorem dX1_take_22 : decode cX1_take 22 = .ok (.aload_n 0, 1) := dbc_6.2.1.1.1
theorem dX1_take_23 : decode cX1_take 23 = .ok (.dup, 1) := dbc_6.2.1.1.2
theorem dX1_take_24 : decode cX1_take 24 = .ok (.getfield 15, 3) := dbc_6.2.1.2.1
theorem dX1_take_27 : decode cX1_take 27 = .ok (.iconst 1, 1) := dbc_6.2.1.2.2
theorem dX1_take_28 : decode cX1_take 28 = .ok (.iadd, 1) := dbc_6.2.2.1.1
theorem dX1_take_29 : decode cX1_take 29 = .ok (.putfield 15, 3) := dbc_6.2.2.1.2
theorem dX1_take_32 : decode cX1_take 32 = .ok (.aload_n 0, 1) := dbc_6.2.2.2.1
theorem dX1_take_33 : decode cX1_take 33 = .ok (.getfield 15, 3) := dbc_6.2.2.2.2
theorem dbc_7 : (((((decode cX1_take 36 = .ok (.ireturn, 1)) ∧ (decode cX1_drop 0 = .ok (.aload_n 0, 1))) ∧ ((decode cX1_drop 1 = .ok (.iconst 0, 1)) ∧ (decode cX1_drop 2 = .ok (.putfield 15, 3)))) ∧ (((decode cX1_drop 5 = .ok (.return_, 1)) ∧ (decode cX1_tell 0 = .ok (.aload_n 0, 1))) ∧ ((decode cX1_tell 1 = .ok (.invokevirtual 23, 3)) ∧ (decode cX1_tell 4 = .ok (.istore_n 2, 1))))) ∧ ((((decode cX1_tell 5 = .ok (.iload_n 2, 1)) ∧ (decode cX1_tell 6 = .ok (.bipush (-9), 2))) ∧ ((decode cX1_tell 8 = .ok (.if_icmp .eq 9, 3)) ∧ (decode cX1_tell 11 = .ok (.sipush (-1000), 3)))) ∧ (((decode cX1_tell 14 = .ok (.iload_n 2, 1)) ∧ (decode cX1_tell 15 = .ok (.isub, 1))) ∧ ((decode cX1_tell 16 = .ok (.ireturn, 1)) ∧ (decode cX1_tell 17 = .ok (.iconst 0, 1)))))) := by decide +kernel
theorem dX1_take_36 : decode cX1_take 36 = .ok (.ireturn, 1) := dbc_7.1.1.1.1
theorem dX1_drop_0 : decode cX1_drop 0 = .ok (.aload_n 0, 1) := dbc_7.1.1.1.2
theorem dX1_drop_1 : decode cX1_drop 1 = .ok (.iconst 0, 1) := dbc_7.1.1.2.1
theorem dX1_drop_2 : decode cX1_drop 2 = .ok (.putfield 15, 3) := dbc_7.1.1.2.2
theorem dX1_drop_5 : decode cX1_drop 5 = .ok (.return_, 1) := dbc_7.1.2.1.1
theorem dX1_tell_0 : decode cX1_tell 0 = .ok (.aload_n 0, 1) := dbc_7.1.2.1.2
theorem dX1_tell_1 : decode cX1_tell 1 = .ok (.invokevirtual 23, 3) := dbc_7.1.2.2.1
theorem dX1_tell_4 : decode cX1_tell 4 = .ok (.istore_n 2, 1) := dbc_7.1.2.2.2
theorem dX1_tell_5 : decode cX1_tell 5 = .ok (.iload_n 2, 1) := dbc_7.2.1.1.1
theorem dX1_tell_6 : decode cX1_tell 6 = .ok (.bipush (-9), 2) := dbc_7.2.1.1.2
theorem dX1_tell_8 : decode cX1_tell 8 = .ok (.if_icmp .eq 9, 3) := dbc_7.2.1.2.1
theorem dX1_tell_11 : decode cX1_tell 11 = .ok (.sipush (-1000), 3) := dbc_7.2.1.2.2
theorem dX1_tell_14 : decode cX1_tell 14 = .ok (.iload_n 2, 1) := dbc_7.2.2.1.1
theorem dX1_tell_15 : decode cX1_tell 15 = .ok (.isub, 1) := dbc_7.2.2.1.2
theorem dX1_tell_16 : decode cX1_tell 16 = .ok (.ireturn, 1) := dbc_7.2.2.2.1
theorem dX1_tell_17 : decode cX1_tell 17 = .ok (.iconst 0, 1) := dbc_7.2.2.2.2
theorem dbc_8 : (((((decode cX1_tell 18 = .ok (.istore_n 3, 1)) ∧ (decode cX1_tell 19 = .ok (.iconst 0, 1))) ∧ ((decode cX1_tell 20 = .ok (.istore 4, 2)) ∧ (decode cX1_tell 22 = .ok (.iconst 0, 1)))) ∧ (((decode cX1_tell 23 = .ok (.istore 5, 2)) ∧ (decode cX1_tell 25 = .ok (.iload 5, 2))) ∧ ((decode cX1_tell 27 = .ok (.aload_n 0, 1)) ∧ (decode cX1_tell 28 = .ok (.getfield 15, 3))))) ∧ ((((decode cX1_tell 31 = .ok (.if_icmp .ge 50, 3)) ∧ (decode cX1_tell 34 = .ok (.aload_n 0, 1))) ∧ ((decode cX1_tell 35 = .ok (.getfield 9, 3)) ∧ (decode cX1_tell 38 = .ok (.iload 5, 2)))) ∧ (((decode cX1_tell 40 = .ok (.iaload, 1)) ∧ (decode cX1_tell 41 = .ok (.bipush 59, 2))) ∧ ((decode cX1_tell 43 = .ok (.if_icmp .eq 6, 3)) ∧ (decode cX1_tell 46 = .ok (.goto 29, 3)))))) := by decide +kernel
theorem dX1_tell_18 : decode cX1_tell 18 = .ok (.istore_n 3, 1) := dbc_8.1.1.1.1
theorem dX1_tell_19 : decode cX1_tell 19 = .ok (.iconst 0, 1) := dbc_8.1.1.1.2
theorem dX1_tell_20 : decode cX1_tell 20 = .ok (.istore 4, 2) := dbc_8.1.1.2.1
theorem dX1_tell_22 : decode cX1_tell 22 = .ok (.iconst 0, 1) := dbc_8.1.1.2.2
theorem dX1_tell_23 : decode cX1_tell 23 = .ok (.istore 5, 2) := dbc_8.1.2.1.1
theorem dX1_tell_25 : decode cX1_tell 25 = .ok (.iload 5, 2) := dbc_8.1.2.1.2
theorem dX1_tell_27 : decode cX1_tell 27 = .ok (.aload_n 0, 1) := dbc_8.1.2.2.1
theorem dX1_tell_28 : decode cX1_tell 28 = .ok (.getfield 15, 3) := dbc_8.1.2.2.2
theorem dX1_tell_31 : decode cX1_tell 31 = .ok (.if_icmp .ge 50, 3) := dbc_8.2.1.1.1
theorem dX1_tell_34 : decode cX1_tell 34 = .ok (.aload_n 0, 1) := dbc_8.2.1.1.2
theorem dX1_tell_35 : decode cX1_tell 35 = .ok (.getfield 9, 3) := dbc_8.2.1.2.1
theorem dX1_tell_38 : decode cX1_tell 38 = .ok (.iload 5, 2) := dbc_8.2.1.2.2
theorem dX1_tell_40 : decode cX1_tell 40 = .ok (.iaload, 1) := dbc_8.2.2.1.1
theorem dX1_tell_41 : decode cX1_tell 41 = .ok (.bipush 59, 2) := dbc_8.2.2.1.2
theorem dX1_tell_43 : decode cX1_tell 43 = .ok (.if_icmp .eq 6, 3) := dbc_8.2.2.2.1
theorem dX1_tell_46 : decode cX1_tell 46 = .ok (.goto 29, 3) := dbc_8.2.2.2.2
theorem dbc_9 : (((((decode cX1_tell 49 = .ok (.aload_n 0, 1)) ∧ (decode cX1_tell 50 = .ok (.aload_n 1, 1))) ∧ ((decode cX1_tell 51 = .ok (.iload 4, 2)) ∧ (decode cX1_tell 53 = .ok (.invokevirtual 27, 3)))) ∧ (((decode cX1_tell 56 = .ok (.ifCond .ne 10, 3)) ∧ (decode cX1_tell 59 = .ok (.sipush (-2000), 3))) ∧ ((decode cX1_tell 62 = .ok (.iload 4, 2)) ∧ (decode cX1_tell 64 = .ok (.isub, 1))))) ∧ ((((decode cX1_tell 65 = .ok (.ireturn, 1)) ∧ (decode cX1_tell 66 = .ok (.iinc 3 1, 3))) ∧ ((decode cX1_tell 69 = .ok (.iload 5, 2)) ∧ (decode cX1_tell 71 = .ok (.iconst 1, 1)))) ∧ (((decode cX1_tell 72 = .ok (.iadd, 1)) ∧ (decode cX1_tell 73 = .ok (.istore 4, 2))) ∧ ((decode cX1_tell 75 = .ok (.iinc 5 1, 3)) ∧ (decode cX1_tell 78 = .ok (.goto (-53), 3)))))) := by decide +kernel
theorem dX1_tell_49 : decode cX1_tell 49 = .ok (.aload_n 0, 1) := dbc_9.1.1.1.1
theorem dX1_tell_50 : decode cX1_tell 50 = .ok (.aload_n 1, 1) := dbc_9.1.1.1.2
theorem dX1_tell_51 : decode cX1_tell 51 = .ok (.iload 4, 2) := dbc_9.1.1.2.1
theorem dX1_tell_53 : decode cX1_tell 53 = .ok (.invokevirtual 27, 3) := dbc_9.1.1.2.2
theorem dX1_tell_56 : decode cX1_tell 56 = .ok (.ifCond .ne 10, 3) := dbc_9.1.2.1.1
theorem dX1_tell_59 : decode cX1_tell 59 = .ok (.sipush (-2000), 3) := dbc_9.1.2.1.2
theorem dX1_tell_62 : decode cX1_tell 62 = .ok (.iload 4, 2) := dbc_9.1.2.2.1
theorem dX1_tell_64 : decode cX1_tell 64 = .ok (.isub, 1) := dbc_9.1.2.2.2
theorem dX1_tell_65 : decode cX1_tell 65 = .ok (.ireturn, 1) := dbc_9.2.1.1.1
theorem dX1_tell_66 : decode cX1_tell 66 = .ok (.iinc 3 1, 3) := dbc_9.2.1.1.2
theorem dX1_tell_69 : decode cX1_tell 69 = .ok (.iload 5, 2) := dbc_9.2.1.2.1
theorem dX1_tell_71 : decode cX1_tell 71 = .ok (.iconst 1, 1) := dbc_9.2.1.2.2
theorem dX1_tell_72 : decode cX1_tell 72 = .ok (.iadd, 1) := dbc_9.2.2.1.1
theorem dX1_tell_73 : decode cX1_tell 73 = .ok (.istore 4, 2) := dbc_9.2.2.1.2
theorem dX1_tell_75 : decode cX1_tell 75 = .ok (.iinc 5 1, 3) := dbc_9.2.2.2.1
theorem dX1_tell_78 : decode cX1_tell 78 = .ok (.goto (-53), 3) := dbc_9.2.2.2.2
theorem dbc_10 : (((((decode cX1_tell 81 = .ok (.iload_n 3, 1)) ∧ (decode cX1_tell 82 = .ok (.ireturn, 1))) ∧ ((decode cX1_firstMisspelt 0 = .ok (.iconst 0, 1)) ∧ (decode cX1_firstMisspelt 1 = .ok (.istore_n 1, 1)))) ∧ (((decode cX1_firstMisspelt 2 = .ok (.iconst 0, 1)) ∧ (decode cX1_firstMisspelt 3 = .ok (.istore_n 2, 1))) ∧ ((decode cX1_firstMisspelt 4 = .ok (.iconst 0, 1)) ∧ (decode cX1_firstMisspelt 5 = .ok (.istore_n 3, 1))))) ∧ ((((decode cX1_firstMisspelt 6 = .ok (.iload_n 3, 1)) ∧ (decode cX1_firstMisspelt 7 = .ok (.aload_n 0, 1))) ∧ ((decode cX1_firstMisspelt 8 = .ok (.getfield 15, 3)) ∧ (decode cX1_firstMisspelt 11 = .ok (.if_icmp .ge 75, 3)))) ∧ (((decode cX1_firstMisspelt 14 = .ok (.aload_n 0, 1)) ∧ (decode cX1_firstMisspelt 15 = .ok (.getfield 9, 3))) ∧ ((decode cX1_firstMisspelt 18 = .ok (.iload_n 3, 1)) ∧ (decode cX1_firstMisspelt 19 = .ok (.iaload, 1)))))) := by decide +kernel
theorem dX1_tell_81 : decode cX1_tell 81 = .ok (.iload_n 3, 1) := dbc_10.1.1.1.1
theorem dX1_tell_82 : decode cX1_tell 82 = .ok (.ireturn, 1) := dbc_10.1.1.1.2
theorem dX1_firstMisspelt_0 : decode cX1_firstMisspelt 0 = .ok (.iconst 0, 1) := dbc_10.1.1.2.1
theorem dX1_firstMisspelt_1 : decode cX1_firstMisspelt 1 = .ok (.istore_n 1, 1) := dbc_10.1.1.2.2
theorem dX1_firstMisspelt_2 : decode cX1_firstMisspelt 2 = .ok (.iconst 0, 1) := dbc_10.1.2.1.1
theorem dX1_firstMisspelt_3 : decode cX1_firstMisspelt 3 = .ok (.istore_n 2, 1) := dbc_10.1.2.1.2
theorem dX1_firstMisspelt_4 : decode cX1_firstMisspelt 4 = .ok (.iconst 0, 1) := dbc_10.1.2.2.1
theorem dX1_firstMisspelt_5 : decode cX1_firstMisspelt 5 = .ok (.istore_n 3, 1) := dbc_10.1.2.2.2
theorem dX1_firstMisspelt_6 : decode cX1_firstMisspelt 6 = .ok (.iload_n 3, 1) := dbc_10.2.1.1.1
theorem dX1_firstMisspelt_7 : decode cX1_firstMisspelt 7 = .ok (.aload_n 0, 1) := dbc_10.2.1.1.2
theorem dX1_firstMisspelt_8 : decode cX1_firstMisspelt 8 = .ok (.getfield 15, 3) := dbc_10.2.1.2.1
theorem dX1_firstMisspelt_11 : decode cX1_firstMisspelt 11 = .ok (.if_icmp .ge 75, 3) := dbc_10.2.1.2.2
theorem dX1_firstMisspelt_14 : decode cX1_firstMisspelt 14 = .ok (.aload_n 0, 1) := dbc_10.2.2.1.1
theorem dX1_firstMisspelt_15 : decode cX1_firstMisspelt 15 = .ok (.getfield 9, 3) := dbc_10.2.2.1.2
theorem dX1_firstMisspelt_18 : decode cX1_firstMisspelt 18 = .ok (.iload_n 3, 1) := dbc_10.2.2.2.1
theorem dX1_firstMisspelt_19 : decode cX1_firstMisspelt 19 = .ok (.iaload, 1) := dbc_10.2.2.2.2
theorem dbc_11 : (((((decode cX1_firstMisspelt 20 = .ok (.istore 4, 2)) ∧ (decode cX1_firstMisspelt 22 = .ok (.iload_n 1, 1))) ∧ ((decode cX1_firstMisspelt 23 = .ok (.ifCond .ne 20, 3)) ∧ (decode cX1_firstMisspelt 26 = .ok (.iload 4, 2)))) ∧ (((decode cX1_firstMisspelt 28 = .ok (.invokestatic 31, 3)) ∧ (decode cX1_firstMisspelt 31 = .ok (.istore_n 2, 1))) ∧ ((decode cX1_firstMisspelt 32 = .ok (.iload_n 2, 1)) ∧ (decode cX1_firstMisspelt 33 = .ok (.ifCond .ne 5, 3))))) ∧ ((((decode cX1_firstMisspelt 36 = .ok (.iload_n 3, 1)) ∧ (decode cX1_firstMisspelt 37 = .ok (.ireturn, 1))) ∧ ((decode cX1_firstMisspelt 38 = .ok (.iconst 1, 1)) ∧ (decode cX1_firstMisspelt 39 = .ok (.istore_n 1, 1)))) ∧ (((decode cX1_firstMisspelt 40 = .ok (.goto 40, 3)) ∧ (decode cX1_firstMisspelt 43 = .ok (.iload_n 2, 1))) ∧ ((decode cX1_firstMisspelt 44 = .ok (.ifCond .le 25, 3)) ∧ (decode cX1_firstMisspelt 47 = .ok (.iload 4, 2)))))) := by decide +kernel
theorem dX1_firstMisspelt_20 : decode cX1_firstMisspelt 20 = .ok (.istore 4, 2) := dbc_11.1.1.1.1
theorem dX1_firstMisspelt_22 : decode cX1_firstMisspelt 22 = .ok (.iload_n 1, 1) := dbc_11.1.1.1.2
theorem dX1_firstMisspelt_23 : decode cX1_firstMisspelt 23 = .ok (.ifCond .ne 20, 3) := dbc_11.1.1.2.1
theorem dX1_firstMisspelt_26 : decode cX1_firstMisspelt 26 = .ok (.iload 4, 2) := dbc_11.1.1.2.2
theorem dX1_firstMisspelt_28 : decode cX1_firstMisspelt 28 = .ok (.invokestatic 31, 3) := dbc_11.1.2.1.1
theorem dX1_firstMisspelt_31 : decode cX1_firstMisspelt 31 = .ok (.istore_n 2, 1) := dbc_11.1.2.1.2
theorem dX1_firstMisspelt_32 : decode cX1_firstMisspelt 32 = .ok (.iload_n 2, 1) := dbc_11.1.2.2.1
theorem dX1_firstMisspelt_33 : decode cX1_firstMisspelt 33 = .ok (.ifCond .ne 5, 3) := dbc_11.1.2.2.2
theorem dX1_firstMisspelt_36 : decode cX1_firstMisspelt 36 = .ok (.iload_n 3, 1) := dbc_11.2.1.1.1
theorem dX1_firstMisspelt_37 : decode cX1_firstMisspelt 37 = .ok (.ireturn, 1) := dbc_11.2.1.1.2
theorem dX1_firstMisspelt_38 : decode cX1_firstMisspelt 38 = .ok (.iconst 1, 1) := dbc_11.2.1.2.1
theorem dX1_firstMisspelt_39 : decode cX1_firstMisspelt 39 = .ok (.istore_n 1, 1) := dbc_11.2.1.2.2
theorem dX1_firstMisspelt_40 : decode cX1_firstMisspelt 40 = .ok (.goto 40, 3) := dbc_11.2.2.1.1
theorem dX1_firstMisspelt_43 : decode cX1_firstMisspelt 43 = .ok (.iload_n 2, 1) := dbc_11.2.2.1.2
theorem dX1_firstMisspelt_44 : decode cX1_firstMisspelt 44 = .ok (.ifCond .le 25, 3) := dbc_11.2.2.2.1
theorem dX1_firstMisspelt_47 : decode cX1_firstMisspelt 47 = .ok (.iload 4, 2) := dbc_11.2.2.2.2
theorem dbc_12 : (((((decode cX1_firstMisspelt 49 = .ok (.bipush 48, 2)) ∧ (decode cX1_firstMisspelt 51 = .ok (.if_icmp .lt 10, 3))) ∧ ((decode cX1_firstMisspelt 54 = .ok (.iload 4, 2)) ∧ (decode cX1_firstMisspelt 56 = .ok (.bipush 57, 2)))) ∧ (((decode cX1_firstMisspelt 58 = .ok (.if_icmp .le 5, 3)) ∧ (decode cX1_firstMisspelt 61 = .ok (.iload_n 3, 1))) ∧ ((decode cX1_firstMisspelt 62 = .ok (.ireturn, 1)) ∧ (decode cX1_firstMisspelt 63 = .ok (.iinc 2 (-1), 3))))) ∧ ((((decode cX1_firstMisspelt 66 = .ok (.goto 14, 3)) ∧ (decode cX1_firstMisspelt 69 = .ok (.iload 4, 2))) ∧ ((decode cX1_firstMisspelt 71 = .ok (.bipush 59, 2)) ∧ (decode cX1_firstMisspelt 73 = .ok (.if_icmp .eq 5, 3)))) ∧ (((decode cX1_firstMisspelt 76 = .ok (.iload_n 3, 1)) ∧ (decode cX1_firstMisspelt 77 = .ok (.ireturn, 1))) ∧ ((decode cX1_firstMisspelt 78 = .ok (.iconst 0, 1)) ∧ (decode cX1_firstMisspelt 79 = .ok (.istore_n 1, 1)))))) := by decide +kernel
theorem dX1_firstMisspelt_49 : decode cX1_firstMisspelt 49 = .ok (.bipush 48, 2) := dbc_12.1.1.1.1
theorem dX1_firstMisspelt_51 : decode cX1_firstMisspelt 51 = .ok (.if_icmp .lt 10, 3) := dbc_12.1.1.1.2
theorem dX1_firstMisspelt_54 : decode cX1_firstMisspelt 54 = .ok (.iload 4, 2) := dbc_12.1.1.2.1
theorem dX1_firstMisspelt_56 : decode cX1_firstMisspelt 56 = .ok (.bipush 57, 2) := dbc_12.1.1.2.2
theorem dX1_firstMisspelt_58 : decode cX1_firstMisspelt 58 = .ok (.if_icmp .le 5, 3) := dbc_12.1.2.1.1
theorem dX1_firstMisspelt_61 : decode cX1_firstMisspelt 61 = .ok (.iload_n 3, 1) := dbc_12.1.2.1.2
theorem dX1_firstMisspelt_62 : decode cX1_firstMisspelt 62 = .ok (.ireturn, 1) := dbc_12.1.2.2.1
theorem dX1_firstMisspelt_63 : decode cX1_firstMisspelt 63 = .ok (.iinc 2 (-1), 3) := dbc_12.1.2.2.2
theorem dX1_firstMisspelt_66 : decode cX1_firstMisspelt 66 = .ok (.goto 14, 3) := dbc_12.2.1.1.1
theorem dX1_firstMisspelt_69 : decode cX1_firstMisspelt 69 = .ok (.iload 4, 2) := dbc_12.2.1.1.2
theorem dX1_firstMisspelt_71 : decode cX1_firstMisspelt 71 = .ok (.bipush 59, 2) := dbc_12.2.1.2.1
theorem dX1_firstMisspelt_73 : decode cX1_firstMisspelt 73 = .ok (.if_icmp .eq 5, 3) := dbc_12.2.1.2.2
theorem dX1_firstMisspelt_76 : decode cX1_firstMisspelt 76 = .ok (.iload_n 3, 1) := dbc_12.2.2.1.1
theorem dX1_firstMisspelt_77 : decode cX1_firstMisspelt 77 = .ok (.ireturn, 1) := dbc_12.2.2.1.2
theorem dX1_firstMisspelt_78 : decode cX1_firstMisspelt 78 = .ok (.iconst 0, 1) := dbc_12.2.2.2.1
theorem dX1_firstMisspelt_79 : decode cX1_firstMisspelt 79 = .ok (.istore_n 1, 1) := dbc_12.2.2.2.2
theorem dbc_13 : (((((decode cX1_firstMisspelt 80 = .ok (.iinc 3 1, 3)) ∧ (decode cX1_firstMisspelt 83 = .ok (.goto (-77), 3))) ∧ ((decode cX1_firstMisspelt 86 = .ok (.iload_n 1, 1)) ∧ (decode cX1_firstMisspelt 87 = .ok (.ifCond .ne 10, 3)))) ∧ (((decode cX1_firstMisspelt 90 = .ok (.aload_n 0, 1)) ∧ (decode cX1_firstMisspelt 91 = .ok (.getfield 15, 3))) ∧ ((decode cX1_firstMisspelt 94 = .ok (.ifCond .ne 10, 3)) ∧ (decode cX1_firstMisspelt 97 = .ok (.aload_n 0, 1))))) ∧ ((((decode cX1_firstMisspelt 98 = .ok (.getfield 15, 3)) ∧ (decode cX1_firstMisspelt 101 = .ok (.goto 5, 3))) ∧ ((decode cX1_firstMisspelt 104 = .ok (.bipush (-9), 2)) ∧ (decode cX1_firstMisspelt 106 = .ok (.ireturn, 1)))) ∧ (((decode cX1_digitsBehind 0 = .ok (.iload_n 0, 1)) ∧ (decode cX1_digitsBehind 1 = .ok (.tableswitch 103 101 119 #[101, 103, 97, 91, 103, 103, 103, 95, 103, 103, 99, 103, 103, 103, 103, 103, 103, 103, 93], 91))) ∧ ((decode cX1_digitsBehind 92 = .ok (.iconst 4, 1)) ∧ (decode cX1_digitsBehind 93 = .ok (.ireturn, 1)))))) := by decide +kernel
theorem dX1_firstMisspelt_80 : decode cX1_firstMisspelt 80 = .ok (.iinc 3 1, 3) := dbc_13.1.1.1.1
theorem dX1_firstMisspelt_83 : decode cX1_firstMisspelt 83 = .ok (.goto (-77), 3) := dbc_13.1.1.1.2
theorem dX1_firstMisspelt_86 : decode cX1_firstMisspelt 86 = .ok (.iload_n 1, 1) := dbc_13.1.1.2.1
theorem dX1_firstMisspelt_87 : decode cX1_firstMisspelt 87 = .ok (.ifCond .ne 10, 3) := dbc_13.1.1.2.2
theorem dX1_firstMisspelt_90 : decode cX1_firstMisspelt 90 = .ok (.aload_n 0, 1) := dbc_13.1.2.1.1
theorem dX1_firstMisspelt_91 : decode cX1_firstMisspelt 91 = .ok (.getfield 15, 3) := dbc_13.1.2.1.2
theorem dX1_firstMisspelt_94 : decode cX1_firstMisspelt 94 = .ok (.ifCond .ne 10, 3) := dbc_13.1.2.2.1
theorem dX1_firstMisspelt_97 : decode cX1_firstMisspelt 97 = .ok (.aload_n 0, 1) := dbc_13.1.2.2.2
theorem dX1_firstMisspelt_98 : decode cX1_firstMisspelt 98 = .ok (.getfield 15, 3) := dbc_13.2.1.1.1
theorem dX1_firstMisspelt_101 : decode cX1_firstMisspelt 101 = .ok (.goto 5, 3) := dbc_13.2.1.1.2
theorem dX1_firstMisspelt_104 : decode cX1_firstMisspelt 104 = .ok (.bipush (-9), 2) := dbc_13.2.1.2.1
theorem dX1_firstMisspelt_106 : decode cX1_firstMisspelt 106 = .ok (.ireturn, 1) := dbc_13.2.1.2.2
theorem dX1_digitsBehind_0 : decode cX1_digitsBehind 0 = .ok (.iload_n 0, 1) := dbc_13.2.2.1.1
theorem dX1_digitsBehind_1 : decode cX1_digitsBehind 1 = .ok (.tableswitch 103 101 119 #[101, 103, 97, 91, 103, 103, 103, 95, 103, 103, 99, 103, 103, 103, 103, 103, 103, 103, 93], 91) := dbc_13.2.2.1.2
theorem dX1_digitsBehind_92 : decode cX1_digitsBehind 92 = .ok (.iconst 4, 1) := dbc_13.2.2.2.1
theorem dX1_digitsBehind_93 : decode cX1_digitsBehind 93 = .ok (.ireturn, 1) := dbc_13.2.2.2.2
theorem dbc_14 : (((((decode cX1_digitsBehind 94 = .ok (.iconst 5, 1)) ∧ (decode cX1_digitsBehind 95 = .ok (.ireturn, 1))) ∧ ((decode cX1_digitsBehind 96 = .ok (.iconst 1, 1)) ∧ (decode cX1_digitsBehind 97 = .ok (.ireturn, 1)))) ∧ (((decode cX1_digitsBehind 98 = .ok (.iconst 3, 1)) ∧ (decode cX1_digitsBehind 99 = .ok (.ireturn, 1))) ∧ ((decode cX1_digitsBehind 100 = .ok (.iconst 2, 1)) ∧ (decode cX1_digitsBehind 101 = .ok (.ireturn, 1))))) ∧ ((((decode cX1_digitsBehind 102 = .ok (.iconst 2, 1)) ∧ (decode cX1_digitsBehind 103 = .ok (.ireturn, 1))) ∧ ((decode cX1_digitsBehind 104 = .ok (.iconst 0, 1)) ∧ (decode cX1_digitsBehind 105 = .ok (.ireturn, 1)))) ∧ (((decode cX1_tellStatement 0 = .ok (.aload_n 0, 1)) ∧ (decode cX1_tellStatement 1 = .ok (.getfield 9, 3))) ∧ ((decode cX1_tellStatement 4 = .ok (.iload_n 2, 1)) ∧ (decode cX1_tellStatement 5 = .ok (.iaload, 1)))))) := by decide +kernel
theorem dX1_digitsBehind_94 : decode cX1_digitsBehind 94 = .ok (.iconst 5, 1) := dbc_14.1.1.1.1
theorem dX1_digitsBehind_95 : decode cX1_digitsBehind 95 = .ok (.ireturn, 1) := dbc_14.1.1.1.2
theorem dX1_digitsBehind_96 : decode cX1_digitsBehind 96 = .ok (.iconst 1, 1) := dbc_14.1.1.2.1
theorem dX1_digitsBehind_97 : decode cX1_digitsBehind 97 = .ok (.ireturn, 1) := dbc_14.1.1.2.2
theorem dX1_digitsBehind_98 : decode cX1_digitsBehind 98 = .ok (.iconst 3, 1) := dbc_14.1.2.1.1
theorem dX1_digitsBehind_99 : decode cX1_digitsBehind 99 = .ok (.ireturn, 1) := dbc_14.1.2.1.2
theorem dX1_digitsBehind_100 : decode cX1_digitsBehind 100 = .ok (.iconst 2, 1) := dbc_14.1.2.2.1
theorem dX1_digitsBehind_101 : decode cX1_digitsBehind 101 = .ok (.ireturn, 1) := dbc_14.1.2.2.2
theorem dX1_digitsBehind_102 : decode cX1_digitsBehind 102 = .ok (.iconst 2, 1) := dbc_14.2.1.1.1
theorem dX1_digitsBehind_103 : decode cX1_digitsBehind 103 = .ok (.ireturn, 1) := dbc_14.2.1.1.2
theorem dX1_digitsBehind_104 : decode cX1_digitsBehind 104 = .ok (.iconst 0, 1) := dbc_14.2.1.2.1
theorem dX1_digitsBehind_105 : decode cX1_digitsBehind 105 = .ok (.ireturn, 1) := dbc_14.2.1.2.2
theorem dX1_tellStatement_0 : decode cX1_tellStatement 0 = .ok (.aload_n 0, 1) := dbc_14.2.2.1.1
theorem dX1_tellStatement_1 : decode cX1_tellStatement 1 = .ok (.getfield 9, 3) := dbc_14.2.2.1.2
theorem dX1_tellStatement_4 : decode cX1_tellStatement 4 = .ok (.iload_n 2, 1) := dbc_14.2.2.2.1
theorem dX1_tellStatement_5 : decode cX1_tellStatement 5 = .ok (.iaload, 1) := dbc_14.2.2.2.2
theorem dbc_15 : (((((decode cX1_tellStatement 6 = .ok (.tableswitch 204 101 119 #[192, 204, 154, 90, 204, 204, 204, 142, 204, 204, 173, 204, 204, 204, 204, 204, 204, 204, 116], 90)) ∧ (decode cX1_tellStatement 96 = .ok (.aload_n 1, 1))) ∧ ((decode cX1_tellStatement 97 = .ok (.aload_n 0, 1)) ∧ (decode cX1_tellStatement 98 = .ok (.iload_n 2, 1)))) ∧ (((decode cX1_tellStatement 99 = .ok (.iconst 1, 1)) ∧ (decode cX1_tellStatement 100 = .ok (.iadd, 1))) ∧ ((decode cX1_tellStatement 101 = .ok (.invokevirtual 35, 3)) ∧ (decode cX1_tellStatement 104 = .ok (.aload_n 0, 1))))) ∧ ((((decode cX1_tellStatement 105 = .ok (.iload_n 2, 1)) ∧ (decode cX1_tellStatement 106 = .ok (.iconst 2, 1))) ∧ ((decode cX1_tellStatement 107 = .ok (.iadd, 1)) ∧ (decode cX1_tellStatement 108 = .ok (.invokevirtual 35, 3)))) ∧ (((decode cX1_tellStatement 111 = .ok (.aload_n 0, 1)) ∧ (decode cX1_tellStatement 112 = .ok (.iload_n 2, 1))) ∧ ((decode cX1_tellStatement 113 = .ok (.iconst 3, 1)) ∧ (decode cX1_tellStatement 114 = .ok (.iadd, 1)))))) := by decide +kernel
theorem dX1_tellStatement_6 : decode cX1_tellStatement 6 = .ok (.tableswitch 204 101 119 #[192, 204, 154, 90, 204, 204, 204, 142, 204, 204, 173, 204, 204, 204, 204, 204, 204, 204, 116], 90) := dbc_15.1.1.1.1
theorem dX1_tellStatement_96 : decode cX1_tellStatement 96 = .ok (.aload_n 1, 1) := dbc_15.1.1.1.2
theorem dX1_tellStatement_97 : decode cX1_tellStatement 97 = .ok (.aload_n 0, 1) := dbc_15.1.1.2.1
theorem dX1_tellStatement_98 : decode cX1_tellStatement 98 = .ok (.iload_n 2, 1) := dbc_15.1.1.2.2
theorem dX1_tellStatement_99 : decode cX1_tellStatement 99 = .ok (.iconst 1, 1) := dbc_15.1.2.1.1
theorem dX1_tellStatement_100 : decode cX1_tellStatement 100 = .ok (.iadd, 1) := dbc_15.1.2.1.2
theorem dX1_tellStatement_101 : decode cX1_tellStatement 101 = .ok (.invokevirtual 35, 3) := dbc_15.1.2.2.1
theorem dX1_tellStatement_104 : decode cX1_tellStatement 104 = .ok (.aload_n 0, 1) := dbc_15.1.2.2.2
theorem dX1_tellStatement_105 : decode cX1_tellStatement 105 = .ok (.iload_n 2, 1) := dbc_15.2.1.1.1
theorem dX1_tellStatement_106 : decode cX1_tellStatement 106 = .ok (.iconst 2, 1) := dbc_15.2.1.1.2
theorem dX1_tellStatement_107 : decode cX1_tellStatement 107 = .ok (.iadd, 1) := dbc_15.2.1.2.1
theorem dX1_tellStatement_108 : decode cX1_tellStatement 108 = .ok (.invokevirtual 35, 3) := dbc_15.2.1.2.2
theorem dX1_tellStatement_111 : decode cX1_tellStatement 111 = .ok (.aload_n 0, 1) := dbc_15.2.2.1.1
theorem dX1_tellStatement_112 : decode cX1_tellStatement 112 = .ok (.iload_n 2, 1) := dbc_15.2.2.1.2
theorem dX1_tellStatement_113 : decode cX1_tellStatement 113 = .ok (.iconst 3, 1) := dbc_15.2.2.2.1
theorem dX1_tellStatement_114 : decode cX1_tellStatement 114 = .ok (.iadd, 1) := dbc_15.2.2.2.2
theorem dbc_16 : (((((decode cX1_tellStatement 115 = .ok (.invokevirtual 38, 3)) ∧ (decode cX1_tellStatement 118 = .ok (.invokevirtual 41, 3))) ∧ ((decode cX1_tellStatement 121 = .ok (.ireturn, 1)) ∧ (decode cX1_tellStatement 122 = .ok (.aload_n 1, 1)))) ∧ (((decode cX1_tellStatement 123 = .ok (.aload_n 0, 1)) ∧ (decode cX1_tellStatement 124 = .ok (.iload_n 2, 1))) ∧ ((decode cX1_tellStatement 125 = .ok (.iconst 1, 1)) ∧ (decode cX1_tellStatement 126 = .ok (.iadd, 1))))) ∧ ((((decode cX1_tellStatement 127 = .ok (.invokevirtual 38, 3)) ∧ (decode cX1_tellStatement 130 = .ok (.aload_n 0, 1))) ∧ ((decode cX1_tellStatement 131 = .ok (.iload_n 2, 1)) ∧ (decode cX1_tellStatement 132 = .ok (.iconst 3, 1)))) ∧ (((decode cX1_tellStatement 133 = .ok (.iadd, 1)) ∧ (decode cX1_tellStatement 134 = .ok (.invokevirtual 38, 3))) ∧ ((decode cX1_tellStatement 137 = .ok (.aload_n 0, 1)) ∧ (decode cX1_tellStatement 138 = .ok (.iload_n 2, 1)))))) := by decide +kernel
theorem dX1_tellStatement_115 : decode cX1_tellStatement 115 = .ok (.invokevirtual 38, 3) := dbc_16.1.1.1.1
theorem dX1_tellStatement_118 : decode cX1_tellStatement 118 = .ok (.invokevirtual 41, 3) := dbc_16.1.1.1.2
theorem dX1_tellStatement_121 : decode cX1_tellStatement 121 = .ok (.ireturn, 1) := dbc_16.1.1.2.1
theorem dX1_tellStatement_122 : decode cX1_tellStatement 122 = .ok (.aload_n 1, 1) := dbc_16.1.1.2.2
theorem dX1_tellStatement_123 : decode cX1_tellStatement 123 = .ok (.aload_n 0, 1) := dbc_16.1.2.1.1
theorem dX1_tellStatement_124 : decode cX1_tellStatement 124 = .ok (.iload_n 2, 1) := dbc_16.1.2.1.2
theorem dX1_tellStatement_125 : decode cX1_tellStatement 125 = .ok (.iconst 1, 1) := dbc_16.1.2.2.1
theorem dX1_tellStatement_126 : decode cX1_tellStatement 126 = .ok (.iadd, 1) := dbc_16.1.2.2.2
theorem dX1_tellStatement_127 : decode cX1_tellStatement 127 = .ok (.invokevirtual 38, 3) := dbc_16.2.1.1.1
theorem dX1_tellStatement_130 : decode cX1_tellStatement 130 = .ok (.aload_n 0, 1) := dbc_16.2.1.1.2
theorem dX1_tellStatement_131 : decode cX1_tellStatement 131 = .ok (.iload_n 2, 1) := dbc_16.2.1.2.1
theorem dX1_tellStatement_132 : decode cX1_tellStatement 132 = .ok (.iconst 3, 1) := dbc_16.2.1.2.2
theorem dX1_tellStatement_133 : decode cX1_tellStatement 133 = .ok (.iadd, 1) := dbc_16.2.2.1.1
theorem dX1_tellStatement_134 : decode cX1_tellStatement 134 = .ok (.invokevirtual 38, 3) := dbc_16.2.2.1.2
theorem dX1_tellStatement_137 : decode cX1_tellStatement 137 = .ok (.aload_n 0, 1) := dbc_16.2.2.2.1
theorem dX1_tellStatement_138 : decode cX1_tellStatement 138 = .ok (.iload_n 2, 1) := dbc_16.2.2.2.2
theorem dbc_17 : (((((decode cX1_tellStatement 139 = .ok (.iconst 5, 1)) ∧ (decode cX1_tellStatement 140 = .ok (.iadd, 1))) ∧ ((decode cX1_tellStatement 141 = .ok (.invokevirtual 35, 3)) ∧ (decode cX1_tellStatement 144 = .ok (.invokevirtual 47, 3)))) ∧ (((decode cX1_tellStatement 147 = .ok (.ireturn, 1)) ∧ (decode cX1_tellStatement 148 = .ok (.aload_n 1, 1))) ∧ ((decode cX1_tellStatement 149 = .ok (.aload_n 0, 1)) ∧ (decode cX1_tellStatement 150 = .ok (.iload_n 2, 1))))) ∧ ((((decode cX1_tellStatement 151 = .ok (.iconst 1, 1)) ∧ (decode cX1_tellStatement 152 = .ok (.iadd, 1))) ∧ ((decode cX1_tellStatement 153 = .ok (.invokevirtual 35, 3)) ∧ (decode cX1_tellStatement 156 = .ok (.invokevirtual 50, 3)))) ∧ (((decode cX1_tellStatement 159 = .ok (.ireturn, 1)) ∧ (decode cX1_tellStatement 160 = .ok (.aload_n 1, 1))) ∧ ((decode cX1_tellStatement 161 = .ok (.aload_n 0, 1)) ∧ (decode cX1_tellStatement 162 = .ok (.iload_n 2, 1)))))) := by decide +kernel
theorem dX1_tellStatement_139 : decode cX1_tellStatement 139 = .ok (.iconst 5, 1) := dbc_17.1.1.1.1
theorem dX1_tellStatement_140 : decode cX1_tellStatement 140 = .ok (.iadd, 1) := dbc_17.1.1.1.2
theorem dX1_tellStatement_141 : decode cX1_tellStatement 141 = .ok (.invokevirtual 35, 3) := dbc_17.1.1.2.1
theorem dX1_tellStatement_144 : decode cX1_tellStatement 144 = .ok (.invokevirtual 47, 3) := dbc_17.1.1.2.2
theorem dX1_tellStatement_147 : decode cX1_tellStatement 147 = .ok (.ireturn, 1) := dbc_17.1.2.1.1
theorem dX1_tellStatement_148 : decode cX1_tellStatement 148 = .ok (.aload_n 1, 1) := dbc_17.1.2.1.2
theorem dX1_tellStatement_149 : decode cX1_tellStatement 149 = .ok (.aload_n 0, 1) := dbc_17.1.2.2.1
theorem dX1_tellStatement_150 : decode cX1_tellStatement 150 = .ok (.iload_n 2, 1) := dbc_17.1.2.2.2
theorem dX1_tellStatement_151 : decode cX1_tellStatement 151 = .ok (.iconst 1, 1) := dbc_17.2.1.1.1
theorem dX1_tellStatement_152 : decode cX1_tellStatement 152 = .ok (.iadd, 1) := dbc_17.2.1.1.2
theorem dX1_tellStatement_153 : decode cX1_tellStatement 153 = .ok (.invokevirtual 35, 3) := dbc_17.2.1.2.1
theorem dX1_tellStatement_156 : decode cX1_tellStatement 156 = .ok (.invokevirtual 50, 3) := dbc_17.2.1.2.2
theorem dX1_tellStatement_159 : decode cX1_tellStatement 159 = .ok (.ireturn, 1) := dbc_17.2.2.1.1
theorem dX1_tellStatement_160 : decode cX1_tellStatement 160 = .ok (.aload_n 1, 1) := dbc_17.2.2.1.2
theorem dX1_tellStatement_161 : decode cX1_tellStatement 161 = .ok (.aload_n 0, 1) := dbc_17.2.2.2.1
theorem dX1_tellStatement_162 : decode cX1_tellStatement 162 = .ok (.iload_n 2, 1) := dbc_17.2.2.2.2
theorem dbc_18 : (((((decode cX1_tellStatement 163 = .ok (.iconst 1, 1)) ∧ (decode cX1_tellStatement 164 = .ok (.iadd, 1))) ∧ ((decode cX1_tellStatement 165 = .ok (.invokevirtual 35, 3)) ∧ (decode cX1_tellStatement 168 = .ok (.aload_n 0, 1)))) ∧ (((decode cX1_tellStatement 169 = .ok (.iload_n 2, 1)) ∧ (decode cX1_tellStatement 170 = .ok (.iconst 2, 1))) ∧ ((decode cX1_tellStatement 171 = .ok (.iadd, 1)) ∧ (decode cX1_tellStatement 172 = .ok (.invokevirtual 38, 3))))) ∧ ((((decode cX1_tellStatement 175 = .ok (.invokevirtual 54, 3)) ∧ (decode cX1_tellStatement 178 = .ok (.ireturn, 1))) ∧ ((decode cX1_tellStatement 179 = .ok (.aload_n 1, 1)) ∧ (decode cX1_tellStatement 180 = .ok (.aload_n 0, 1)))) ∧ (((decode cX1_tellStatement 181 = .ok (.iload_n 2, 1)) ∧ (decode cX1_tellStatement 182 = .ok (.iconst 1, 1))) ∧ ((decode cX1_tellStatement 183 = .ok (.iadd, 1)) ∧ (decode cX1_tellStatement 184 = .ok (.invokevirtual 35, 3)))))) := by decide +kernel
theorem dX1_tellStatement_163 : decode cX1_tellStatement 163 = .ok (.iconst 1, 1) := dbc_18.1.1.1.1
theorem dX1_tellStatement_164 : decode cX1_tellStatement 164 = .ok (.iadd, 1) := dbc_18.1.1.1.2
theorem dX1_tellStatement_165 : decode cX1_tellStatement 165 = .ok (.invokevirtual 35, 3) := dbc_18.1.1.2.1
theorem dX1_tellStatement_168 : decode cX1_tellStatement 168 = .ok (.aload_n 0, 1) := dbc_18.1.1.2.2
theorem dX1_tellStatement_169 : decode cX1_tellStatement 169 = .ok (.iload_n 2, 1) := dbc_18.1.2.1.1
theorem dX1_tellStatement_170 : decode cX1_tellStatement 170 = .ok (.iconst 2, 1) := dbc_18.1.2.1.2
theorem dX1_tellStatement_171 : decode cX1_tellStatement 171 = .ok (.iadd, 1) := dbc_18.1.2.2.1
theorem dX1_tellStatement_172 : decode cX1_tellStatement 172 = .ok (.invokevirtual 38, 3) := dbc_18.1.2.2.2
theorem dX1_tellStatement_175 : decode cX1_tellStatement 175 = .ok (.invokevirtual 54, 3) := dbc_18.2.1.1.1
theorem dX1_tellStatement_178 : decode cX1_tellStatement 178 = .ok (.ireturn, 1) := dbc_18.2.1.1.2
theorem dX1_tellStatement_179 : decode cX1_tellStatement 179 = .ok (.aload_n 1, 1) := dbc_18.2.1.2.1
theorem dX1_tellStatement_180 : decode cX1_tellStatement 180 = .ok (.aload_n 0, 1) := dbc_18.2.1.2.2
theorem dX1_tellStatement_181 : decode cX1_tellStatement 181 = .ok (.iload_n 2, 1) := dbc_18.2.2.1.1
theorem dX1_tellStatement_182 : decode cX1_tellStatement 182 = .ok (.iconst 1, 1) := dbc_18.2.2.1.2
theorem dX1_tellStatement_183 : decode cX1_tellStatement 183 = .ok (.iadd, 1) := dbc_18.2.2.2.1
theorem dX1_tellStatement_184 : decode cX1_tellStatement 184 = .ok (.invokevirtual 35, 3) := dbc_18.2.2.2.2
theorem dbc_19 : (((((decode cX1_tellStatement 187 = .ok (.aload_n 0, 1)) ∧ (decode cX1_tellStatement 188 = .ok (.iload_n 2, 1))) ∧ ((decode cX1_tellStatement 189 = .ok (.iconst 2, 1)) ∧ (decode cX1_tellStatement 190 = .ok (.iadd, 1)))) ∧ (((decode cX1_tellStatement 191 = .ok (.invokevirtual 35, 3)) ∧ (decode cX1_tellStatement 194 = .ok (.invokevirtual 58, 3))) ∧ ((decode cX1_tellStatement 197 = .ok (.ireturn, 1)) ∧ (decode cX1_tellStatement 198 = .ok (.aload_n 1, 1))))) ∧ ((((decode cX1_tellStatement 199 = .ok (.aload_n 0, 1)) ∧ (decode cX1_tellStatement 200 = .ok (.iload_n 2, 1))) ∧ ((decode cX1_tellStatement 201 = .ok (.iconst 1, 1)) ∧ (decode cX1_tellStatement 202 = .ok (.iadd, 1)))) ∧ (((decode cX1_tellStatement 203 = .ok (.invokevirtual 38, 3)) ∧ (decode cX1_tellStatement 206 = .ok (.invokevirtual 61, 3))) ∧ ((decode cX1_tellStatement 209 = .ok (.ireturn, 1)) ∧ (decode cX1_tellStatement 210 = .ok (.iconst 0, 1)))))) := by decide +kernel
theorem dX1_tellStatement_187 : decode cX1_tellStatement 187 = .ok (.aload_n 0, 1) := dbc_19.1.1.1.1
theorem dX1_tellStatement_188 : decode cX1_tellStatement 188 = .ok (.iload_n 2, 1) := dbc_19.1.1.1.2
theorem dX1_tellStatement_189 : decode cX1_tellStatement 189 = .ok (.iconst 2, 1) := dbc_19.1.1.2.1
theorem dX1_tellStatement_190 : decode cX1_tellStatement 190 = .ok (.iadd, 1) := dbc_19.1.1.2.2
theorem dX1_tellStatement_191 : decode cX1_tellStatement 191 = .ok (.invokevirtual 35, 3) := dbc_19.1.2.1.1
theorem dX1_tellStatement_194 : decode cX1_tellStatement 194 = .ok (.invokevirtual 58, 3) := dbc_19.1.2.1.2
theorem dX1_tellStatement_197 : decode cX1_tellStatement 197 = .ok (.ireturn, 1) := dbc_19.1.2.2.1
theorem dX1_tellStatement_198 : decode cX1_tellStatement 198 = .ok (.aload_n 1, 1) := dbc_19.1.2.2.2
theorem dX1_tellStatement_199 : decode cX1_tellStatement 199 = .ok (.aload_n 0, 1) := dbc_19.2.1.1.1
theorem dX1_tellStatement_200 : decode cX1_tellStatement 200 = .ok (.iload_n 2, 1) := dbc_19.2.1.1.2
theorem dX1_tellStatement_201 : decode cX1_tellStatement 201 = .ok (.iconst 1, 1) := dbc_19.2.1.2.1
theorem dX1_tellStatement_202 : decode cX1_tellStatement 202 = .ok (.iadd, 1) := dbc_19.2.1.2.2
theorem dX1_tellStatement_203 : decode cX1_tellStatement 203 = .ok (.invokevirtual 38, 3) := dbc_19.2.2.1.1
theorem dX1_tellStatement_206 : decode cX1_tellStatement 206 = .ok (.invokevirtual 61, 3) := dbc_19.2.2.1.2
theorem dX1_tellStatement_209 : decode cX1_tellStatement 209 = .ok (.ireturn, 1) := dbc_19.2.2.2.1
theorem dX1_tellStatement_210 : decode cX1_tellStatement 210 = .ok (.iconst 0, 1) := dbc_19.2.2.2.2
theorem dbc_20 : (((((decode cX1_tellStatement 211 = .ok (.ireturn, 1)) ∧ (decode cX1_digit 0 = .ok (.iload_n 1, 1))) ∧ ((decode cX1_digit 1 = .ok (.aload_n 0, 1)) ∧ (decode cX1_digit 2 = .ok (.getfield 15, 3)))) ∧ (((decode cX1_digit 5 = .ok (.if_icmp .ge 15, 3)) ∧ (decode cX1_digit 8 = .ok (.aload_n 0, 1))) ∧ ((decode cX1_digit 9 = .ok (.getfield 9, 3)) ∧ (decode cX1_digit 12 = .ok (.iload_n 1, 1))))) ∧ ((((decode cX1_digit 13 = .ok (.iaload, 1)) ∧ (decode cX1_digit 14 = .ok (.bipush 48, 2))) ∧ ((decode cX1_digit 16 = .ok (.isub, 1)) ∧ (decode cX1_digit 17 = .ok (.goto 4, 3)))) ∧ (((decode cX1_digit 20 = .ok (.iconst 0, 1)) ∧ (decode cX1_digit 21 = .ok (.ireturn, 1))) ∧ ((decode cX1_pair 0 = .ok (.bipush 10, 2)) ∧ (decode cX1_pair 2 = .ok (.aload_n 0, 1)))))) := by decide +kernel
theorem dX1_tellStatement_211 : decode cX1_tellStatement 211 = .ok (.ireturn, 1) := dbc_20.1.1.1.1
theorem dX1_digit_0 : decode cX1_digit 0 = .ok (.iload_n 1, 1) := dbc_20.1.1.1.2
theorem dX1_digit_1 : decode cX1_digit 1 = .ok (.aload_n 0, 1) := dbc_20.1.1.2.1
theorem dX1_digit_2 : decode cX1_digit 2 = .ok (.getfield 15, 3) := dbc_20.1.1.2.2
theorem dX1_digit_5 : decode cX1_digit 5 = .ok (.if_icmp .ge 15, 3) := dbc_20.1.2.1.1
theorem dX1_digit_8 : decode cX1_digit 8 = .ok (.aload_n 0, 1) := dbc_20.1.2.1.2
theorem dX1_digit_9 : decode cX1_digit 9 = .ok (.getfield 9, 3) := dbc_20.1.2.2.1
theorem dX1_digit_12 : decode cX1_digit 12 = .ok (.iload_n 1, 1) := dbc_20.1.2.2.2
theorem dX1_digit_13 : decode cX1_digit 13 = .ok (.iaload, 1) := dbc_20.2.1.1.1
theorem dX1_digit_14 : decode cX1_digit 14 = .ok (.bipush 48, 2) := dbc_20.2.1.1.2
theorem dX1_digit_16 : decode cX1_digit 16 = .ok (.isub, 1) := dbc_20.2.1.2.1
theorem dX1_digit_17 : decode cX1_digit 17 = .ok (.goto 4, 3) := dbc_20.2.1.2.2
theorem dX1_digit_20 : decode cX1_digit 20 = .ok (.iconst 0, 1) := dbc_20.2.2.1.1
theorem dX1_digit_21 : decode cX1_digit 21 = .ok (.ireturn, 1) := dbc_20.2.2.1.2
theorem dX1_pair_0 : decode cX1_pair 0 = .ok (.bipush 10, 2) := dbc_20.2.2.2.1
theorem dX1_pair_2 : decode cX1_pair 2 = .ok (.aload_n 0, 1) := dbc_20.2.2.2.2
theorem dbc_21 : (((((decode cX1_pair 3 = .ok (.iload_n 1, 1)) ∧ (decode cX1_pair 4 = .ok (.invokevirtual 35, 3))) ∧ ((decode cX1_pair 7 = .ok (.imul, 1)) ∧ (decode cX1_pair 8 = .ok (.aload_n 0, 1)))) ∧ (((decode cX1_pair 9 = .ok (.iload_n 1, 1)) ∧ (decode cX1_pair 10 = .ok (.iconst 1, 1))) ∧ ((decode cX1_pair 11 = .ok (.iadd, 1)) ∧ (decode cX1_pair 12 = .ok (.invokevirtual 35, 3))))) ∧ ((((decode cX1_pair 15 = .ok (.iadd, 1)) ∧ (decode cX1_pair 16 = .ok (.ireturn, 1))) ∧ ((decode cX2_init 0 = .ok (.aload_n 0, 1)) ∧ (decode cX2_init 1 = .ok (.invokespecial 3, 3)))) ∧ (((decode cX2_init 4 = .ok (.aload_n 0, 1)) ∧ (decode cX2_init 5 = .ok (.sipush 896, 3))) ∧ ((decode cX2_init 8 = .ok (.newarray .int, 2)) ∧ (decode cX2_init 10 = .ok (.putfield 9, 3)))))) := by decide +kernel
theorem dX1_pair_3 : decode cX1_pair 3 = .ok (.iload_n 1, 1) := dbc_21.1.1.1.1
theorem dX1_pair_4 : decode cX1_pair 4 = .ok (.invokevirtual 35, 3) := dbc_21.1.1.1.2
theorem dX1_pair_7 : decode cX1_pair 7 = .ok (.imul, 1) := dbc_21.1.1.2.1
theorem dX1_pair_8 : decode cX1_pair 8 = .ok (.aload_n 0, 1) := dbc_21.1.1.2.2
theorem dX1_pair_9 : decode cX1_pair 9 = .ok (.iload_n 1, 1) := dbc_21.1.2.1.1
theorem dX1_pair_10 : decode cX1_pair 10 = .ok (.iconst 1, 1) := dbc_21.1.2.1.2
theorem dX1_pair_11 : decode cX1_pair 11 = .ok (.iadd, 1) := dbc_21.1.2.2.1
theorem dX1_pair_12 : decode cX1_pair 12 = .ok (.invokevirtual 35, 3) := dbc_21.1.2.2.2
theorem dX1_pair_15 : decode cX1_pair 15 = .ok (.iadd, 1) := dbc_21.2.1.1.1
theorem dX1_pair_16 : decode cX1_pair 16 = .ok (.ireturn, 1) := dbc_21.2.1.1.2
theorem dX2_init_0 : decode cX2_init 0 = .ok (.aload_n 0, 1) := dbc_21.2.1.2.1
theorem dX2_init_1 : decode cX2_init 1 = .ok (.invokespecial 3, 3) := dbc_21.2.1.2.2
theorem dX2_init_4 : decode cX2_init 4 = .ok (.aload_n 0, 1) := dbc_21.2.2.1.1
theorem dX2_init_5 : decode cX2_init 5 = .ok (.sipush 896, 3) := dbc_21.2.2.1.2
theorem dX2_init_8 : decode cX2_init 8 = .ok (.newarray .int, 2) := dbc_21.2.2.2.1
theorem dX2_init_10 : decode cX2_init 10 = .ok (.putfield 9, 3) := dbc_21.2.2.2.2
theorem dbc_22 : (((((decode cX2_init 13 = .ok (.return_, 1)) ∧ (decode cX2_plan 0 = .ok (.aload_n 0, 1))) ∧ ((decode cX2_plan 1 = .ok (.aload_n 1, 1)) ∧ (decode cX2_plan 2 = .ok (.iload_n 2, 1)))) ∧ (((decode cX2_plan 3 = .ok (.iconst 0, 1)) ∧ (decode cX2_plan 4 = .ok (.invokevirtual 15, 3))) ∧ ((decode cX2_plan 7 = .ok (.putfield 21, 3)) ∧ (decode cX2_plan 10 = .ok (.iconst 0, 1))))) ∧ ((((decode cX2_plan 11 = .ok (.istore_n 3, 1)) ∧ (decode cX2_plan 12 = .ok (.iload_n 3, 1))) ∧ ((decode cX2_plan 13 = .ok (.aload_n 0, 1)) ∧ (decode cX2_plan 14 = .ok (.getfield 21, 3)))) ∧ (((decode cX2_plan 17 = .ok (.if_icmp .gt 66, 3)) ∧ (decode cX2_plan 20 = .ok (.iload_n 3, 1))) ∧ ((decode cX2_plan 21 = .ok (.aload_n 0, 1)) ∧ (decode cX2_plan 22 = .ok (.getfield 21, 3)))))) := by decide +kernel
theorem dX2_init_13 : decode cX2_init 13 = .ok (.return_, 1) := dbc_22.1.1.1.1
theorem dX2_plan_0 : decode cX2_plan 0 = .ok (.aload_n 0, 1) := dbc_22.1.1.1.2
theorem dX2_plan_1 : decode cX2_plan 1 = .ok (.aload_n 1, 1) := dbc_22.1.1.2.1
theorem dX2_plan_2 : decode cX2_plan 2 = .ok (.iload_n 2, 1) := dbc_22.1.1.2.2
theorem dX2_plan_3 : decode cX2_plan 3 = .ok (.iconst 0, 1) := dbc_22.1.2.1.1
theorem dX2_plan_4 : decode cX2_plan 4 = .ok (.invokevirtual 15, 3) := dbc_22.1.2.1.2
theorem dX2_plan_7 : decode cX2_plan 7 = .ok (.putfield 21, 3) := dbc_22.1.2.2.1
theorem dX2_plan_10 : decode cX2_plan 10 = .ok (.iconst 0, 1) := dbc_22.1.2.2.2
theorem dX2_plan_11 : decode cX2_plan 11 = .ok (.istore_n 3, 1) := dbc_22.2.1.1.1
theorem dX2_plan_12 : decode cX2_plan 12 = .ok (.iload_n 3, 1) := dbc_22.2.1.1.2
theorem dX2_plan_13 : decode cX2_plan 13 = .ok (.aload_n 0, 1) := dbc_22.2.1.2.1
theorem dX2_plan_14 : decode cX2_plan 14 = .ok (.getfield 21, 3) := dbc_22.2.1.2.2
theorem dX2_plan_17 : decode cX2_plan 17 = .ok (.if_icmp .gt 66, 3) := dbc_22.2.2.1.1
theorem dX2_plan_20 : decode cX2_plan 20 = .ok (.iload_n 3, 1) := dbc_22.2.2.1.2
theorem dX2_plan_21 : decode cX2_plan 21 = .ok (.aload_n 0, 1) := dbc_22.2.2.2.1
theorem dX2_plan_22 : decode cX2_plan 22 = .ok (.getfield 21, 3) := dbc_22.2.2.2.2
theorem dbc_23 : (((((decode cX2_plan 25 = .ok (.iconst (-1), 1)) ∧ (decode cX2_plan 26 = .ok (.ixor, 1))) ∧ ((decode cX2_plan 27 = .ok (.iand, 1)) ∧ (decode cX2_plan 28 = .ok (.ifCond .eq 6, 3)))) ∧ (((decode cX2_plan 31 = .ok (.goto 46, 3)) ∧ (decode cX2_plan 34 = .ok (.iconst 0, 1))) ∧ ((decode cX2_plan 35 = .ok (.istore 4, 2)) ∧ (decode cX2_plan 37 = .ok (.iload 4, 2))))) ∧ ((((decode cX2_plan 39 = .ok (.aload_n 1, 1)) ∧ (decode cX2_plan 40 = .ok (.getfield 25, 3))) ∧ ((decode cX2_plan 43 = .ok (.if_icmp .ge 34, 3)) ∧ (decode cX2_plan 46 = .ok (.aload_n 0, 1)))) ∧ (((decode cX2_plan 47 = .ok (.getfield 9, 3)) ∧ (decode cX2_plan 50 = .ok (.iload_n 3, 1))) ∧ ((decode cX2_plan 51 = .ok (.bipush 7, 2)) ∧ (decode cX2_plan 53 = .ok (.imul, 1)))))) := by decide +kernel
theorem dX2_plan_25 : decode cX2_plan 25 = .ok (.iconst (-1), 1) := dbc_23.1.1.1.1
theorem dX2_plan_26 : decode cX2_plan 26 = .ok (.ixor, 1) := dbc_23.1.1.1.2
theorem dX2_plan_27 : decode cX2_plan 27 = .ok (.iand, 1) := dbc_23.1.1.2.1
theorem dX2_plan_28 : decode cX2_plan 28 = .ok (.ifCond .eq 6, 3) := dbc_23.1.1.2.2
theorem dX2_plan_31 : decode cX2_plan 31 = .ok (.goto 46, 3) := dbc_23.1.2.1.1
theorem dX2_plan_34 : decode cX2_plan 34 = .ok (.iconst 0, 1) := dbc_23.1.2.1.2
theorem dX2_plan_35 : decode cX2_plan 35 = .ok (.istore 4, 2) := dbc_23.1.2.2.1
theorem dX2_plan_37 : decode cX2_plan 37 = .ok (.iload 4, 2) := dbc_23.1.2.2.2
theorem dX2_plan_39 : decode cX2_plan 39 = .ok (.aload_n 1, 1) := dbc_23.2.1.1.1
theorem dX2_plan_40 : decode cX2_plan 40 = .ok (.getfield 25, 3) := dbc_23.2.1.1.2
theorem dX2_plan_43 : decode cX2_plan 43 = .ok (.if_icmp .ge 34, 3) := dbc_23.2.1.2.1
theorem dX2_plan_46 : decode cX2_plan 46 = .ok (.aload_n 0, 1) := dbc_23.2.1.2.2
theorem dX2_plan_47 : decode cX2_plan 47 = .ok (.getfield 9, 3) := dbc_23.2.2.1.1
theorem dX2_plan_50 : decode cX2_plan 50 = .ok (.iload_n 3, 1) := dbc_23.2.2.1.2
theorem dX2_plan_51 : decode cX2_plan 51 = .ok (.bipush 7, 2) := dbc_23.2.2.2.1
theorem dX2_plan_53 : decode cX2_plan 53 = .ok (.imul, 1) := dbc_23.2.2.2.2
theorem dbc_24 : (((((decode cX2_plan 54 = .ok (.iload 4, 2)) ∧ (decode cX2_plan 56 = .ok (.iadd, 1))) ∧ ((decode cX2_plan 57 = .ok (.aload_n 0, 1)) ∧ (decode cX2_plan 58 = .ok (.aload_n 1, 1)))) ∧ (((decode cX2_plan 59 = .ok (.aload_n 1, 1)) ∧ (decode cX2_plan 60 = .ok (.getfield 28, 3))) ∧ ((decode cX2_plan 63 = .ok (.iload 4, 2)) ∧ (decode cX2_plan 65 = .ok (.iaload, 1))))) ∧ ((((decode cX2_plan 66 = .ok (.iload_n 3, 1)) ∧ (decode cX2_plan 67 = .ok (.invokevirtual 31, 3))) ∧ ((decode cX2_plan 70 = .ok (.iastore, 1)) ∧ (decode cX2_plan 71 = .ok (.iinc 4 1, 3)))) ∧ (((decode cX2_plan 74 = .ok (.goto (-37), 3)) ∧ (decode cX2_plan 77 = .ok (.iinc 3 1, 3))) ∧ ((decode cX2_plan 80 = .ok (.goto (-68), 3)) ∧ (decode cX2_plan 83 = .ok (.return_, 1)))))) := by decide +kernel
theorem dX2_plan_54 : decode cX2_plan 54 = .ok (.iload 4, 2) := dbc_24.1.1.1.1
theorem dX2_plan_56 : decode cX2_plan 56 = .ok (.iadd, 1) := dbc_24.1.1.1.2
theorem dX2_plan_57 : decode cX2_plan 57 = .ok (.aload_n 0, 1) := dbc_24.1.1.2.1
theorem dX2_plan_58 : decode cX2_plan 58 = .ok (.aload_n 1, 1) := dbc_24.1.1.2.2
theorem dX2_plan_59 : decode cX2_plan 59 = .ok (.aload_n 1, 1) := dbc_24.1.2.1.1
theorem dX2_plan_60 : decode cX2_plan 60 = .ok (.getfield 28, 3) := dbc_24.1.2.1.2
theorem dX2_plan_63 : decode cX2_plan 63 = .ok (.iload 4, 2) := dbc_24.1.2.2.1
theorem dX2_plan_65 : decode cX2_plan 65 = .ok (.iaload, 1) := dbc_24.1.2.2.2
theorem dX2_plan_66 : decode cX2_plan 66 = .ok (.iload_n 3, 1) := dbc_24.2.1.1.1
theorem dX2_plan_67 : decode cX2_plan 67 = .ok (.invokevirtual 31, 3) := dbc_24.2.1.1.2
theorem dX2_plan_70 : decode cX2_plan 70 = .ok (.iastore, 1) := dbc_24.2.1.2.1
theorem dX2_plan_71 : decode cX2_plan 71 = .ok (.iinc 4 1, 3) := dbc_24.2.1.2.2
theorem dX2_plan_74 : decode cX2_plan 74 = .ok (.goto (-37), 3) := dbc_24.2.2.1.1
theorem dX2_plan_77 : decode cX2_plan 77 = .ok (.iinc 3 1, 3) := dbc_24.2.2.1.2
theorem dX2_plan_80 : decode cX2_plan 80 = .ok (.goto (-68), 3) := dbc_24.2.2.2.1
theorem dX2_plan_83 : decode cX2_plan 83 = .ok (.return_, 1) := dbc_24.2.2.2.2
theorem dbc_25 : (((((decode cX2_fewest 0 = .ok (.aload_n 0, 1)) ∧ (decode cX2_fewest 1 = .ok (.aload_n 1, 1))) ∧ ((decode cX2_fewest 2 = .ok (.iload_n 2, 1)) ∧ (decode cX2_fewest 3 = .ok (.iload_n 3, 1)))) ∧ (((decode cX2_fewest 4 = .ok (.invokevirtual 35, 3)) ∧ (decode cX2_fewest 7 = .ok (.istore 4, 2))) ∧ ((decode cX2_fewest 9 = .ok (.iload 4, 2)) ∧ (decode cX2_fewest 11 = .ok (.bipush (-9), 2))))) ∧ ((((decode cX2_fewest 13 = .ok (.if_icmp .ne 7, 3)) ∧ (decode cX2_fewest 16 = .ok (.iconst 0, 1))) ∧ ((decode cX2_fewest 17 = .ok (.goto 12, 3)) ∧ (decode cX2_fewest 20 = .ok (.aload_n 0, 1)))) ∧ (((decode cX2_fewest 21 = .ok (.aload_n 1, 1)) ∧ (decode cX2_fewest 22 = .ok (.iload_n 2, 1))) ∧ ((decode cX2_fewest 23 = .ok (.iload_n 3, 1)) ∧ (decode cX2_fewest 24 = .ok (.iload 4, 2)))))) := by decide +kernel
theorem dX2_fewest_0 : decode cX2_fewest 0 = .ok (.aload_n 0, 1) := dbc_25.1.1.1.1
theorem dX2_fewest_1 : decode cX2_fewest 1 = .ok (.aload_n 1, 1) := dbc_25.1.1.1.2
theorem dX2_fewest_2 : decode cX2_fewest 2 = .ok (.iload_n 2, 1) := dbc_25.1.1.2.1
theorem dX2_fewest_3 : decode cX2_fewest 3 = .ok (.iload_n 3, 1) := dbc_25.1.1.2.2
theorem dX2_fewest_4 : decode cX2_fewest 4 = .ok (.invokevirtual 35, 3) := dbc_25.1.2.1.1
theorem dX2_fewest_7 : decode cX2_fewest 7 = .ok (.istore 4, 2) := dbc_25.1.2.1.2
theorem dX2_fewest_9 : decode cX2_fewest 9 = .ok (.iload 4, 2) := dbc_25.1.2.2.1
theorem dX2_fewest_11 : decode cX2_fewest 11 = .ok (.bipush (-9), 2) := dbc_25.1.2.2.2
theorem dX2_fewest_13 : decode cX2_fewest 13 = .ok (.if_icmp .ne 7, 3) := dbc_25.2.1.1.1
theorem dX2_fewest_16 : decode cX2_fewest 16 = .ok (.iconst 0, 1) := dbc_25.2.1.1.2
theorem dX2_fewest_17 : decode cX2_fewest 17 = .ok (.goto 12, 3) := dbc_25.2.1.2.1
theorem dX2_fewest_20 : decode cX2_fewest 20 = .ok (.aload_n 0, 1) := dbc_25.2.1.2.2
theorem dX2_fewest_21 : decode cX2_fewest 21 = .ok (.aload_n 1, 1) := dbc_25.2.2.1.1
theorem dX2_fewest_22 : decode cX2_fewest 22 = .ok (.iload_n 2, 1) := dbc_25.2.2.1.2
theorem dX2_fewest_23 : decode cX2_fewest 23 = .ok (.iload_n 3, 1) := dbc_25.2.2.2.1
theorem dX2_fewest_24 : decode cX2_fewest 24 = .ok (.iload 4, 2) := dbc_25.2.2.2.2
theorem dbc_26 : (((((decode cX2_fewest 26 = .ok (.invokevirtual 38, 3)) ∧ (decode cX2_fewest 29 = .ok (.ireturn, 1))) ∧ ((decode cX2_stop 0 = .ok (.aload_n 0, 1)) ∧ (decode cX2_stop 1 = .ok (.getfield 21, 3)))) ∧ (((decode cX2_stop 4 = .ok (.istore 4, 2)) ∧ (decode cX2_stop 6 = .ok (.iload_n 2, 1))) ∧ ((decode cX2_stop 7 = .ok (.istore 5, 2)) ∧ (decode cX2_stop 9 = .ok (.iconst 0, 1))))) ∧ ((((decode cX2_stop 10 = .ok (.istore 6, 2)) ∧ (decode cX2_stop 12 = .ok (.iload 6, 2))) ∧ ((decode cX2_stop 14 = .ok (.bipush 7, 2)) ∧ (decode cX2_stop 16 = .ok (.if_icmp .ge 56, 3)))) ∧ (((decode cX2_stop 19 = .ok (.aload_n 0, 1)) ∧ (decode cX2_stop 20 = .ok (.aload_n 1, 1))) ∧ ((decode cX2_stop 21 = .ok (.iload 5, 2)) ∧ (decode cX2_stop 23 = .ok (.iload 4, 2)))))) := by decide +kernel
theorem dX2_fewest_26 : decode cX2_fewest 26 = .ok (.invokevirtual 38, 3) := dbc_26.1.1.1.1
theorem dX2_fewest_29 : decode cX2_fewest 29 = .ok (.ireturn, 1) := dbc_26.1.1.1.2
theorem dX2_stop_0 : decode cX2_stop 0 = .ok (.aload_n 0, 1) := dbc_26.1.1.2.1
theorem dX2_stop_1 : decode cX2_stop 1 = .ok (.getfield 21, 3) := dbc_26.1.1.2.2
theorem dX2_stop_4 : decode cX2_stop 4 = .ok (.istore 4, 2) := dbc_26.1.2.1.1
theorem dX2_stop_6 : decode cX2_stop 6 = .ok (.iload_n 2, 1) := dbc_26.1.2.1.2
theorem dX2_stop_7 : decode cX2_stop 7 = .ok (.istore 5, 2) := dbc_26.1.2.2.1
theorem dX2_stop_9 : decode cX2_stop 9 = .ok (.iconst 0, 1) := dbc_26.1.2.2.2
theorem dX2_stop_10 : decode cX2_stop 10 = .ok (.istore 6, 2) := dbc_26.2.1.1.1
theorem dX2_stop_12 : decode cX2_stop 12 = .ok (.iload 6, 2) := dbc_26.2.1.1.2
theorem dX2_stop_14 : decode cX2_stop 14 = .ok (.bipush 7, 2) := dbc_26.2.1.2.1
theorem dX2_stop_16 : decode cX2_stop 16 = .ok (.if_icmp .ge 56, 3) := dbc_26.2.1.2.2
theorem dX2_stop_19 : decode cX2_stop 19 = .ok (.aload_n 0, 1) := dbc_26.2.2.1.1
theorem dX2_stop_20 : decode cX2_stop 20 = .ok (.aload_n 1, 1) := dbc_26.2.2.1.2
theorem dX2_stop_21 : decode cX2_stop 21 = .ok (.iload 5, 2) := dbc_26.2.2.2.1
theorem dX2_stop_23 : decode cX2_stop 23 = .ok (.iload 4, 2) := dbc_26.2.2.2.2
theorem dbc_27 : (((((decode cX2_stop 25 = .ok (.invokevirtual 35, 3)) ∧ (decode cX2_stop 28 = .ok (.istore 7, 2))) ∧ ((decode cX2_stop 30 = .ok (.iload 7, 2)) ∧ (decode cX2_stop 32 = .ok (.bipush (-9), 2)))) ∧ (((decode cX2_stop 34 = .ok (.if_icmp .eq 9, 3)) ∧ (decode cX2_stop 37 = .ok (.iload 6, 2))) ∧ ((decode cX2_stop 39 = .ok (.iload_n 3, 1)) ∧ (decode cX2_stop 40 = .ok (.if_icmp .ne 6, 3))))) ∧ ((((decode cX2_stop 43 = .ok (.iload 7, 2)) ∧ (decode cX2_stop 45 = .ok (.ireturn, 1))) ∧ ((decode cX2_stop 46 = .ok (.aload_n 1, 1)) ∧ (decode cX2_stop 47 = .ok (.getfield 28, 3)))) ∧ (((decode cX2_stop 50 = .ok (.iload 7, 2)) ∧ (decode cX2_stop 52 = .ok (.iaload, 1))) ∧ ((decode cX2_stop 53 = .ok (.istore 5, 2)) ∧ (decode cX2_stop 55 = .ok (.iload 4, 2)))))) := by decide +kernel
theorem dX2_stop_25 : decode cX2_stop 25 = .ok (.invokevirtual 35, 3) := dbc_27.1.1.1.1
theorem dX2_stop_28 : decode cX2_stop 28 = .ok (.istore 7, 2) := dbc_27.1.1.1.2
theorem dX2_stop_30 : decode cX2_stop 30 = .ok (.iload 7, 2) := dbc_27.1.1.2.1
theorem dX2_stop_32 : decode cX2_stop 32 = .ok (.bipush (-9), 2) := dbc_27.1.1.2.2
theorem dX2_stop_34 : decode cX2_stop 34 = .ok (.if_icmp .eq 9, 3) := dbc_27.1.2.1.1
theorem dX2_stop_37 : decode cX2_stop 37 = .ok (.iload 6, 2) := dbc_27.1.2.1.2
theorem dX2_stop_39 : decode cX2_stop 39 = .ok (.iload_n 3, 1) := dbc_27.1.2.2.1
theorem dX2_stop_40 : decode cX2_stop 40 = .ok (.if_icmp .ne 6, 3) := dbc_27.1.2.2.2
theorem dX2_stop_43 : decode cX2_stop 43 = .ok (.iload 7, 2) := dbc_27.2.1.1.1
theorem dX2_stop_45 : decode cX2_stop 45 = .ok (.ireturn, 1) := dbc_27.2.1.1.2
theorem dX2_stop_46 : decode cX2_stop 46 = .ok (.aload_n 1, 1) := dbc_27.2.1.2.1
theorem dX2_stop_47 : decode cX2_stop 47 = .ok (.getfield 28, 3) := dbc_27.2.1.2.2
theorem dX2_stop_50 : decode cX2_stop 50 = .ok (.iload 7, 2) := dbc_27.2.2.1.1
theorem dX2_stop_52 : decode cX2_stop 52 = .ok (.iaload, 1) := dbc_27.2.2.1.2
theorem dX2_stop_53 : decode cX2_stop 53 = .ok (.istore 5, 2) := dbc_27.2.2.2.1
theorem dX2_stop_55 : decode cX2_stop 55 = .ok (.iload 4, 2) := dbc_27.2.2.2.2
theorem dbc_28 : (((((decode cX2_stop 57 = .ok (.iconst 1, 1)) ∧ (decode cX2_stop 58 = .ok (.iload 7, 2))) ∧ ((decode cX2_stop 60 = .ok (.ishl, 1)) ∧ (decode cX2_stop 61 = .ok (.iconst (-1), 1)))) ∧ (((decode cX2_stop 62 = .ok (.ixor, 1)) ∧ (decode cX2_stop 63 = .ok (.iand, 1))) ∧ ((decode cX2_stop 64 = .ok (.istore 4, 2)) ∧ (decode cX2_stop 66 = .ok (.iinc 6 1, 3))))) ∧ ((((decode cX2_stop 69 = .ok (.goto (-57), 3)) ∧ (decode cX2_stop 72 = .ok (.bipush (-9), 2))) ∧ ((decode cX2_stop 74 = .ok (.ireturn, 1)) ∧ (decode cX2_nextDoor 0 = .ok (.bipush (-9), 2)))) ∧ (((decode cX2_nextDoor 2 = .ok (.istore 4, 2)) ∧ (decode cX2_nextDoor 4 = .ok (.iconst 0, 1))) ∧ ((decode cX2_nextDoor 5 = .ok (.istore 5, 2)) ∧ (decode cX2_nextDoor 7 = .ok (.iconst 0, 1)))))) := by decide +kernel
theorem dX2_stop_57 : decode cX2_stop 57 = .ok (.iconst 1, 1) := dbc_28.1.1.1.1
theorem dX2_stop_58 : decode cX2_stop 58 = .ok (.iload 7, 2) := dbc_28.1.1.1.2
theorem dX2_stop_60 : decode cX2_stop 60 = .ok (.ishl, 1) := dbc_28.1.1.2.1
theorem dX2_stop_61 : decode cX2_stop 61 = .ok (.iconst (-1), 1) := dbc_28.1.1.2.2
theorem dX2_stop_62 : decode cX2_stop 62 = .ok (.ixor, 1) := dbc_28.1.2.1.1
theorem dX2_stop_63 : decode cX2_stop 63 = .ok (.iand, 1) := dbc_28.1.2.1.2
theorem dX2_stop_64 : decode cX2_stop 64 = .ok (.istore 4, 2) := dbc_28.1.2.2.1
theorem dX2_stop_66 : decode cX2_stop 66 = .ok (.iinc 6 1, 3) := dbc_28.1.2.2.2
theorem dX2_stop_69 : decode cX2_stop 69 = .ok (.goto (-57), 3) := dbc_28.2.1.1.1
theorem dX2_stop_72 : decode cX2_stop 72 = .ok (.bipush (-9), 2) := dbc_28.2.1.1.2
theorem dX2_stop_74 : decode cX2_stop 74 = .ok (.ireturn, 1) := dbc_28.2.1.2.1
theorem dX2_nextDoor_0 : decode cX2_nextDoor 0 = .ok (.bipush (-9), 2) := dbc_28.2.1.2.2
theorem dX2_nextDoor_2 : decode cX2_nextDoor 2 = .ok (.istore 4, 2) := dbc_28.2.2.1.1
theorem dX2_nextDoor_4 : decode cX2_nextDoor 4 = .ok (.iconst 0, 1) := dbc_28.2.2.1.2
theorem dX2_nextDoor_5 : decode cX2_nextDoor 5 = .ok (.istore 5, 2) := dbc_28.2.2.2.1
theorem dX2_nextDoor_7 : decode cX2_nextDoor 7 = .ok (.iconst 0, 1) := dbc_28.2.2.2.2
theorem dbc_29 : (((((decode cX2_nextDoor 8 = .ok (.istore 6, 2)) ∧ (decode cX2_nextDoor 10 = .ok (.iload 6, 2))) ∧ ((decode cX2_nextDoor 12 = .ok (.aload_n 1, 1)) ∧ (decode cX2_nextDoor 13 = .ok (.getfield 25, 3)))) ∧ (((decode cX2_nextDoor 16 = .ok (.if_icmp .ge 54, 3)) ∧ (decode cX2_nextDoor 19 = .ok (.iload_n 3, 1))) ∧ ((decode cX2_nextDoor 20 = .ok (.iload 6, 2)) ∧ (decode cX2_nextDoor 22 = .ok (.ishr, 1))))) ∧ ((((decode cX2_nextDoor 23 = .ok (.iconst 1, 1)) ∧ (decode cX2_nextDoor 24 = .ok (.iand, 1))) ∧ ((decode cX2_nextDoor 25 = .ok (.ifCond .ne 6, 3)) ∧ (decode cX2_nextDoor 28 = .ok (.goto 36, 3)))) ∧ (((decode cX2_nextDoor 31 = .ok (.aload_n 0, 1)) ∧ (decode cX2_nextDoor 32 = .ok (.aload_n 1, 1))) ∧ ((decode cX2_nextDoor 33 = .ok (.iload_n 2, 1)) ∧ (decode cX2_nextDoor 34 = .ok (.iload_n 3, 1)))))) := by decide +kernel
theorem dX2_nextDoor_8 : decode cX2_nextDoor 8 = .ok (.istore 6, 2) := dbc_29.1.1.1.1
theorem dX2_nextDoor_10 : decode cX2_nextDoor 10 = .ok (.iload 6, 2) := dbc_29.1.1.1.2
theorem dX2_nextDoor_12 : decode cX2_nextDoor 12 = .ok (.aload_n 1, 1) := dbc_29.1.1.2.1
theorem dX2_nextDoor_13 : decode cX2_nextDoor 13 = .ok (.getfield 25, 3) := dbc_29.1.1.2.2
theorem dX2_nextDoor_16 : decode cX2_nextDoor 16 = .ok (.if_icmp .ge 54, 3) := dbc_29.1.2.1.1
theorem dX2_nextDoor_19 : decode cX2_nextDoor 19 = .ok (.iload_n 3, 1) := dbc_29.1.2.1.2
theorem dX2_nextDoor_20 : decode cX2_nextDoor 20 = .ok (.iload 6, 2) := dbc_29.1.2.2.1
theorem dX2_nextDoor_22 : decode cX2_nextDoor 22 = .ok (.ishr, 1) := dbc_29.1.2.2.2
theorem dX2_nextDoor_23 : decode cX2_nextDoor 23 = .ok (.iconst 1, 1) := dbc_29.2.1.1.1
theorem dX2_nextDoor_24 : decode cX2_nextDoor 24 = .ok (.iand, 1) := dbc_29.2.1.1.2
theorem dX2_nextDoor_25 : decode cX2_nextDoor 25 = .ok (.ifCond .ne 6, 3) := dbc_29.2.1.2.1
theorem dX2_nextDoor_28 : decode cX2_nextDoor 28 = .ok (.goto 36, 3) := dbc_29.2.1.2.2
theorem dX2_nextDoor_31 : decode cX2_nextDoor 31 = .ok (.aload_n 0, 1) := dbc_29.2.2.1.1
theorem dX2_nextDoor_32 : decode cX2_nextDoor 32 = .ok (.aload_n 1, 1) := dbc_29.2.2.1.2
theorem dX2_nextDoor_33 : decode cX2_nextDoor 33 = .ok (.iload_n 2, 1) := dbc_29.2.2.2.1
theorem dX2_nextDoor_34 : decode cX2_nextDoor 34 = .ok (.iload_n 3, 1) := dbc_29.2.2.2.2
theorem dbc_30 : (((((decode cX2_nextDoor 35 = .ok (.iload 6, 2)) ∧ (decode cX2_nextDoor 37 = .ok (.invokevirtual 38, 3))) ∧ ((decode cX2_nextDoor 40 = .ok (.istore 7, 2)) ∧ (decode cX2_nextDoor 42 = .ok (.iload 4, 2)))) ∧ (((decode cX2_nextDoor 44 = .ok (.bipush (-9), 2)) ∧ (decode cX2_nextDoor 46 = .ok (.if_icmp .eq 10, 3))) ∧ ((decode cX2_nextDoor 49 = .ok (.iload 7, 2)) ∧ (decode cX2_nextDoor 51 = .ok (.iload 5, 2))))) ∧ ((((decode cX2_nextDoor 53 = .ok (.if_icmp .ge 11, 3)) ∧ (decode cX2_nextDoor 56 = .ok (.iload 7, 2))) ∧ ((decode cX2_nextDoor 58 = .ok (.istore 5, 2)) ∧ (decode cX2_nextDoor 60 = .ok (.iload 6, 2)))) ∧ (((decode cX2_nextDoor 62 = .ok (.istore 4, 2)) ∧ (decode cX2_nextDoor 64 = .ok (.iinc 6 1, 3))) ∧ ((decode cX2_nextDoor 67 = .ok (.goto (-57), 3)) ∧ (decode cX2_nextDoor 70 = .ok (.iload 4, 2)))))) := by decide +kernel
theorem dX2_nextDoor_35 : decode cX2_nextDoor 35 = .ok (.iload 6, 2) := dbc_30.1.1.1.1
theorem dX2_nextDoor_37 : decode cX2_nextDoor 37 = .ok (.invokevirtual 38, 3) := dbc_30.1.1.1.2
theorem dX2_nextDoor_40 : decode cX2_nextDoor 40 = .ok (.istore 7, 2) := dbc_30.1.1.2.1
theorem dX2_nextDoor_42 : decode cX2_nextDoor 42 = .ok (.iload 4, 2) := dbc_30.1.1.2.2
theorem dX2_nextDoor_44 : decode cX2_nextDoor 44 = .ok (.bipush (-9), 2) := dbc_30.1.2.1.1
theorem dX2_nextDoor_46 : decode cX2_nextDoor 46 = .ok (.if_icmp .eq 10, 3) := dbc_30.1.2.1.2
theorem dX2_nextDoor_49 : decode cX2_nextDoor 49 = .ok (.iload 7, 2) := dbc_30.1.2.2.1
theorem dX2_nextDoor_51 : decode cX2_nextDoor 51 = .ok (.iload 5, 2) := dbc_30.1.2.2.2
theorem dX2_nextDoor_53 : decode cX2_nextDoor 53 = .ok (.if_icmp .ge 11, 3) := dbc_30.2.1.1.1
theorem dX2_nextDoor_56 : decode cX2_nextDoor 56 = .ok (.iload 7, 2) := dbc_30.2.1.1.2
theorem dX2_nextDoor_58 : decode cX2_nextDoor 58 = .ok (.istore 5, 2) := dbc_30.2.1.2.1
theorem dX2_nextDoor_60 : decode cX2_nextDoor 60 = .ok (.iload 6, 2) := dbc_30.2.1.2.2
theorem dX2_nextDoor_62 : decode cX2_nextDoor 62 = .ok (.istore 4, 2) := dbc_30.2.2.1.1
theorem dX2_nextDoor_64 : decode cX2_nextDoor 64 = .ok (.iinc 6 1, 3) := dbc_30.2.2.1.2
theorem dX2_nextDoor_67 : decode cX2_nextDoor 67 = .ok (.goto (-57), 3) := dbc_30.2.2.2.1
theorem dX2_nextDoor_70 : decode cX2_nextDoor 70 = .ok (.iload 4, 2) := dbc_30.2.2.2.2
theorem dbc_31 : (((((decode cX2_nextDoor 72 = .ok (.ireturn, 1)) ∧ (decode cX2_stepsBy 0 = .ok (.iload_n 2, 1))) ∧ ((decode cX2_stepsBy 1 = .ok (.aload_n 1, 1)) ∧ (decode cX2_stepsBy 2 = .ok (.getfield 28, 3)))) ∧ (((decode cX2_stepsBy 5 = .ok (.iload 4, 2)) ∧ (decode cX2_stepsBy 7 = .ok (.iaload, 1))) ∧ ((decode cX2_stepsBy 8 = .ok (.invokestatic 42, 3)) ∧ (decode cX2_stepsBy 11 = .ok (.aload_n 0, 1))))) ∧ ((((decode cX2_stepsBy 12 = .ok (.getfield 9, 3)) ∧ (decode cX2_stepsBy 15 = .ok (.iload_n 3, 1))) ∧ ((decode cX2_stepsBy 16 = .ok (.iconst 1, 1)) ∧ (decode cX2_stepsBy 17 = .ok (.iload 4, 2)))) ∧ (((decode cX2_stepsBy 19 = .ok (.ishl, 1)) ∧ (decode cX2_stepsBy 20 = .ok (.iconst (-1), 1))) ∧ ((decode cX2_stepsBy 21 = .ok (.ixor, 1)) ∧ (decode cX2_stepsBy 22 = .ok (.iand, 1)))))) := by decide +kernel
theorem dX2_nextDoor_72 : decode cX2_nextDoor 72 = .ok (.ireturn, 1) := dbc_31.1.1.1.1
theorem dX2_stepsBy_0 : decode cX2_stepsBy 0 = .ok (.iload_n 2, 1) := dbc_31.1.1.1.2
theorem dX2_stepsBy_1 : decode cX2_stepsBy 1 = .ok (.aload_n 1, 1) := dbc_31.1.1.2.1
theorem dX2_stepsBy_2 : decode cX2_stepsBy 2 = .ok (.getfield 28, 3) := dbc_31.1.1.2.2
theorem dX2_stepsBy_5 : decode cX2_stepsBy 5 = .ok (.iload 4, 2) := dbc_31.1.2.1.1
theorem dX2_stepsBy_7 : decode cX2_stepsBy 7 = .ok (.iaload, 1) := dbc_31.1.2.1.2
theorem dX2_stepsBy_8 : decode cX2_stepsBy 8 = .ok (.invokestatic 42, 3) := dbc_31.1.2.2.1
theorem dX2_stepsBy_11 : decode cX2_stepsBy 11 = .ok (.aload_n 0, 1) := dbc_31.1.2.2.2
theorem dX2_stepsBy_12 : decode cX2_stepsBy 12 = .ok (.getfield 9, 3) := dbc_31.2.1.1.1
theorem dX2_stepsBy_15 : decode cX2_stepsBy 15 = .ok (.iload_n 3, 1) := dbc_31.2.1.1.2
theorem dX2_stepsBy_16 : decode cX2_stepsBy 16 = .ok (.iconst 1, 1) := dbc_31.2.1.2.1
theorem dX2_stepsBy_17 : decode cX2_stepsBy 17 = .ok (.iload 4, 2) := dbc_31.2.1.2.2
theorem dX2_stepsBy_19 : decode cX2_stepsBy 19 = .ok (.ishl, 1) := dbc_31.2.2.1.1
theorem dX2_stepsBy_20 : decode cX2_stepsBy 20 = .ok (.iconst (-1), 1) := dbc_31.2.2.1.2
theorem dX2_stepsBy_21 : decode cX2_stepsBy 21 = .ok (.ixor, 1) := dbc_31.2.2.2.1
theorem dX2_stepsBy_22 : decode cX2_stepsBy 22 = .ok (.iand, 1) := dbc_31.2.2.2.2
theorem dbc_32 : (((((decode cX2_stepsBy 23 = .ok (.bipush 7, 2)) ∧ (decode cX2_stepsBy 25 = .ok (.imul, 1))) ∧ ((decode cX2_stepsBy 26 = .ok (.iload 4, 2)) ∧ (decode cX2_stepsBy 28 = .ok (.iadd, 1)))) ∧ (((decode cX2_stepsBy 29 = .ok (.iaload, 1)) ∧ (decode cX2_stepsBy 30 = .ok (.iadd, 1))) ∧ ((decode cX2_stepsBy 31 = .ok (.ireturn, 1)) ∧ (decode cX3_init 0 = .ok (.aload_n 0, 1))))) ∧ ((((decode cX3_init 1 = .ok (.invokespecial 5, 3)) ∧ (decode cX3_init 4 = .ok (.aload_n 0, 1))) ∧ ((decode cX3_init 5 = .ok (.bipush 49, 2)) ∧ (decode cX3_init 7 = .ok (.newarray .int, 2)))) ∧ (((decode cX3_init 9 = .ok (.putfield 11, 3)) ∧ (decode cX3_init 12 = .ok (.return_, 1))) ∧ ((decode cX3_find 0 = .ok (.aload_n 1, 1)) ∧ (decode cX3_find 1 = .ok (.getfield 15, 3)))))) := by decide +kernel
theorem dX2_stepsBy_23 : decode cX2_stepsBy 23 = .ok (.bipush 7, 2) := dbc_32.1.1.1.1
theorem dX2_stepsBy_25 : decode cX2_stepsBy 25 = .ok (.imul, 1) := dbc_32.1.1.1.2
theorem dX2_stepsBy_26 : decode cX2_stepsBy 26 = .ok (.iload 4, 2) := dbc_32.1.1.2.1
theorem dX2_stepsBy_28 : decode cX2_stepsBy 28 = .ok (.iadd, 1) := dbc_32.1.1.2.2
theorem dX2_stepsBy_29 : decode cX2_stepsBy 29 = .ok (.iaload, 1) := dbc_32.1.2.1.1
theorem dX2_stepsBy_30 : decode cX2_stepsBy 30 = .ok (.iadd, 1) := dbc_32.1.2.1.2
theorem dX2_stepsBy_31 : decode cX2_stepsBy 31 = .ok (.ireturn, 1) := dbc_32.1.2.2.1
theorem dX3_init_0 : decode cX3_init 0 = .ok (.aload_n 0, 1) := dbc_32.1.2.2.2
theorem dX3_init_1 : decode cX3_init 1 = .ok (.invokespecial 5, 3) := dbc_32.2.1.1.1
theorem dX3_init_4 : decode cX3_init 4 = .ok (.aload_n 0, 1) := dbc_32.2.1.1.2
theorem dX3_init_5 : decode cX3_init 5 = .ok (.bipush 49, 2) := dbc_32.2.1.2.1
theorem dX3_init_7 : decode cX3_init 7 = .ok (.newarray .int, 2) := dbc_32.2.1.2.2
theorem dX3_init_9 : decode cX3_init 9 = .ok (.putfield 11, 3) := dbc_32.2.2.1.1
theorem dX3_init_12 : decode cX3_init 12 = .ok (.return_, 1) := dbc_32.2.2.1.2
theorem dX3_find_0 : decode cX3_find 0 = .ok (.aload_n 1, 1) := dbc_32.2.2.2.1
theorem dX3_find_1 : decode cX3_find 1 = .ok (.getfield 15, 3) := dbc_32.2.2.2.2
theorem dbc_33 : (((((decode cX3_find 4 = .ok (.iload_n 2, 1)) ∧ (decode cX3_find 5 = .ok (.iaload, 1))) ∧ ((decode cX3_find 6 = .ok (.istore 4, 2)) ∧ (decode cX3_find 8 = .ok (.aload_n 1, 1)))) ∧ (((decode cX3_find 9 = .ok (.iload_n 2, 1)) ∧ (decode cX3_find 10 = .ok (.iconst 0, 1))) ∧ ((decode cX3_find 11 = .ok (.invokevirtual 20, 3)) ∧ (decode cX3_find 14 = .ok (.istore 5, 2))))) ∧ ((((decode cX3_find 16 = .ok (.iconst 0, 1)) ∧ (decode cX3_find 17 = .ok (.istore 6, 2))) ∧ ((decode cX3_find 19 = .ok (.iload 6, 2)) ∧ (decode cX3_find 21 = .ok (.bipush 49, 2)))) ∧ (((decode cX3_find 23 = .ok (.if_icmp .ge 28, 3)) ∧ (decode cX3_find 26 = .ok (.aload_n 0, 1))) ∧ ((decode cX3_find 27 = .ok (.getfield 11, 3)) ∧ (decode cX3_find 30 = .ok (.iload 6, 2)))))) := by decide +kernel
theorem dX3_find_4 : decode cX3_find 4 = .ok (.iload_n 2, 1) := dbc_33.1.1.1.1
theorem dX3_find_5 : decode cX3_find 5 = .ok (.iaload, 1) := dbc_33.1.1.1.2
theorem dX3_find_6 : decode cX3_find 6 = .ok (.istore 4, 2) := dbc_33.1.1.2.1
theorem dX3_find_8 : decode cX3_find 8 = .ok (.aload_n 1, 1) := dbc_33.1.1.2.2
theorem dX3_find_9 : decode cX3_find 9 = .ok (.iload_n 2, 1) := dbc_33.1.2.1.1
theorem dX3_find_10 : decode cX3_find 10 = .ok (.iconst 0, 1) := dbc_33.1.2.1.2
theorem dX3_find_11 : decode cX3_find 11 = .ok (.invokevirtual 20, 3) := dbc_33.1.2.2.1
theorem dX3_find_14 : decode cX3_find 14 = .ok (.istore 5, 2) := dbc_33.1.2.2.2
theorem dX3_find_16 : decode cX3_find 16 = .ok (.iconst 0, 1) := dbc_33.2.1.1.1
theorem dX3_find_17 : decode cX3_find 17 = .ok (.istore 6, 2) := dbc_33.2.1.1.2
theorem dX3_find_19 : decode cX3_find 19 = .ok (.iload 6, 2) := dbc_33.2.1.2.1
theorem dX3_find_21 : decode cX3_find 21 = .ok (.bipush 49, 2) := dbc_33.2.1.2.2
theorem dX3_find_23 : decode cX3_find 23 = .ok (.if_icmp .ge 28, 3) := dbc_33.2.2.1.1
theorem dX3_find_26 : decode cX3_find 26 = .ok (.aload_n 0, 1) := dbc_33.2.2.1.2
theorem dX3_find_27 : decode cX3_find 27 = .ok (.getfield 11, 3) := dbc_33.2.2.2.1
theorem dX3_find_30 : decode cX3_find 30 = .ok (.iload 6, 2) := dbc_33.2.2.2.2
theorem dbc_34 : (((((decode cX3_find 32 = .ok (.aload_n 1, 1)) ∧ (decode cX3_find 33 = .ok (.iload_n 2, 1))) ∧ ((decode cX3_find 34 = .ok (.iload 6, 2)) ∧ (decode cX3_find 36 = .ok (.invokevirtual 24, 3)))) ∧ (((decode cX3_find 39 = .ok (.iload 5, 2)) ∧ (decode cX3_find 41 = .ok (.iconst (-1), 1))) ∧ ((decode cX3_find 42 = .ok (.ixor, 1)) ∧ (decode cX3_find 43 = .ok (.iand, 1))))) ∧ ((((decode cX3_find 44 = .ok (.iastore, 1)) ∧ (decode cX3_find 45 = .ok (.iinc 6 1, 3))) ∧ ((decode cX3_find 48 = .ok (.goto (-29), 3)) ∧ (decode cX3_find 51 = .ok (.aload_n 0, 1)))) ∧ (((decode cX3_find 52 = .ok (.iconst 0, 1)) ∧ (decode cX3_find 53 = .ok (.putfield 27, 3))) ∧ ((decode cX3_find 56 = .ok (.aload_n 0, 1)) ∧ (decode cX3_find 57 = .ok (.iconst 0, 1)))))) := by decide +kernel
theorem dX3_find_32 : decode cX3_find 32 = .ok (.aload_n 1, 1) := dbc_34.1.1.1.1
theorem dX3_find_33 : decode cX3_find 33 = .ok (.iload_n 2, 1) := dbc_34.1.1.1.2
theorem dX3_find_34 : decode cX3_find 34 = .ok (.iload 6, 2) := dbc_34.1.1.2.1
theorem dX3_find_36 : decode cX3_find 36 = .ok (.invokevirtual 24, 3) := dbc_34.1.1.2.2
theorem dX3_find_39 : decode cX3_find 39 = .ok (.iload 5, 2) := dbc_34.1.2.1.1
theorem dX3_find_41 : decode cX3_find 41 = .ok (.iconst (-1), 1) := dbc_34.1.2.1.2
theorem dX3_find_42 : decode cX3_find 42 = .ok (.ixor, 1) := dbc_34.1.2.2.1
theorem dX3_find_43 : decode cX3_find 43 = .ok (.iand, 1) := dbc_34.1.2.2.2
theorem dX3_find_44 : decode cX3_find 44 = .ok (.iastore, 1) := dbc_34.2.1.1.1
theorem dX3_find_45 : decode cX3_find 45 = .ok (.iinc 6 1, 3) := dbc_34.2.1.1.2
theorem dX3_find_48 : decode cX3_find 48 = .ok (.goto (-29), 3) := dbc_34.2.1.2.1
theorem dX3_find_51 : decode cX3_find 51 = .ok (.aload_n 0, 1) := dbc_34.2.1.2.2
theorem dX3_find_52 : decode cX3_find 52 = .ok (.iconst 0, 1) := dbc_34.2.2.1.1
theorem dX3_find_53 : decode cX3_find 53 = .ok (.putfield 27, 3) := dbc_34.2.2.1.2
theorem dX3_find_56 : decode cX3_find 56 = .ok (.aload_n 0, 1) := dbc_34.2.2.2.1
theorem dX3_find_57 : decode cX3_find 57 = .ok (.iconst 0, 1) := dbc_34.2.2.2.2
theorem dbc_35 : (((((decode cX3_find 58 = .ok (.putfield 31, 3)) ∧ (decode cX3_find 61 = .ok (.iload 4, 2))) ∧ ((decode cX3_find 63 = .ok (.iload_n 3, 1)) ∧ (decode cX3_find 64 = .ok (.if_icmp .ne 4, 3)))) ∧ (((decode cX3_find 67 = .ok (.return_, 1)) ∧ (decode cX3_find 68 = .ok (.aload_n 1, 1))) ∧ ((decode cX3_find 69 = .ok (.getfield 34, 3)) ∧ (decode cX3_find 72 = .ok (.istore 6, 2))))) ∧ ((((decode cX3_find 74 = .ok (.iconst 0, 1)) ∧ (decode cX3_find 75 = .ok (.istore 7, 2))) ∧ ((decode cX3_find 77 = .ok (.iload 7, 2)) ∧ (decode cX3_find 79 = .ok (.iload 6, 2)))) ∧ (((decode cX3_find 81 = .ok (.if_icmp .ge 40, 3)) ∧ (decode cX3_find 84 = .ok (.aload_n 0, 1))) ∧ ((decode cX3_find 85 = .ok (.iload 7, 2)) ∧ (decode cX3_find 87 = .ok (.putfield 27, 3)))))) := by decide +kernel
theorem dX3_find_58 : decode cX3_find 58 = .ok (.putfield 31, 3) := dbc_35.1.1.1.1
theorem dX3_find_61 : decode cX3_find 61 = .ok (.iload 4, 2) := dbc_35.1.1.1.2
theorem dX3_find_63 : decode cX3_find 63 = .ok (.iload_n 3, 1) := dbc_35.1.1.2.1
theorem dX3_find_64 : decode cX3_find 64 = .ok (.if_icmp .ne 4, 3) := dbc_35.1.1.2.2
theorem dX3_find_67 : decode cX3_find 67 = .ok (.return_, 1) := dbc_35.1.2.1.1
theorem dX3_find_68 : decode cX3_find 68 = .ok (.aload_n 1, 1) := dbc_35.1.2.1.2
theorem dX3_find_69 : decode cX3_find 69 = .ok (.getfield 34, 3) := dbc_35.1.2.2.1
theorem dX3_find_72 : decode cX3_find 72 = .ok (.istore 6, 2) := dbc_35.1.2.2.2
theorem dX3_find_74 : decode cX3_find 74 = .ok (.iconst 0, 1) := dbc_35.2.1.1.1
theorem dX3_find_75 : decode cX3_find 75 = .ok (.istore 7, 2) := dbc_35.2.1.1.2
theorem dX3_find_77 : decode cX3_find 77 = .ok (.iload 7, 2) := dbc_35.2.1.2.1
theorem dX3_find_79 : decode cX3_find 79 = .ok (.iload 6, 2) := dbc_35.2.1.2.2
theorem dX3_find_81 : decode cX3_find 81 = .ok (.if_icmp .ge 40, 3) := dbc_35.2.2.1.1
theorem dX3_find_84 : decode cX3_find 84 = .ok (.aload_n 0, 1) := dbc_35.2.2.1.2
theorem dX3_find_85 : decode cX3_find 85 = .ok (.iload 7, 2) := dbc_35.2.2.2.1
theorem dX3_find_87 : decode cX3_find 87 = .ok (.putfield 27, 3) := dbc_35.2.2.2.2
theorem dbc_36 : (((((decode cX3_find 90 = .ok (.aload_n 0, 1)) ∧ (decode cX3_find 91 = .ok (.aload_n 0, 1))) ∧ ((decode cX3_find 92 = .ok (.iload 7, 2)) ∧ (decode cX3_find 94 = .ok (.iload 6, 2)))) ∧ (((decode cX3_find 96 = .ok (.iload 4, 2)) ∧ (decode cX3_find 98 = .ok (.iload_n 3, 1))) ∧ ((decode cX3_find 99 = .ok (.invokevirtual 37, 3)) ∧ (decode cX3_find 102 = .ok (.putfield 31, 3))))) ∧ ((((decode cX3_find 105 = .ok (.aload_n 0, 1)) ∧ (decode cX3_find 106 = .ok (.getfield 31, 3))) ∧ ((decode cX3_find 109 = .ok (.bipush (-9), 2)) ∧ (decode cX3_find 111 = .ok (.if_icmp .eq 4, 3)))) ∧ (((decode cX3_find 114 = .ok (.return_, 1)) ∧ (decode cX3_find 115 = .ok (.iinc 7 1, 3))) ∧ ((decode cX3_find 118 = .ok (.goto (-41), 3)) ∧ (decode cX3_find 121 = .ok (.aload_n 0, 1)))))) := by decide +kernel
theorem dX3_find_90 : decode cX3_find 90 = .ok (.aload_n 0, 1) := dbc_36.1.1.1.1
theorem dX3_find_91 : decode cX3_find 91 = .ok (.aload_n 0, 1) := dbc_36.1.1.1.2
theorem dX3_find_92 : decode cX3_find 92 = .ok (.iload 7, 2) := dbc_36.1.1.2.1
theorem dX3_find_94 : decode cX3_find 94 = .ok (.iload 6, 2) := dbc_36.1.1.2.2
theorem dX3_find_96 : decode cX3_find 96 = .ok (.iload 4, 2) := dbc_36.1.2.1.1
theorem dX3_find_98 : decode cX3_find 98 = .ok (.iload_n 3, 1) := dbc_36.1.2.1.2
theorem dX3_find_99 : decode cX3_find 99 = .ok (.invokevirtual 37, 3) := dbc_36.1.2.2.1
theorem dX3_find_102 : decode cX3_find 102 = .ok (.putfield 31, 3) := dbc_36.1.2.2.2
theorem dX3_find_105 : decode cX3_find 105 = .ok (.aload_n 0, 1) := dbc_36.2.1.1.1
theorem dX3_find_106 : decode cX3_find 106 = .ok (.getfield 31, 3) := dbc_36.2.1.1.2
theorem dX3_find_109 : decode cX3_find 109 = .ok (.bipush (-9), 2) := dbc_36.2.1.2.1
theorem dX3_find_111 : decode cX3_find 111 = .ok (.if_icmp .eq 4, 3) := dbc_36.2.1.2.2
theorem dX3_find_114 : decode cX3_find 114 = .ok (.return_, 1) := dbc_36.2.2.1.1
theorem dX3_find_115 : decode cX3_find 115 = .ok (.iinc 7 1, 3) := dbc_36.2.2.1.2
theorem dX3_find_118 : decode cX3_find 118 = .ok (.goto (-41), 3) := dbc_36.2.2.2.1
theorem dX3_find_121 : decode cX3_find 121 = .ok (.aload_n 0, 1) := dbc_36.2.2.2.2
theorem dbc_37 : (((((decode cX3_find 122 = .ok (.iload 6, 2)) ∧ (decode cX3_find 124 = .ok (.putfield 27, 3))) ∧ ((decode cX3_find 127 = .ok (.aload_n 0, 1)) ∧ (decode cX3_find 128 = .ok (.iload 4, 2)))) ∧ (((decode cX3_find 130 = .ok (.iload_n 3, 1)) ∧ (decode cX3_find 131 = .ok (.invokestatic 41, 3))) ∧ ((decode cX3_find 134 = .ok (.putfield 31, 3)) ∧ (decode cX3_find 137 = .ok (.return_, 1))))) ∧ ((((decode cX3_shortestAt 0 = .ok (.bipush (-9), 2)) ∧ (decode cX3_shortestAt 2 = .ok (.istore 5, 2))) ∧ ((decode cX3_shortestAt 4 = .ok (.iconst 0, 1)) ∧ (decode cX3_shortestAt 5 = .ok (.istore 6, 2)))) ∧ (((decode cX3_shortestAt 7 = .ok (.iload 6, 2)) ∧ (decode cX3_shortestAt 9 = .ok (.iconst 1, 1))) ∧ ((decode cX3_shortestAt 10 = .ok (.iload_n 2, 1)) ∧ (decode cX3_shortestAt 11 = .ok (.ishl, 1)))))) := by decide +kernel
theorem dX3_find_122 : decode cX3_find 122 = .ok (.iload 6, 2) := dbc_37.1.1.1.1
theorem dX3_find_124 : decode cX3_find 124 = .ok (.putfield 27, 3) := dbc_37.1.1.1.2
theorem dX3_find_127 : decode cX3_find 127 = .ok (.aload_n 0, 1) := dbc_37.1.1.2.1
theorem dX3_find_128 : decode cX3_find 128 = .ok (.iload 4, 2) := dbc_37.1.1.2.2
theorem dX3_find_130 : decode cX3_find 130 = .ok (.iload_n 3, 1) := dbc_37.1.2.1.1
theorem dX3_find_131 : decode cX3_find 131 = .ok (.invokestatic 41, 3) := dbc_37.1.2.1.2
theorem dX3_find_134 : decode cX3_find 134 = .ok (.putfield 31, 3) := dbc_37.1.2.2.1
theorem dX3_find_137 : decode cX3_find 137 = .ok (.return_, 1) := dbc_37.1.2.2.2
theorem dX3_shortestAt_0 : decode cX3_shortestAt 0 = .ok (.bipush (-9), 2) := dbc_37.2.1.1.1
theorem dX3_shortestAt_2 : decode cX3_shortestAt 2 = .ok (.istore 5, 2) := dbc_37.2.1.1.2
theorem dX3_shortestAt_4 : decode cX3_shortestAt 4 = .ok (.iconst 0, 1) := dbc_37.2.1.2.1
theorem dX3_shortestAt_5 : decode cX3_shortestAt 5 = .ok (.istore 6, 2) := dbc_37.2.1.2.2
theorem dX3_shortestAt_7 : decode cX3_shortestAt 7 = .ok (.iload 6, 2) := dbc_37.2.2.1.1
theorem dX3_shortestAt_9 : decode cX3_shortestAt 9 = .ok (.iconst 1, 1) := dbc_37.2.2.1.2
theorem dX3_shortestAt_10 : decode cX3_shortestAt 10 = .ok (.iload_n 2, 1) := dbc_37.2.2.2.1
theorem dX3_shortestAt_11 : decode cX3_shortestAt 11 = .ok (.ishl, 1) := dbc_37.2.2.2.2
theorem dbc_38 : (((((decode cX3_shortestAt 12 = .ok (.if_icmp .ge 75, 3)) ∧ (decode cX3_shortestAt 15 = .ok (.iload 6, 2))) ∧ ((decode cX3_shortestAt 17 = .ok (.invokestatic 44, 3)) ∧ (decode cX3_shortestAt 20 = .ok (.iload_n 1, 1)))) ∧ (((decode cX3_shortestAt 21 = .ok (.if_icmp .ne 60, 3)) ∧ (decode cX3_shortestAt 24 = .ok (.aload_n 0, 1))) ∧ ((decode cX3_shortestAt 25 = .ok (.getfield 11, 3)) ∧ (decode cX3_shortestAt 28 = .ok (.iload 4, 2))))) ∧ ((((decode cX3_shortestAt 30 = .ok (.iaload, 1)) ∧ (decode cX3_shortestAt 31 = .ok (.iload 6, 2))) ∧ ((decode cX3_shortestAt 33 = .ok (.iconst (-1), 1)) ∧ (decode cX3_shortestAt 34 = .ok (.ixor, 1)))) ∧ (((decode cX3_shortestAt 35 = .ok (.iand, 1)) ∧ (decode cX3_shortestAt 36 = .ok (.ifCond .eq 6, 3))) ∧ ((decode cX3_shortestAt 39 = .ok (.goto 42, 3)) ∧ (decode cX3_shortestAt 42 = .ok (.aload_n 0, 1)))))) := by decide +kernel
theorem dX3_shortestAt_12 : decode cX3_shortestAt 12 = .ok (.if_icmp .ge 75, 3) := dbc_38.1.1.1.1
theorem dX3_shortestAt_15 : decode cX3_shortestAt 15 = .ok (.iload 6, 2) := dbc_38.1.1.1.2
theorem dX3_shortestAt_17 : decode cX3_shortestAt 17 = .ok (.invokestatic 44, 3) := dbc_38.1.1.2.1
theorem dX3_shortestAt_20 : decode cX3_shortestAt 20 = .ok (.iload_n 1, 1) := dbc_38.1.1.2.2
theorem dX3_shortestAt_21 : decode cX3_shortestAt 21 = .ok (.if_icmp .ne 60, 3) := dbc_38.1.2.1.1
theorem dX3_shortestAt_24 : decode cX3_shortestAt 24 = .ok (.aload_n 0, 1) := dbc_38.1.2.1.2
theorem dX3_shortestAt_25 : decode cX3_shortestAt 25 = .ok (.getfield 11, 3) := dbc_38.1.2.2.1
theorem dX3_shortestAt_28 : decode cX3_shortestAt 28 = .ok (.iload 4, 2) := dbc_38.1.2.2.2
theorem dX3_shortestAt_30 : decode cX3_shortestAt 30 = .ok (.iaload, 1) := dbc_38.2.1.1.1
theorem dX3_shortestAt_31 : decode cX3_shortestAt 31 = .ok (.iload 6, 2) := dbc_38.2.1.1.2
theorem dX3_shortestAt_33 : decode cX3_shortestAt 33 = .ok (.iconst (-1), 1) := dbc_38.2.1.2.1
theorem dX3_shortestAt_34 : decode cX3_shortestAt 34 = .ok (.ixor, 1) := dbc_38.2.1.2.2
theorem dX3_shortestAt_35 : decode cX3_shortestAt 35 = .ok (.iand, 1) := dbc_38.2.2.1.1
theorem dX3_shortestAt_36 : decode cX3_shortestAt 36 = .ok (.ifCond .eq 6, 3) := dbc_38.2.2.1.2
theorem dX3_shortestAt_39 : decode cX3_shortestAt 39 = .ok (.goto 42, 3) := dbc_38.2.2.2.1
theorem dX3_shortestAt_42 : decode cX3_shortestAt 42 = .ok (.aload_n 0, 1) := dbc_38.2.2.2.2
theorem dbc_39 : (((((decode cX3_shortestAt 43 = .ok (.iload 6, 2)) ∧ (decode cX3_shortestAt 45 = .ok (.invokevirtual 50, 3))) ∧ ((decode cX3_shortestAt 48 = .ok (.iload_n 3, 1)) ∧ (decode cX3_shortestAt 49 = .ok (.iload 4, 2)))) ∧ (((decode cX3_shortestAt 51 = .ok (.invokestatic 54, 3)) ∧ (decode cX3_shortestAt 54 = .ok (.istore 7, 2))) ∧ ((decode cX3_shortestAt 56 = .ok (.iload 7, 2)) ∧ (decode cX3_shortestAt 58 = .ok (.bipush (-9), 2))))) ∧ ((((decode cX3_shortestAt 60 = .ok (.if_icmp .eq 21, 3)) ∧ (decode cX3_shortestAt 63 = .ok (.iload 5, 2))) ∧ ((decode cX3_shortestAt 65 = .ok (.bipush (-9), 2)) ∧ (decode cX3_shortestAt 67 = .ok (.if_icmp .eq 10, 3)))) ∧ (((decode cX3_shortestAt 70 = .ok (.iload 7, 2)) ∧ (decode cX3_shortestAt 72 = .ok (.iload 5, 2))) ∧ ((decode cX3_shortestAt 74 = .ok (.if_icmp .ge 7, 3)) ∧ (decode cX3_shortestAt 77 = .ok (.iload 7, 2)))))) := by decide +kernel
theorem dX3_shortestAt_43 : decode cX3_shortestAt 43 = .ok (.iload 6, 2) := dbc_39.1.1.1.1
theorem dX3_shortestAt_45 : decode cX3_shortestAt 45 = .ok (.invokevirtual 50, 3) := dbc_39.1.1.1.2
theorem dX3_shortestAt_48 : decode cX3_shortestAt 48 = .ok (.iload_n 3, 1) := dbc_39.1.1.2.1
theorem dX3_shortestAt_49 : decode cX3_shortestAt 49 = .ok (.iload 4, 2) := dbc_39.1.1.2.2
theorem dX3_shortestAt_51 : decode cX3_shortestAt 51 = .ok (.invokestatic 54, 3) := dbc_39.1.2.1.1
theorem dX3_shortestAt_54 : decode cX3_shortestAt 54 = .ok (.istore 7, 2) := dbc_39.1.2.1.2
theorem dX3_shortestAt_56 : decode cX3_shortestAt 56 = .ok (.iload 7, 2) := dbc_39.1.2.2.1
theorem dX3_shortestAt_58 : decode cX3_shortestAt 58 = .ok (.bipush (-9), 2) := dbc_39.1.2.2.2
theorem dX3_shortestAt_60 : decode cX3_shortestAt 60 = .ok (.if_icmp .eq 21, 3) := dbc_39.2.1.1.1
theorem dX3_shortestAt_63 : decode cX3_shortestAt 63 = .ok (.iload 5, 2) := dbc_39.2.1.1.2
theorem dX3_shortestAt_65 : decode cX3_shortestAt 65 = .ok (.bipush (-9), 2) := dbc_39.2.1.2.1
theorem dX3_shortestAt_67 : decode cX3_shortestAt 67 = .ok (.if_icmp .eq 10, 3) := dbc_39.2.1.2.2
theorem dX3_shortestAt_70 : decode cX3_shortestAt 70 = .ok (.iload 7, 2) := dbc_39.2.2.1.1
theorem dX3_shortestAt_72 : decode cX3_shortestAt 72 = .ok (.iload 5, 2) := dbc_39.2.2.1.2
theorem dX3_shortestAt_74 : decode cX3_shortestAt 74 = .ok (.if_icmp .ge 7, 3) := dbc_39.2.2.2.1
theorem dX3_shortestAt_77 : decode cX3_shortestAt 77 = .ok (.iload 7, 2) := dbc_39.2.2.2.2
theorem dbc_40 : (((((decode cX3_shortestAt 79 = .ok (.istore 5, 2)) ∧ (decode cX3_shortestAt 81 = .ok (.iinc 6 1, 3))) ∧ ((decode cX3_shortestAt 84 = .ok (.goto (-77), 3)) ∧ (decode cX3_shortestAt 87 = .ok (.iload 5, 2)))) ∧ (((decode cX3_shortestAt 89 = .ok (.ireturn, 1)) ∧ (decode cX3_openCells 0 = .ok (.lconst 0, 1))) ∧ ((decode cX3_openCells 1 = .ok (.lstore_n 2, 1)) ∧ (decode cX3_openCells 2 = .ok (.iconst 0, 1))))) ∧ ((((decode cX3_openCells 3 = .ok (.istore 4, 2)) ∧ (decode cX3_openCells 5 = .ok (.iload 4, 2))) ∧ ((decode cX3_openCells 7 = .ok (.bipush 49, 2)) ∧ (decode cX3_openCells 9 = .ok (.if_icmp .ge 30, 3)))) ∧ (((decode cX3_openCells 12 = .ok (.aload_n 0, 1)) ∧ (decode cX3_openCells 13 = .ok (.getfield 11, 3))) ∧ ((decode cX3_openCells 16 = .ok (.iload 4, 2)) ∧ (decode cX3_openCells 18 = .ok (.iaload, 1)))))) := by decide +kernel
theorem dX3_shortestAt_79 : decode cX3_shortestAt 79 = .ok (.istore 5, 2) := dbc_40.1.1.1.1
theorem dX3_shortestAt_81 : decode cX3_shortestAt 81 = .ok (.iinc 6 1, 3) := dbc_40.1.1.1.2
theorem dX3_shortestAt_84 : decode cX3_shortestAt 84 = .ok (.goto (-77), 3) := dbc_40.1.1.2.1
theorem dX3_shortestAt_87 : decode cX3_shortestAt 87 = .ok (.iload 5, 2) := dbc_40.1.1.2.2
theorem dX3_shortestAt_89 : decode cX3_shortestAt 89 = .ok (.ireturn, 1) := dbc_40.1.2.1.1
theorem dX3_openCells_0 : decode cX3_openCells 0 = .ok (.lconst 0, 1) := dbc_40.1.2.1.2
theorem dX3_openCells_1 : decode cX3_openCells 1 = .ok (.lstore_n 2, 1) := dbc_40.1.2.2.1
theorem dX3_openCells_2 : decode cX3_openCells 2 = .ok (.iconst 0, 1) := dbc_40.1.2.2.2
theorem dX3_openCells_3 : decode cX3_openCells 3 = .ok (.istore 4, 2) := dbc_40.2.1.1.1
theorem dX3_openCells_5 : decode cX3_openCells 5 = .ok (.iload 4, 2) := dbc_40.2.1.1.2
theorem dX3_openCells_7 : decode cX3_openCells 7 = .ok (.bipush 49, 2) := dbc_40.2.1.2.1
theorem dX3_openCells_9 : decode cX3_openCells 9 = .ok (.if_icmp .ge 30, 3) := dbc_40.2.1.2.2
theorem dX3_openCells_12 : decode cX3_openCells 12 = .ok (.aload_n 0, 1) := dbc_40.2.2.1.1
theorem dX3_openCells_13 : decode cX3_openCells 13 = .ok (.getfield 11, 3) := dbc_40.2.2.1.2
theorem dX3_openCells_16 : decode cX3_openCells 16 = .ok (.iload 4, 2) := dbc_40.2.2.2.1
theorem dX3_openCells_18 : decode cX3_openCells 18 = .ok (.iaload, 1) := dbc_40.2.2.2.2
theorem dbc_41 : (((((decode cX3_openCells 19 = .ok (.iload_n 1, 1)) ∧ (decode cX3_openCells 20 = .ok (.iconst (-1), 1))) ∧ ((decode cX3_openCells 21 = .ok (.ixor, 1)) ∧ (decode cX3_openCells 22 = .ok (.iand, 1)))) ∧ (((decode cX3_openCells 23 = .ok (.ifCond .ne 10, 3)) ∧ (decode cX3_openCells 26 = .ok (.lload_n 2, 1))) ∧ ((decode cX3_openCells 27 = .ok (.lconst 1, 1)) ∧ (decode cX3_openCells 28 = .ok (.iload 4, 2))))) ∧ ((((decode cX3_openCells 30 = .ok (.lshl, 1)) ∧ (decode cX3_openCells 31 = .ok (.lor, 1))) ∧ ((decode cX3_openCells 32 = .ok (.lstore_n 2, 1)) ∧ (decode cX3_openCells 33 = .ok (.iinc 4 1, 3)))) ∧ (((decode cX3_openCells 36 = .ok (.goto (-31), 3)) ∧ (decode cX3_openCells 39 = .ok (.lload_n 2, 1))) ∧ ((decode cX3_openCells 40 = .ok (.lreturn, 1)) ∧ (decode cX3_shortestOver 0 = .ok (.iload_n 2, 1)))))) := by decide +kernel
theorem dX3_openCells_19 : decode cX3_openCells 19 = .ok (.iload_n 1, 1) := dbc_41.1.1.1.1
theorem dX3_openCells_20 : decode cX3_openCells 20 = .ok (.iconst (-1), 1) := dbc_41.1.1.1.2
theorem dX3_openCells_21 : decode cX3_openCells 21 = .ok (.ixor, 1) := dbc_41.1.1.2.1
theorem dX3_openCells_22 : decode cX3_openCells 22 = .ok (.iand, 1) := dbc_41.1.1.2.2
theorem dX3_openCells_23 : decode cX3_openCells 23 = .ok (.ifCond .ne 10, 3) := dbc_41.1.2.1.1
theorem dX3_openCells_26 : decode cX3_openCells 26 = .ok (.lload_n 2, 1) := dbc_41.1.2.1.2
theorem dX3_openCells_27 : decode cX3_openCells 27 = .ok (.lconst 1, 1) := dbc_41.1.2.2.1
theorem dX3_openCells_28 : decode cX3_openCells 28 = .ok (.iload 4, 2) := dbc_41.1.2.2.2
theorem dX3_openCells_30 : decode cX3_openCells 30 = .ok (.lshl, 1) := dbc_41.2.1.1.1
theorem dX3_openCells_31 : decode cX3_openCells 31 = .ok (.lor, 1) := dbc_41.2.1.1.2
theorem dX3_openCells_32 : decode cX3_openCells 32 = .ok (.lstore_n 2, 1) := dbc_41.2.1.2.1
theorem dX3_openCells_33 : decode cX3_openCells 33 = .ok (.iinc 4 1, 3) := dbc_41.2.1.2.2
theorem dX3_openCells_36 : decode cX3_openCells 36 = .ok (.goto (-31), 3) := dbc_41.2.2.1.1
theorem dX3_openCells_39 : decode cX3_openCells 39 = .ok (.lload_n 2, 1) := dbc_41.2.2.1.2
theorem dX3_openCells_40 : decode cX3_openCells 40 = .ok (.lreturn, 1) := dbc_41.2.2.2.1
theorem dX3_shortestOver_0 : decode cX3_shortestOver 0 = .ok (.iload_n 2, 1) := dbc_41.2.2.2.2
theorem dbc_42 : (((((decode cX3_shortestOver 1 = .ok (.iload_n 3, 1)) ∧ (decode cX3_shortestOver 2 = .ok (.invokestatic 41, 3))) ∧ ((decode cX3_shortestOver 5 = .ok (.bipush 12, 2)) ∧ (decode cX3_shortestOver 7 = .ok (.iadd, 1)))) ∧ (((decode cX3_shortestOver 8 = .ok (.istore 4, 2)) ∧ (decode cX3_shortestOver 10 = .ok (.lconst 1, 1))) ∧ ((decode cX3_shortestOver 11 = .ok (.iload_n 2, 1)) ∧ (decode cX3_shortestOver 12 = .ok (.lshl, 1))))) ∧ ((((decode cX3_shortestOver 13 = .ok (.lstore 5, 2)) ∧ (decode cX3_shortestOver 15 = .ok (.iconst 1, 1))) ∧ ((decode cX3_shortestOver 16 = .ok (.istore 7, 2)) ∧ (decode cX3_shortestOver 18 = .ok (.iload 7, 2)))) ∧ (((decode cX3_shortestOver 20 = .ok (.iload 4, 2)) ∧ (decode cX3_shortestOver 22 = .ok (.if_icmp .gt 63, 3))) ∧ ((decode cX3_shortestOver 25 = .ok (.lload 5, 2)) ∧ (decode cX3_shortestOver 27 = .ok (.ldc2_w 58, 3)))))) := by decide +kernel
theorem dX3_shortestOver_1 : decode cX3_shortestOver 1 = .ok (.iload_n 3, 1) := dbc_42.1.1.1.1
theorem dX3_shortestOver_2 : decode cX3_shortestOver 2 = .ok (.invokestatic 41, 3) := dbc_42.1.1.1.2
theorem dX3_shortestOver_5 : decode cX3_shortestOver 5 = .ok (.bipush 12, 2) := dbc_42.1.1.2.1
theorem dX3_shortestOver_7 : decode cX3_shortestOver 7 = .ok (.iadd, 1) := dbc_42.1.1.2.2
theorem dX3_shortestOver_8 : decode cX3_shortestOver 8 = .ok (.istore 4, 2) := dbc_42.1.2.1.1
theorem dX3_shortestOver_10 : decode cX3_shortestOver 10 = .ok (.lconst 1, 1) := dbc_42.1.2.1.2
theorem dX3_shortestOver_11 : decode cX3_shortestOver 11 = .ok (.iload_n 2, 1) := dbc_42.1.2.2.1
theorem dX3_shortestOver_12 : decode cX3_shortestOver 12 = .ok (.lshl, 1) := dbc_42.1.2.2.2
theorem dX3_shortestOver_13 : decode cX3_shortestOver 13 = .ok (.lstore 5, 2) := dbc_42.2.1.1.1
theorem dX3_shortestOver_15 : decode cX3_shortestOver 15 = .ok (.iconst 1, 1) := dbc_42.2.1.1.2
theorem dX3_shortestOver_16 : decode cX3_shortestOver 16 = .ok (.istore 7, 2) := dbc_42.2.1.2.1
theorem dX3_shortestOver_18 : decode cX3_shortestOver 18 = .ok (.iload 7, 2) := dbc_42.2.1.2.2
theorem dX3_shortestOver_20 : decode cX3_shortestOver 20 = .ok (.iload 4, 2) := dbc_42.2.2.1.1
theorem dX3_shortestOver_22 : decode cX3_shortestOver 22 = .ok (.if_icmp .gt 63, 3) := dbc_42.2.2.1.2
theorem dX3_shortestOver_25 : decode cX3_shortestOver 25 = .ok (.lload 5, 2) := dbc_42.2.2.2.1
theorem dX3_shortestOver_27 : decode cX3_shortestOver 27 = .ok (.ldc2_w 58, 3) := dbc_42.2.2.2.2
theorem dbc_43 : (((((decode cX3_shortestOver 30 = .ok (.land, 1)) ∧ (decode cX3_shortestOver 31 = .ok (.iconst 1, 1))) ∧ ((decode cX3_shortestOver 32 = .ok (.lshl, 1)) ∧ (decode cX3_shortestOver 33 = .ok (.lload 5, 2)))) ∧ (((decode cX3_shortestOver 35 = .ok (.ldc2_w 60, 3)) ∧ (decode cX3_shortestOver 38 = .ok (.land, 1))) ∧ ((decode cX3_shortestOver 39 = .ok (.iconst 1, 1)) ∧ (decode cX3_shortestOver 40 = .ok (.lushr, 1))))) ∧ ((((decode cX3_shortestOver 41 = .ok (.lor, 1)) ∧ (decode cX3_shortestOver 42 = .ok (.lstore 8, 2))) ∧ ((decode cX3_shortestOver 44 = .ok (.lload 5, 2)) ∧ (decode cX3_shortestOver 46 = .ok (.lload 5, 2)))) ∧ (((decode cX3_shortestOver 48 = .ok (.bipush 7, 2)) ∧ (decode cX3_shortestOver 50 = .ok (.lshl, 1))) ∧ ((decode cX3_shortestOver 51 = .ok (.lor, 1)) ∧ (decode cX3_shortestOver 52 = .ok (.lload 5, 2)))))) := by decide +kernel
theorem dX3_shortestOver_30 : decode cX3_shortestOver 30 = .ok (.land, 1) := dbc_43.1.1.1.1
theorem dX3_shortestOver_31 : decode cX3_shortestOver 31 = .ok (.iconst 1, 1) := dbc_43.1.1.1.2
theorem dX3_shortestOver_32 : decode cX3_shortestOver 32 = .ok (.lshl, 1) := dbc_43.1.1.2.1
theorem dX3_shortestOver_33 : decode cX3_shortestOver 33 = .ok (.lload 5, 2) := dbc_43.1.1.2.2
theorem dX3_shortestOver_35 : decode cX3_shortestOver 35 = .ok (.ldc2_w 60, 3) := dbc_43.1.2.1.1
theorem dX3_shortestOver_38 : decode cX3_shortestOver 38 = .ok (.land, 1) := dbc_43.1.2.1.2
theorem dX3_shortestOver_39 : decode cX3_shortestOver 39 = .ok (.iconst 1, 1) := dbc_43.1.2.2.1
theorem dX3_shortestOver_40 : decode cX3_shortestOver 40 = .ok (.lushr, 1) := dbc_43.1.2.2.2
theorem dX3_shortestOver_41 : decode cX3_shortestOver 41 = .ok (.lor, 1) := dbc_43.2.1.1.1
theorem dX3_shortestOver_42 : decode cX3_shortestOver 42 = .ok (.lstore 8, 2) := dbc_43.2.1.1.2
theorem dX3_shortestOver_44 : decode cX3_shortestOver 44 = .ok (.lload 5, 2) := dbc_43.2.1.2.1
theorem dX3_shortestOver_46 : decode cX3_shortestOver 46 = .ok (.lload 5, 2) := dbc_43.2.1.2.2
theorem dX3_shortestOver_48 : decode cX3_shortestOver 48 = .ok (.bipush 7, 2) := dbc_43.2.2.1.1
theorem dX3_shortestOver_50 : decode cX3_shortestOver 50 = .ok (.lshl, 1) := dbc_43.2.2.1.2
theorem dX3_shortestOver_51 : decode cX3_shortestOver 51 = .ok (.lor, 1) := dbc_43.2.2.2.1
theorem dX3_shortestOver_52 : decode cX3_shortestOver 52 = .ok (.lload 5, 2) := dbc_43.2.2.2.2
theorem dbc_44 : (((((decode cX3_shortestOver 54 = .ok (.bipush 7, 2)) ∧ (decode cX3_shortestOver 56 = .ok (.lushr, 1))) ∧ ((decode cX3_shortestOver 57 = .ok (.lor, 1)) ∧ (decode cX3_shortestOver 58 = .ok (.lload 8, 2)))) ∧ (((decode cX3_shortestOver 60 = .ok (.lor, 1)) ∧ (decode cX3_shortestOver 61 = .ok (.lload_n 0, 1))) ∧ ((decode cX3_shortestOver 62 = .ok (.land, 1)) ∧ (decode cX3_shortestOver 63 = .ok (.lstore 5, 2))))) ∧ ((((decode cX3_shortestOver 65 = .ok (.lload 5, 2)) ∧ (decode cX3_shortestOver 67 = .ok (.iload_n 3, 1))) ∧ ((decode cX3_shortestOver 68 = .ok (.lushr, 1)) ∧ (decode cX3_shortestOver 69 = .ok (.lconst 1, 1)))) ∧ (((decode cX3_shortestOver 70 = .ok (.land, 1)) ∧ (decode cX3_shortestOver 71 = .ok (.lconst 0, 1))) ∧ ((decode cX3_shortestOver 72 = .ok (.lcmp, 1)) ∧ (decode cX3_shortestOver 73 = .ok (.ifCond .eq 6, 3)))))) := by decide +kernel
theorem dX3_shortestOver_54 : decode cX3_shortestOver 54 = .ok (.bipush 7, 2) := dbc_44.1.1.1.1
theorem dX3_shortestOver_56 : decode cX3_shortestOver 56 = .ok (.lushr, 1) := dbc_44.1.1.1.2
theorem dX3_shortestOver_57 : decode cX3_shortestOver 57 = .ok (.lor, 1) := dbc_44.1.1.2.1
theorem dX3_shortestOver_58 : decode cX3_shortestOver 58 = .ok (.lload 8, 2) := dbc_44.1.1.2.2
theorem dX3_shortestOver_60 : decode cX3_shortestOver 60 = .ok (.lor, 1) := dbc_44.1.2.1.1
theorem dX3_shortestOver_61 : decode cX3_shortestOver 61 = .ok (.lload_n 0, 1) := dbc_44.1.2.1.2
theorem dX3_shortestOver_62 : decode cX3_shortestOver 62 = .ok (.land, 1) := dbc_44.1.2.2.1
theorem dX3_shortestOver_63 : decode cX3_shortestOver 63 = .ok (.lstore 5, 2) := dbc_44.1.2.2.2
theorem dX3_shortestOver_65 : decode cX3_shortestOver 65 = .ok (.lload 5, 2) := dbc_44.2.1.1.1
theorem dX3_shortestOver_67 : decode cX3_shortestOver 67 = .ok (.iload_n 3, 1) := dbc_44.2.1.1.2
theorem dX3_shortestOver_68 : decode cX3_shortestOver 68 = .ok (.lushr, 1) := dbc_44.2.1.2.1
theorem dX3_shortestOver_69 : decode cX3_shortestOver 69 = .ok (.lconst 1, 1) := dbc_44.2.1.2.2
theorem dX3_shortestOver_70 : decode cX3_shortestOver 70 = .ok (.land, 1) := dbc_44.2.2.1.1
theorem dX3_shortestOver_71 : decode cX3_shortestOver 71 = .ok (.lconst 0, 1) := dbc_44.2.2.1.2
theorem dX3_shortestOver_72 : decode cX3_shortestOver 72 = .ok (.lcmp, 1) := dbc_44.2.2.2.1
theorem dX3_shortestOver_73 : decode cX3_shortestOver 73 = .ok (.ifCond .eq 6, 3) := dbc_44.2.2.2.2
theorem dbc_45 : (((((decode cX3_shortestOver 76 = .ok (.iload 7, 2)) ∧ (decode cX3_shortestOver 78 = .ok (.ireturn, 1))) ∧ ((decode cX3_shortestOver 79 = .ok (.iinc 7 1, 3)) ∧ (decode cX3_shortestOver 82 = .ok (.goto (-64), 3)))) ∧ (((decode cX3_shortestOver 85 = .ok (.bipush (-9), 2)) ∧ (decode cX3_shortestOver 87 = .ok (.ireturn, 1))) ∧ ((decode cX4_init 0 = .ok (.aload_n 0, 1)) ∧ (decode cX4_init 1 = .ok (.invokespecial 3, 3))))) ∧ ((((decode cX4_init 4 = .ok (.aload_n 0, 1)) ∧ (decode cX4_init 5 = .ok (.bipush 8, 2))) ∧ ((decode cX4_init 7 = .ok (.newarray .int, 2)) ∧ (decode cX4_init 9 = .ok (.putfield 9, 3)))) ∧ (((decode cX4_init 12 = .ok (.aload_n 0, 1)) ∧ (decode cX4_init 13 = .ok (.bipush 8, 2))) ∧ ((decode cX4_init 15 = .ok (.newarray .int, 2)) ∧ (decode cX4_init 17 = .ok (.putfield 15, 3)))))) := by decide +kernel
theorem dX3_shortestOver_76 : decode cX3_shortestOver 76 = .ok (.iload 7, 2) := dbc_45.1.1.1.1
theorem dX3_shortestOver_78 : decode cX3_shortestOver 78 = .ok (.ireturn, 1) := dbc_45.1.1.1.2
theorem dX3_shortestOver_79 : decode cX3_shortestOver 79 = .ok (.iinc 7 1, 3) := dbc_45.1.1.2.1
theorem dX3_shortestOver_82 : decode cX3_shortestOver 82 = .ok (.goto (-64), 3) := dbc_45.1.1.2.2
theorem dX3_shortestOver_85 : decode cX3_shortestOver 85 = .ok (.bipush (-9), 2) := dbc_45.1.2.1.1
theorem dX3_shortestOver_87 : decode cX3_shortestOver 87 = .ok (.ireturn, 1) := dbc_45.1.2.1.2
theorem dX4_init_0 : decode cX4_init 0 = .ok (.aload_n 0, 1) := dbc_45.1.2.2.1
theorem dX4_init_1 : decode cX4_init 1 = .ok (.invokespecial 3, 3) := dbc_45.1.2.2.2
theorem dX4_init_4 : decode cX4_init 4 = .ok (.aload_n 0, 1) := dbc_45.2.1.1.1
theorem dX4_init_5 : decode cX4_init 5 = .ok (.bipush 8, 2) := dbc_45.2.1.1.2
theorem dX4_init_7 : decode cX4_init 7 = .ok (.newarray .int, 2) := dbc_45.2.1.2.1
theorem dX4_init_9 : decode cX4_init 9 = .ok (.putfield 9, 3) := dbc_45.2.1.2.2
theorem dX4_init_12 : decode cX4_init 12 = .ok (.aload_n 0, 1) := dbc_45.2.2.1.1
theorem dX4_init_13 : decode cX4_init 13 = .ok (.bipush 8, 2) := dbc_45.2.2.1.2
theorem dX4_init_15 : decode cX4_init 15 = .ok (.newarray .int, 2) := dbc_45.2.2.2.1
theorem dX4_init_17 : decode cX4_init 17 = .ok (.putfield 15, 3) := dbc_45.2.2.2.2
theorem dbc_46 : (((((decode cX4_init 20 = .ok (.aload_n 0, 1)) ∧ (decode cX4_init 21 = .ok (.bipush 8, 2))) ∧ ((decode cX4_init 23 = .ok (.newarray .int, 2)) ∧ (decode cX4_init 25 = .ok (.putfield 18, 3)))) ∧ (((decode cX4_init 28 = .ok (.aload_n 0, 1)) ∧ (decode cX4_init 29 = .ok (.bipush 6, 2))) ∧ ((decode cX4_init 31 = .ok (.newarray .int, 2)) ∧ (decode cX4_init 33 = .ok (.putfield 21, 3))))) ∧ ((((decode cX4_init 36 = .ok (.aload_n 0, 1)) ∧ (decode cX4_init 37 = .ok (.bipush 6, 2))) ∧ ((decode cX4_init 39 = .ok (.newarray .int, 2)) ∧ (decode cX4_init 41 = .ok (.putfield 24, 3)))) ∧ (((decode cX4_init 44 = .ok (.aload_n 0, 1)) ∧ (decode cX4_init 45 = .ok (.bipush 6, 2))) ∧ ((decode cX4_init 47 = .ok (.newarray .int, 2)) ∧ (decode cX4_init 49 = .ok (.putfield 27, 3)))))) := by decide +kernel
theorem dX4_init_20 : decode cX4_init 20 = .ok (.aload_n 0, 1) := dbc_46.1.1.1.1
theorem dX4_init_21 : decode cX4_init 21 = .ok (.bipush 8, 2) := dbc_46.1.1.1.2
theorem dX4_init_23 : decode cX4_init 23 = .ok (.newarray .int, 2) := dbc_46.1.1.2.1
theorem dX4_init_25 : decode cX4_init 25 = .ok (.putfield 18, 3) := dbc_46.1.1.2.2
theorem dX4_init_28 : decode cX4_init 28 = .ok (.aload_n 0, 1) := dbc_46.1.2.1.1
theorem dX4_init_29 : decode cX4_init 29 = .ok (.bipush 6, 2) := dbc_46.1.2.1.2
theorem dX4_init_31 : decode cX4_init 31 = .ok (.newarray .int, 2) := dbc_46.1.2.2.1
theorem dX4_init_33 : decode cX4_init 33 = .ok (.putfield 21, 3) := dbc_46.1.2.2.2
theorem dX4_init_36 : decode cX4_init 36 = .ok (.aload_n 0, 1) := dbc_46.2.1.1.1
theorem dX4_init_37 : decode cX4_init 37 = .ok (.bipush 6, 2) := dbc_46.2.1.1.2
theorem dX4_init_39 : decode cX4_init 39 = .ok (.newarray .int, 2) := dbc_46.2.1.2.1
theorem dX4_init_41 : decode cX4_init 41 = .ok (.putfield 24, 3) := dbc_46.2.1.2.2
theorem dX4_init_44 : decode cX4_init 44 = .ok (.aload_n 0, 1) := dbc_46.2.2.1.1
theorem dX4_init_45 : decode cX4_init 45 = .ok (.bipush 6, 2) := dbc_46.2.2.1.2
theorem dX4_init_47 : decode cX4_init 47 = .ok (.newarray .int, 2) := dbc_46.2.2.2.1
theorem dX4_init_49 : decode cX4_init 49 = .ok (.putfield 27, 3) := dbc_46.2.2.2.2
theorem dbc_47 : (((((decode cX4_init 52 = .ok (.aload_n 0, 1)) ∧ (decode cX4_init 53 = .ok (.bipush 48, 2))) ∧ ((decode cX4_init 55 = .ok (.newarray .int, 2)) ∧ (decode cX4_init 57 = .ok (.putfield 30, 3)))) ∧ (((decode cX4_init 60 = .ok (.aload_n 0, 1)) ∧ (decode cX4_init 61 = .ok (.getfield 30, 3))) ∧ ((decode cX4_init 64 = .ok (.iconst (-1), 1)) ∧ (decode cX4_init 65 = .ok (.invokestatic 33, 3))))) ∧ ((((decode cX4_init 68 = .ok (.return_, 1)) ∧ (decode cX4_become 0 = .ok (.aload_n 0, 1))) ∧ ((decode cX4_become 1 = .ok (.aload_n 1, 1)) ∧ (decode cX4_become 2 = .ok (.getfield 39, 3)))) ∧ (((decode cX4_become 5 = .ok (.putfield 39, 3)) ∧ (decode cX4_become 8 = .ok (.aload_n 1, 1))) ∧ ((decode cX4_become 9 = .ok (.getfield 9, 3)) ∧ (decode cX4_become 12 = .ok (.iconst 0, 1)))))) := by decide +kernel
theorem dX4_init_52 : decode cX4_init 52 = .ok (.aload_n 0, 1) := dbc_47.1.1.1.1
theorem dX4_init_53 : decode cX4_init 53 = .ok (.bipush 48, 2) := dbc_47.1.1.1.2
theorem dX4_init_55 : decode cX4_init 55 = .ok (.newarray .int, 2) := dbc_47.1.1.2.1
theorem dX4_init_57 : decode cX4_init 57 = .ok (.putfield 30, 3) := dbc_47.1.1.2.2
theorem dX4_init_60 : decode cX4_init 60 = .ok (.aload_n 0, 1) := dbc_47.1.2.1.1
theorem dX4_init_61 : decode cX4_init 61 = .ok (.getfield 30, 3) := dbc_47.1.2.1.2
theorem dX4_init_64 : decode cX4_init 64 = .ok (.iconst (-1), 1) := dbc_47.1.2.2.1
theorem dX4_init_65 : decode cX4_init 65 = .ok (.invokestatic 33, 3) := dbc_47.1.2.2.2
theorem dX4_init_68 : decode cX4_init 68 = .ok (.return_, 1) := dbc_47.2.1.1.1
theorem dX4_become_0 : decode cX4_become 0 = .ok (.aload_n 0, 1) := dbc_47.2.1.1.2
theorem dX4_become_1 : decode cX4_become 1 = .ok (.aload_n 1, 1) := dbc_47.2.1.2.1
theorem dX4_become_2 : decode cX4_become 2 = .ok (.getfield 39, 3) := dbc_47.2.1.2.2
theorem dX4_become_5 : decode cX4_become 5 = .ok (.putfield 39, 3) := dbc_47.2.2.1.1
theorem dX4_become_8 : decode cX4_become 8 = .ok (.aload_n 1, 1) := dbc_47.2.2.1.2
theorem dX4_become_9 : decode cX4_become 9 = .ok (.getfield 9, 3) := dbc_47.2.2.2.1
theorem dX4_become_12 : decode cX4_become 12 = .ok (.iconst 0, 1) := dbc_47.2.2.2.2
theorem dbc_48 : (((((decode cX4_become 13 = .ok (.aload_n 0, 1)) ∧ (decode cX4_become 14 = .ok (.getfield 9, 3))) ∧ ((decode cX4_become 17 = .ok (.iconst 0, 1)) ∧ (decode cX4_become 18 = .ok (.bipush 8, 2)))) ∧ (((decode cX4_become 20 = .ok (.invokestatic 43, 3)) ∧ (decode cX4_become 23 = .ok (.aload_n 1, 1))) ∧ ((decode cX4_become 24 = .ok (.getfield 15, 3)) ∧ (decode cX4_become 27 = .ok (.iconst 0, 1))))) ∧ ((((decode cX4_become 28 = .ok (.aload_n 0, 1)) ∧ (decode cX4_become 29 = .ok (.getfield 15, 3))) ∧ ((decode cX4_become 32 = .ok (.iconst 0, 1)) ∧ (decode cX4_become 33 = .ok (.bipush 8, 2)))) ∧ (((decode cX4_become 35 = .ok (.invokestatic 43, 3)) ∧ (decode cX4_become 38 = .ok (.aload_n 1, 1))) ∧ ((decode cX4_become 39 = .ok (.getfield 18, 3)) ∧ (decode cX4_become 42 = .ok (.iconst 0, 1)))))) := by decide +kernel
theorem dX4_become_13 : decode cX4_become 13 = .ok (.aload_n 0, 1) := dbc_48.1.1.1.1
theorem dX4_become_14 : decode cX4_become 14 = .ok (.getfield 9, 3) := dbc_48.1.1.1.2
theorem dX4_become_17 : decode cX4_become 17 = .ok (.iconst 0, 1) := dbc_48.1.1.2.1
theorem dX4_become_18 : decode cX4_become 18 = .ok (.bipush 8, 2) := dbc_48.1.1.2.2
theorem dX4_become_20 : decode cX4_become 20 = .ok (.invokestatic 43, 3) := dbc_48.1.2.1.1
theorem dX4_become_23 : decode cX4_become 23 = .ok (.aload_n 1, 1) := dbc_48.1.2.1.2
theorem dX4_become_24 : decode cX4_become 24 = .ok (.getfield 15, 3) := dbc_48.1.2.2.1
theorem dX4_become_27 : decode cX4_become 27 = .ok (.iconst 0, 1) := dbc_48.1.2.2.2
theorem dX4_become_28 : decode cX4_become 28 = .ok (.aload_n 0, 1) := dbc_48.2.1.1.1
theorem dX4_become_29 : decode cX4_become 29 = .ok (.getfield 15, 3) := dbc_48.2.1.1.2
theorem dX4_become_32 : decode cX4_become 32 = .ok (.iconst 0, 1) := dbc_48.2.1.2.1
theorem dX4_become_33 : decode cX4_become 33 = .ok (.bipush 8, 2) := dbc_48.2.1.2.2
theorem dX4_become_35 : decode cX4_become 35 = .ok (.invokestatic 43, 3) := dbc_48.2.2.1.1
theorem dX4_become_38 : decode cX4_become 38 = .ok (.aload_n 1, 1) := dbc_48.2.2.1.2
theorem dX4_become_39 : decode cX4_become 39 = .ok (.getfield 18, 3) := dbc_48.2.2.2.1
theorem dX4_become_42 : decode cX4_become 42 = .ok (.iconst 0, 1) := dbc_48.2.2.2.2
theorem dbc_49 : (((((decode cX4_become 43 = .ok (.aload_n 0, 1)) ∧ (decode cX4_become 44 = .ok (.getfield 18, 3))) ∧ ((decode cX4_become 47 = .ok (.iconst 0, 1)) ∧ (decode cX4_become 48 = .ok (.bipush 8, 2)))) ∧ (((decode cX4_become 50 = .ok (.invokestatic 43, 3)) ∧ (decode cX4_become 53 = .ok (.aload_n 0, 1))) ∧ ((decode cX4_become 54 = .ok (.aload_n 1, 1)) ∧ (decode cX4_become 55 = .ok (.getfield 49, 3))))) ∧ ((((decode cX4_become 58 = .ok (.putfield 49, 3)) ∧ (decode cX4_become 61 = .ok (.aload_n 0, 1))) ∧ ((decode cX4_become 62 = .ok (.aload_n 1, 1)) ∧ (decode cX4_become 63 = .ok (.getfield 52, 3)))) ∧ (((decode cX4_become 66 = .ok (.putfield 52, 3)) ∧ (decode cX4_become 69 = .ok (.aload_n 1, 1))) ∧ ((decode cX4_become 70 = .ok (.getfield 21, 3)) ∧ (decode cX4_become 73 = .ok (.iconst 0, 1)))))) := by decide +kernel
theorem dX4_become_43 : decode cX4_become 43 = .ok (.aload_n 0, 1) := dbc_49.1.1.1.1
theorem dX4_become_44 : decode cX4_become 44 = .ok (.getfield 18, 3) := dbc_49.1.1.1.2
theorem dX4_become_47 : decode cX4_become 47 = .ok (.iconst 0, 1) := dbc_49.1.1.2.1
theorem dX4_become_48 : decode cX4_become 48 = .ok (.bipush 8, 2) := dbc_49.1.1.2.2
theorem dX4_become_50 : decode cX4_become 50 = .ok (.invokestatic 43, 3) := dbc_49.1.2.1.1
theorem dX4_become_53 : decode cX4_become 53 = .ok (.aload_n 0, 1) := dbc_49.1.2.1.2
theorem dX4_become_54 : decode cX4_become 54 = .ok (.aload_n 1, 1) := dbc_49.1.2.2.1
theorem dX4_become_55 : decode cX4_become 55 = .ok (.getfield 49, 3) := dbc_49.1.2.2.2
theorem dX4_become_58 : decode cX4_become 58 = .ok (.putfield 49, 3) := dbc_49.2.1.1.1
theorem dX4_become_61 : decode cX4_become 61 = .ok (.aload_n 0, 1) := dbc_49.2.1.1.2
theorem dX4_become_62 : decode cX4_become 62 = .ok (.aload_n 1, 1) := dbc_49.2.1.2.1
theorem dX4_become_63 : decode cX4_become 63 = .ok (.getfield 52, 3) := dbc_49.2.1.2.2
theorem dX4_become_66 : decode cX4_become 66 = .ok (.putfield 52, 3) := dbc_49.2.2.1.1
theorem dX4_become_69 : decode cX4_become 69 = .ok (.aload_n 1, 1) := dbc_49.2.2.1.2
theorem dX4_become_70 : decode cX4_become 70 = .ok (.getfield 21, 3) := dbc_49.2.2.2.1
theorem dX4_become_73 : decode cX4_become 73 = .ok (.iconst 0, 1) := dbc_49.2.2.2.2
theorem dbc_50 : (((((decode cX4_become 74 = .ok (.aload_n 0, 1)) ∧ (decode cX4_become 75 = .ok (.getfield 21, 3))) ∧ ((decode cX4_become 78 = .ok (.iconst 0, 1)) ∧ (decode cX4_become 79 = .ok (.bipush 6, 2)))) ∧ (((decode cX4_become 81 = .ok (.invokestatic 43, 3)) ∧ (decode cX4_become 84 = .ok (.aload_n 1, 1))) ∧ ((decode cX4_become 85 = .ok (.getfield 24, 3)) ∧ (decode cX4_become 88 = .ok (.iconst 0, 1))))) ∧ ((((decode cX4_become 89 = .ok (.aload_n 0, 1)) ∧ (decode cX4_become 90 = .ok (.getfield 24, 3))) ∧ ((decode cX4_become 93 = .ok (.iconst 0, 1)) ∧ (decode cX4_become 94 = .ok (.bipush 6, 2)))) ∧ (((decode cX4_become 96 = .ok (.invokestatic 43, 3)) ∧ (decode cX4_become 99 = .ok (.aload_n 1, 1))) ∧ ((decode cX4_become 100 = .ok (.getfield 27, 3)) ∧ (decode cX4_become 103 = .ok (.iconst 0, 1)))))) := by decide +kernel
theorem dX4_become_74 : decode cX4_become 74 = .ok (.aload_n 0, 1) := dbc_50.1.1.1.1
theorem dX4_become_75 : decode cX4_become 75 = .ok (.getfield 21, 3) := dbc_50.1.1.1.2
theorem dX4_become_78 : decode cX4_become 78 = .ok (.iconst 0, 1) := dbc_50.1.1.2.1
theorem dX4_become_79 : decode cX4_become 79 = .ok (.bipush 6, 2) := dbc_50.1.1.2.2
theorem dX4_become_81 : decode cX4_become 81 = .ok (.invokestatic 43, 3) := dbc_50.1.2.1.1
theorem dX4_become_84 : decode cX4_become 84 = .ok (.aload_n 1, 1) := dbc_50.1.2.1.2
theorem dX4_become_85 : decode cX4_become 85 = .ok (.getfield 24, 3) := dbc_50.1.2.2.1
theorem dX4_become_88 : decode cX4_become 88 = .ok (.iconst 0, 1) := dbc_50.1.2.2.2
theorem dX4_become_89 : decode cX4_become 89 = .ok (.aload_n 0, 1) := dbc_50.2.1.1.1
theorem dX4_become_90 : decode cX4_become 90 = .ok (.getfield 24, 3) := dbc_50.2.1.1.2
theorem dX4_become_93 : decode cX4_become 93 = .ok (.iconst 0, 1) := dbc_50.2.1.2.1
theorem dX4_become_94 : decode cX4_become 94 = .ok (.bipush 6, 2) := dbc_50.2.1.2.2
theorem dX4_become_96 : decode cX4_become 96 = .ok (.invokestatic 43, 3) := dbc_50.2.2.1.1
theorem dX4_become_99 : decode cX4_become 99 = .ok (.aload_n 1, 1) := dbc_50.2.2.1.2
theorem dX4_become_100 : decode cX4_become 100 = .ok (.getfield 27, 3) := dbc_50.2.2.2.1
theorem dX4_become_103 : decode cX4_become 103 = .ok (.iconst 0, 1) := dbc_50.2.2.2.2
theorem dbc_51 : (((((decode cX4_become 104 = .ok (.aload_n 0, 1)) ∧ (decode cX4_become 105 = .ok (.getfield 27, 3))) ∧ ((decode cX4_become 108 = .ok (.iconst 0, 1)) ∧ (decode cX4_become 109 = .ok (.bipush 6, 2)))) ∧ (((decode cX4_become 111 = .ok (.invokestatic 43, 3)) ∧ (decode cX4_become 114 = .ok (.aload_n 1, 1))) ∧ ((decode cX4_become 115 = .ok (.getfield 30, 3)) ∧ (decode cX4_become 118 = .ok (.iconst 0, 1))))) ∧ ((((decode cX4_become 119 = .ok (.aload_n 0, 1)) ∧ (decode cX4_become 120 = .ok (.getfield 30, 3))) ∧ ((decode cX4_become 123 = .ok (.iconst 0, 1)) ∧ (decode cX4_become 124 = .ok (.bipush 48, 2)))) ∧ (((decode cX4_become 126 = .ok (.invokestatic 43, 3)) ∧ (decode cX4_become 129 = .ok (.aload_n 0, 1))) ∧ ((decode cX4_become 130 = .ok (.aload_n 1, 1)) ∧ (decode cX4_become 131 = .ok (.getfield 55, 3)))))) := by decide +kernel
theorem dX4_become_104 : decode cX4_become 104 = .ok (.aload_n 0, 1) := dbc_51.1.1.1.1
theorem dX4_become_105 : decode cX4_become 105 = .ok (.getfield 27, 3) := dbc_51.1.1.1.2
theorem dX4_become_108 : decode cX4_become 108 = .ok (.iconst 0, 1) := dbc_51.1.1.2.1
theorem dX4_become_109 : decode cX4_become 109 = .ok (.bipush 6, 2) := dbc_51.1.1.2.2
theorem dX4_become_111 : decode cX4_become 111 = .ok (.invokestatic 43, 3) := dbc_51.1.2.1.1
theorem dX4_become_114 : decode cX4_become 114 = .ok (.aload_n 1, 1) := dbc_51.1.2.1.2
theorem dX4_become_115 : decode cX4_become 115 = .ok (.getfield 30, 3) := dbc_51.1.2.2.1
theorem dX4_become_118 : decode cX4_become 118 = .ok (.iconst 0, 1) := dbc_51.1.2.2.2
theorem dX4_become_119 : decode cX4_become 119 = .ok (.aload_n 0, 1) := dbc_51.2.1.1.1
theorem dX4_become_120 : decode cX4_become 120 = .ok (.getfield 30, 3) := dbc_51.2.1.1.2
theorem dX4_become_123 : decode cX4_become 123 = .ok (.iconst 0, 1) := dbc_51.2.1.2.1
theorem dX4_become_124 : decode cX4_become 124 = .ok (.bipush 48, 2) := dbc_51.2.1.2.2
theorem dX4_become_126 : decode cX4_become 126 = .ok (.invokestatic 43, 3) := dbc_51.2.2.1.1
theorem dX4_become_129 : decode cX4_become 129 = .ok (.aload_n 0, 1) := dbc_51.2.2.1.2
theorem dX4_become_130 : decode cX4_become 130 = .ok (.aload_n 1, 1) := dbc_51.2.2.2.1
theorem dX4_become_131 : decode cX4_become 131 = .ok (.getfield 55, 3) := dbc_51.2.2.2.2
theorem dbc_52 : (((((decode cX4_become 134 = .ok (.putfield 55, 3)) ∧ (decode cX4_become 137 = .ok (.return_, 1))) ∧ ((decode cX4_hasHouse 0 = .ok (.iload_n 1, 1)) ∧ (decode cX4_hasHouse 1 = .ok (.ifCond .lt 15, 3)))) ∧ (((decode cX4_hasHouse 4 = .ok (.iload_n 1, 1)) ∧ (decode cX4_hasHouse 5 = .ok (.aload_n 0, 1))) ∧ ((decode cX4_hasHouse 6 = .ok (.getfield 39, 3)) ∧ (decode cX4_hasHouse 9 = .ok (.if_icmp .ge 7, 3))))) ∧ ((((decode cX4_hasHouse 12 = .ok (.iconst 1, 1)) ∧ (decode cX4_hasHouse 13 = .ok (.goto 4, 3))) ∧ ((decode cX4_hasHouse 16 = .ok (.iconst 0, 1)) ∧ (decode cX4_hasHouse 17 = .ok (.ireturn, 1)))) ∧ (((decode cX4_hasWalker 0 = .ok (.iload_n 1, 1)) ∧ (decode cX4_hasWalker 1 = .ok (.ifCond .lt 15, 3))) ∧ ((decode cX4_hasWalker 4 = .ok (.iload_n 1, 1)) ∧ (decode cX4_hasWalker 5 = .ok (.aload_n 0, 1)))))) := by decide +kernel
theorem dX4_become_134 : decode cX4_become 134 = .ok (.putfield 55, 3) := dbc_52.1.1.1.1
theorem dX4_become_137 : decode cX4_become 137 = .ok (.return_, 1) := dbc_52.1.1.1.2
theorem dX4_hasHouse_0 : decode cX4_hasHouse 0 = .ok (.iload_n 1, 1) := dbc_52.1.1.2.1
theorem dX4_hasHouse_1 : decode cX4_hasHouse 1 = .ok (.ifCond .lt 15, 3) := dbc_52.1.1.2.2
theorem dX4_hasHouse_4 : decode cX4_hasHouse 4 = .ok (.iload_n 1, 1) := dbc_52.1.2.1.1
theorem dX4_hasHouse_5 : decode cX4_hasHouse 5 = .ok (.aload_n 0, 1) := dbc_52.1.2.1.2
theorem dX4_hasHouse_6 : decode cX4_hasHouse 6 = .ok (.getfield 39, 3) := dbc_52.1.2.2.1
theorem dX4_hasHouse_9 : decode cX4_hasHouse 9 = .ok (.if_icmp .ge 7, 3) := dbc_52.1.2.2.2
theorem dX4_hasHouse_12 : decode cX4_hasHouse 12 = .ok (.iconst 1, 1) := dbc_52.2.1.1.1
theorem dX4_hasHouse_13 : decode cX4_hasHouse 13 = .ok (.goto 4, 3) := dbc_52.2.1.1.2
theorem dX4_hasHouse_16 : decode cX4_hasHouse 16 = .ok (.iconst 0, 1) := dbc_52.2.1.2.1
theorem dX4_hasHouse_17 : decode cX4_hasHouse 17 = .ok (.ireturn, 1) := dbc_52.2.1.2.2
theorem dX4_hasWalker_0 : decode cX4_hasWalker 0 = .ok (.iload_n 1, 1) := dbc_52.2.2.1.1
theorem dX4_hasWalker_1 : decode cX4_hasWalker 1 = .ok (.ifCond .lt 15, 3) := dbc_52.2.2.1.2
theorem dX4_hasWalker_4 : decode cX4_hasWalker 4 = .ok (.iload_n 1, 1) := dbc_52.2.2.2.1
theorem dX4_hasWalker_5 : decode cX4_hasWalker 5 = .ok (.aload_n 0, 1) := dbc_52.2.2.2.2
theorem dbc_53 : (((((decode cX4_hasWalker 6 = .ok (.getfield 52, 3)) ∧ (decode cX4_hasWalker 9 = .ok (.if_icmp .ge 7, 3))) ∧ ((decode cX4_hasWalker 12 = .ok (.iconst 1, 1)) ∧ (decode cX4_hasWalker 13 = .ok (.goto 4, 3)))) ∧ (((decode cX4_hasWalker 16 = .ok (.iconst 0, 1)) ∧ (decode cX4_hasWalker 17 = .ok (.ireturn, 1))) ∧ ((decode cX4_isLit 0 = .ok (.aload_n 0, 1)) ∧ (decode cX4_isLit 1 = .ok (.getfield 49, 3))))) ∧ ((((decode cX4_isLit 4 = .ok (.iload_n 1, 1)) ∧ (decode cX4_isLit 5 = .ok (.ishr, 1))) ∧ ((decode cX4_isLit 6 = .ok (.iconst 1, 1)) ∧ (decode cX4_isLit 7 = .ok (.iand, 1)))) ∧ (((decode cX4_isLit 8 = .ok (.ifCond .eq 7, 3)) ∧ (decode cX4_isLit 11 = .ok (.iconst 1, 1))) ∧ ((decode cX4_isLit 12 = .ok (.goto 4, 3)) ∧ (decode cX4_isLit 15 = .ok (.iconst 0, 1)))))) := by decide +kernel
theorem dX4_hasWalker_6 : decode cX4_hasWalker 6 = .ok (.getfield 52, 3) := dbc_53.1.1.1.1
theorem dX4_hasWalker_9 : decode cX4_hasWalker 9 = .ok (.if_icmp .ge 7, 3) := dbc_53.1.1.1.2
theorem dX4_hasWalker_12 : decode cX4_hasWalker 12 = .ok (.iconst 1, 1) := dbc_53.1.1.2.1
theorem dX4_hasWalker_13 : decode cX4_hasWalker 13 = .ok (.goto 4, 3) := dbc_53.1.1.2.2
theorem dX4_hasWalker_16 : decode cX4_hasWalker 16 = .ok (.iconst 0, 1) := dbc_53.1.2.1.1
theorem dX4_hasWalker_17 : decode cX4_hasWalker 17 = .ok (.ireturn, 1) := dbc_53.1.2.1.2
theorem dX4_isLit_0 : decode cX4_isLit 0 = .ok (.aload_n 0, 1) := dbc_53.1.2.2.1
theorem dX4_isLit_1 : decode cX4_isLit 1 = .ok (.getfield 49, 3) := dbc_53.1.2.2.2
theorem dX4_isLit_4 : decode cX4_isLit 4 = .ok (.iload_n 1, 1) := dbc_53.2.1.1.1
theorem dX4_isLit_5 : decode cX4_isLit 5 = .ok (.ishr, 1) := dbc_53.2.1.1.2
theorem dX4_isLit_6 : decode cX4_isLit 6 = .ok (.iconst 1, 1) := dbc_53.2.1.2.1
theorem dX4_isLit_7 : decode cX4_isLit 7 = .ok (.iand, 1) := dbc_53.2.1.2.2
theorem dX4_isLit_8 : decode cX4_isLit 8 = .ok (.ifCond .eq 7, 3) := dbc_53.2.2.1.1
theorem dX4_isLit_11 : decode cX4_isLit 11 = .ok (.iconst 1, 1) := dbc_53.2.2.1.2
theorem dX4_isLit_12 : decode cX4_isLit 12 = .ok (.goto 4, 3) := dbc_53.2.2.2.1
theorem dX4_isLit_15 : decode cX4_isLit 15 = .ok (.iconst 0, 1) := dbc_53.2.2.2.2
theorem dbc_54 : (((((decode cX4_isLit 16 = .ok (.ireturn, 1)) ∧ (decode cX4_addHouse 0 = .ok (.iload_n 1, 1))) ∧ ((decode cX4_addHouse 1 = .ok (.ifCond .lt 19, 3)) ∧ (decode cX4_addHouse 4 = .ok (.iload_n 1, 1)))) ∧ (((decode cX4_addHouse 5 = .ok (.bipush 6, 2)) ∧ (decode cX4_addHouse 7 = .ok (.if_icmp .ge 13, 3))) ∧ ((decode cX4_addHouse 10 = .ok (.iload_n 2, 1)) ∧ (decode cX4_addHouse 11 = .ok (.ifCond .lt 9, 3))))) ∧ ((((decode cX4_addHouse 14 = .ok (.iload_n 2, 1)) ∧ (decode cX4_addHouse 15 = .ok (.bipush 10, 2))) ∧ ((decode cX4_addHouse 17 = .ok (.if_icmp .lt 5, 3)) ∧ (decode cX4_addHouse 20 = .ok (.iconst 0, 1)))) ∧ (((decode cX4_addHouse 21 = .ok (.ireturn, 1)) ∧ (decode cX4_addHouse 22 = .ok (.iload_n 3, 1))) ∧ ((decode cX4_addHouse 23 = .ok (.invokestatic 58, 3)) ∧ (decode cX4_addHouse 26 = .ok (.ifCond .eq 12, 3)))))) := by decide +kernel
theorem dX4_isLit_16 : decode cX4_isLit 16 = .ok (.ireturn, 1) := dbc_54.1.1.1.1
theorem dX4_addHouse_0 : decode cX4_addHouse 0 = .ok (.iload_n 1, 1) := dbc_54.1.1.1.2
theorem dX4_addHouse_1 : decode cX4_addHouse 1 = .ok (.ifCond .lt 19, 3) := dbc_54.1.1.2.1
theorem dX4_addHouse_4 : decode cX4_addHouse 4 = .ok (.iload_n 1, 1) := dbc_54.1.1.2.2
theorem dX4_addHouse_5 : decode cX4_addHouse 5 = .ok (.bipush 6, 2) := dbc_54.1.2.1.1
theorem dX4_addHouse_7 : decode cX4_addHouse 7 = .ok (.if_icmp .ge 13, 3) := dbc_54.1.2.1.2
theorem dX4_addHouse_10 : decode cX4_addHouse 10 = .ok (.iload_n 2, 1) := dbc_54.1.2.2.1
theorem dX4_addHouse_11 : decode cX4_addHouse 11 = .ok (.ifCond .lt 9, 3) := dbc_54.1.2.2.2
theorem dX4_addHouse_14 : decode cX4_addHouse 14 = .ok (.iload_n 2, 1) := dbc_54.2.1.1.1
theorem dX4_addHouse_15 : decode cX4_addHouse 15 = .ok (.bipush 10, 2) := dbc_54.2.1.1.2
theorem dX4_addHouse_17 : decode cX4_addHouse 17 = .ok (.if_icmp .lt 5, 3) := dbc_54.2.1.2.1
theorem dX4_addHouse_20 : decode cX4_addHouse 20 = .ok (.iconst 0, 1) := dbc_54.2.1.2.2
theorem dX4_addHouse_21 : decode cX4_addHouse 21 = .ok (.ireturn, 1) := dbc_54.2.2.1.1
theorem dX4_addHouse_22 : decode cX4_addHouse 22 = .ok (.iload_n 3, 1) := dbc_54.2.2.1.2
theorem dX4_addHouse_23 : decode cX4_addHouse 23 = .ok (.invokestatic 58, 3) := dbc_54.2.2.2.1
theorem dX4_addHouse_26 : decode cX4_addHouse 26 = .ok (.ifCond .eq 12, 3) := dbc_54.2.2.2.2
theorem dbc_55 : (((((decode cX4_addHouse 29 = .ok (.aload_n 0, 1)) ∧ (decode cX4_addHouse 30 = .ok (.getfield 39, 3))) ∧ ((decode cX4_addHouse 33 = .ok (.bipush 7, 2)) ∧ (decode cX4_addHouse 35 = .ok (.if_icmp .lt 5, 3)))) ∧ (((decode cX4_addHouse 38 = .ok (.iconst 0, 1)) ∧ (decode cX4_addHouse 39 = .ok (.ireturn, 1))) ∧ ((decode cX4_addHouse 40 = .ok (.aload_n 0, 1)) ∧ (decode cX4_addHouse 41 = .ok (.getfield 9, 3))))) ∧ ((((decode cX4_addHouse 44 = .ok (.aload_n 0, 1)) ∧ (decode cX4_addHouse 45 = .ok (.getfield 39, 3))) ∧ ((decode cX4_addHouse 48 = .ok (.iload_n 1, 1)) ∧ (decode cX4_addHouse 49 = .ok (.iastore, 1)))) ∧ (((decode cX4_addHouse 50 = .ok (.aload_n 0, 1)) ∧ (decode cX4_addHouse 51 = .ok (.getfield 15, 3))) ∧ ((decode cX4_addHouse 54 = .ok (.aload_n 0, 1)) ∧ (decode cX4_addHouse 55 = .ok (.getfield 39, 3)))))) := by decide +kernel
theorem dX4_addHouse_29 : decode cX4_addHouse 29 = .ok (.aload_n 0, 1) := dbc_55.1.1.1.1
theorem dX4_addHouse_30 : decode cX4_addHouse 30 = .ok (.getfield 39, 3) := dbc_55.1.1.1.2
theorem dX4_addHouse_33 : decode cX4_addHouse 33 = .ok (.bipush 7, 2) := dbc_55.1.1.2.1
theorem dX4_addHouse_35 : decode cX4_addHouse 35 = .ok (.if_icmp .lt 5, 3) := dbc_55.1.1.2.2
theorem dX4_addHouse_38 : decode cX4_addHouse 38 = .ok (.iconst 0, 1) := dbc_55.1.2.1.1
theorem dX4_addHouse_39 : decode cX4_addHouse 39 = .ok (.ireturn, 1) := dbc_55.1.2.1.2
theorem dX4_addHouse_40 : decode cX4_addHouse 40 = .ok (.aload_n 0, 1) := dbc_55.1.2.2.1
theorem dX4_addHouse_41 : decode cX4_addHouse 41 = .ok (.getfield 9, 3) := dbc_55.1.2.2.2
theorem dX4_addHouse_44 : decode cX4_addHouse 44 = .ok (.aload_n 0, 1) := dbc_55.2.1.1.1
theorem dX4_addHouse_45 : decode cX4_addHouse 45 = .ok (.getfield 39, 3) := dbc_55.2.1.1.2
theorem dX4_addHouse_48 : decode cX4_addHouse 48 = .ok (.iload_n 1, 1) := dbc_55.2.1.2.1
theorem dX4_addHouse_49 : decode cX4_addHouse 49 = .ok (.iastore, 1) := dbc_55.2.1.2.2
theorem dX4_addHouse_50 : decode cX4_addHouse 50 = .ok (.aload_n 0, 1) := dbc_55.2.2.1.1
theorem dX4_addHouse_51 : decode cX4_addHouse 51 = .ok (.getfield 15, 3) := dbc_55.2.2.1.2
theorem dX4_addHouse_54 : decode cX4_addHouse 54 = .ok (.aload_n 0, 1) := dbc_55.2.2.2.1
theorem dX4_addHouse_55 : decode cX4_addHouse 55 = .ok (.getfield 39, 3) := dbc_55.2.2.2.2
theorem dbc_56 : (((((decode cX4_addHouse 58 = .ok (.iload_n 2, 1)) ∧ (decode cX4_addHouse 59 = .ok (.iastore, 1))) ∧ ((decode cX4_addHouse 60 = .ok (.aload_n 0, 1)) ∧ (decode cX4_addHouse 61 = .ok (.getfield 18, 3)))) ∧ (((decode cX4_addHouse 64 = .ok (.aload_n 0, 1)) ∧ (decode cX4_addHouse 65 = .ok (.getfield 39, 3))) ∧ ((decode cX4_addHouse 68 = .ok (.iload_n 3, 1)) ∧ (decode cX4_addHouse 69 = .ok (.iastore, 1))))) ∧ ((((decode cX4_addHouse 70 = .ok (.aload_n 0, 1)) ∧ (decode cX4_addHouse 71 = .ok (.dup, 1))) ∧ ((decode cX4_addHouse 72 = .ok (.getfield 49, 3)) ∧ (decode cX4_addHouse 75 = .ok (.iconst 1, 1)))) ∧ (((decode cX4_addHouse 76 = .ok (.aload_n 0, 1)) ∧ (decode cX4_addHouse 77 = .ok (.getfield 39, 3))) ∧ ((decode cX4_addHouse 80 = .ok (.ishl, 1)) ∧ (decode cX4_addHouse 81 = .ok (.ior, 1)))))) := by decide +kernel
theorem dX4_addHouse_58 : decode cX4_addHouse 58 = .ok (.iload_n 2, 1) := dbc_56.1.1.1.1
theorem dX4_addHouse_59 : decode cX4_addHouse 59 = .ok (.iastore, 1) := dbc_56.1.1.1.2
theorem dX4_addHouse_60 : decode cX4_addHouse 60 = .ok (.aload_n 0, 1) := dbc_56.1.1.2.1
theorem dX4_addHouse_61 : decode cX4_addHouse 61 = .ok (.getfield 18, 3) := dbc_56.1.1.2.2
theorem dX4_addHouse_64 : decode cX4_addHouse 64 = .ok (.aload_n 0, 1) := dbc_56.1.2.1.1
theorem dX4_addHouse_65 : decode cX4_addHouse 65 = .ok (.getfield 39, 3) := dbc_56.1.2.1.2
theorem dX4_addHouse_68 : decode cX4_addHouse 68 = .ok (.iload_n 3, 1) := dbc_56.1.2.2.1
theorem dX4_addHouse_69 : decode cX4_addHouse 69 = .ok (.iastore, 1) := dbc_56.1.2.2.2
theorem dX4_addHouse_70 : decode cX4_addHouse 70 = .ok (.aload_n 0, 1) := dbc_56.2.1.1.1
theorem dX4_addHouse_71 : decode cX4_addHouse 71 = .ok (.dup, 1) := dbc_56.2.1.1.2
theorem dX4_addHouse_72 : decode cX4_addHouse 72 = .ok (.getfield 49, 3) := dbc_56.2.1.2.1
theorem dX4_addHouse_75 : decode cX4_addHouse 75 = .ok (.iconst 1, 1) := dbc_56.2.1.2.2
theorem dX4_addHouse_76 : decode cX4_addHouse 76 = .ok (.aload_n 0, 1) := dbc_56.2.2.1.1
theorem dX4_addHouse_77 : decode cX4_addHouse 77 = .ok (.getfield 39, 3) := dbc_56.2.2.1.2
theorem dX4_addHouse_80 : decode cX4_addHouse 80 = .ok (.ishl, 1) := dbc_56.2.2.2.1
theorem dX4_addHouse_81 : decode cX4_addHouse 81 = .ok (.ior, 1) := dbc_56.2.2.2.2
theorem dbc_57 : (((((decode cX4_addHouse 82 = .ok (.putfield 49, 3)) ∧ (decode cX4_addHouse 85 = .ok (.aload_n 0, 1))) ∧ ((decode cX4_addHouse 86 = .ok (.dup, 1)) ∧ (decode cX4_addHouse 87 = .ok (.getfield 39, 3)))) ∧ (((decode cX4_addHouse 90 = .ok (.iconst 1, 1)) ∧ (decode cX4_addHouse 91 = .ok (.iadd, 1))) ∧ ((decode cX4_addHouse 92 = .ok (.putfield 39, 3)) ∧ (decode cX4_addHouse 95 = .ok (.iconst 1, 1))))) ∧ ((((decode cX4_addHouse 96 = .ok (.ireturn, 1)) ∧ (decode cX4_setCandle 0 = .ok (.aload_n 0, 1))) ∧ ((decode cX4_setCandle 1 = .ok (.getfield 9, 3)) ∧ (decode cX4_setCandle 4 = .ok (.aload_n 0, 1)))) ∧ (((decode cX4_setCandle 5 = .ok (.getfield 39, 3)) ∧ (decode cX4_setCandle 8 = .ok (.iconst 0, 1))) ∧ ((decode cX4_setCandle 9 = .ok (.iastore, 1)) ∧ (decode cX4_setCandle 10 = .ok (.aload_n 0, 1)))))) := by decide +kernel
theorem dX4_addHouse_82 : decode cX4_addHouse 82 = .ok (.putfield 49, 3) := dbc_57.1.1.1.1
theorem dX4_addHouse_85 : decode cX4_addHouse 85 = .ok (.aload_n 0, 1) := dbc_57.1.1.1.2
theorem dX4_addHouse_86 : decode cX4_addHouse 86 = .ok (.dup, 1) := dbc_57.1.1.2.1
theorem dX4_addHouse_87 : decode cX4_addHouse 87 = .ok (.getfield 39, 3) := dbc_57.1.1.2.2
theorem dX4_addHouse_90 : decode cX4_addHouse 90 = .ok (.iconst 1, 1) := dbc_57.1.2.1.1
theorem dX4_addHouse_91 : decode cX4_addHouse 91 = .ok (.iadd, 1) := dbc_57.1.2.1.2
theorem dX4_addHouse_92 : decode cX4_addHouse 92 = .ok (.putfield 39, 3) := dbc_57.1.2.2.1
theorem dX4_addHouse_95 : decode cX4_addHouse 95 = .ok (.iconst 1, 1) := dbc_57.1.2.2.2
theorem dX4_addHouse_96 : decode cX4_addHouse 96 = .ok (.ireturn, 1) := dbc_57.2.1.1.1
theorem dX4_setCandle_0 : decode cX4_setCandle 0 = .ok (.aload_n 0, 1) := dbc_57.2.1.1.2
theorem dX4_setCandle_1 : decode cX4_setCandle 1 = .ok (.getfield 9, 3) := dbc_57.2.1.2.1
theorem dX4_setCandle_4 : decode cX4_setCandle 4 = .ok (.aload_n 0, 1) := dbc_57.2.1.2.2
theorem dX4_setCandle_5 : decode cX4_setCandle 5 = .ok (.getfield 39, 3) := dbc_57.2.2.1.1
theorem dX4_setCandle_8 : decode cX4_setCandle 8 = .ok (.iconst 0, 1) := dbc_57.2.2.1.2
theorem dX4_setCandle_9 : decode cX4_setCandle 9 = .ok (.iastore, 1) := dbc_57.2.2.2.1
theorem dX4_setCandle_10 : decode cX4_setCandle 10 = .ok (.aload_n 0, 1) := dbc_57.2.2.2.2
theorem dbc_58 : (((((decode cX4_setCandle 11 = .ok (.getfield 15, 3)) ∧ (decode cX4_setCandle 14 = .ok (.aload_n 0, 1))) ∧ ((decode cX4_setCandle 15 = .ok (.getfield 39, 3)) ∧ (decode cX4_setCandle 18 = .ok (.iconst 0, 1)))) ∧ (((decode cX4_setCandle 19 = .ok (.iastore, 1)) ∧ (decode cX4_setCandle 20 = .ok (.aload_n 0, 1))) ∧ ((decode cX4_setCandle 21 = .ok (.dup, 1)) ∧ (decode cX4_setCandle 22 = .ok (.getfield 49, 3))))) ∧ ((((decode cX4_setCandle 25 = .ok (.iconst 1, 1)) ∧ (decode cX4_setCandle 26 = .ok (.aload_n 0, 1))) ∧ ((decode cX4_setCandle 27 = .ok (.getfield 39, 3)) ∧ (decode cX4_setCandle 30 = .ok (.ishl, 1)))) ∧ (((decode cX4_setCandle 31 = .ok (.ior, 1)) ∧ (decode cX4_setCandle 32 = .ok (.putfield 49, 3))) ∧ ((decode cX4_setCandle 35 = .ok (.aload_n 0, 1)) ∧ (decode cX4_setCandle 36 = .ok (.getfield 39, 3)))))) := by decide +kernel
theorem dX4_setCandle_11 : decode cX4_setCandle 11 = .ok (.getfield 15, 3) := dbc_58.1.1.1.1
theorem dX4_setCandle_14 : decode cX4_setCandle 14 = .ok (.aload_n 0, 1) := dbc_58.1.1.1.2
theorem dX4_setCandle_15 : decode cX4_setCandle 15 = .ok (.getfield 39, 3) := dbc_58.1.1.2.1
theorem dX4_setCandle_18 : decode cX4_setCandle 18 = .ok (.iconst 0, 1) := dbc_58.1.1.2.2
theorem dX4_setCandle_19 : decode cX4_setCandle 19 = .ok (.iastore, 1) := dbc_58.1.2.1.1
theorem dX4_setCandle_20 : decode cX4_setCandle 20 = .ok (.aload_n 0, 1) := dbc_58.1.2.1.2
theorem dX4_setCandle_21 : decode cX4_setCandle 21 = .ok (.dup, 1) := dbc_58.1.2.2.1
theorem dX4_setCandle_22 : decode cX4_setCandle 22 = .ok (.getfield 49, 3) := dbc_58.1.2.2.2
theorem dX4_setCandle_25 : decode cX4_setCandle 25 = .ok (.iconst 1, 1) := dbc_58.2.1.1.1
theorem dX4_setCandle_26 : decode cX4_setCandle 26 = .ok (.aload_n 0, 1) := dbc_58.2.1.1.2
theorem dX4_setCandle_27 : decode cX4_setCandle 27 = .ok (.getfield 39, 3) := dbc_58.2.1.2.1
theorem dX4_setCandle_30 : decode cX4_setCandle 30 = .ok (.ishl, 1) := dbc_58.2.1.2.2
theorem dX4_setCandle_31 : decode cX4_setCandle 31 = .ok (.ior, 1) := dbc_58.2.2.1.1
theorem dX4_setCandle_32 : decode cX4_setCandle 32 = .ok (.putfield 49, 3) := dbc_58.2.2.1.2
theorem dX4_setCandle_35 : decode cX4_setCandle 35 = .ok (.aload_n 0, 1) := dbc_58.2.2.2.1
theorem dX4_setCandle_36 : decode cX4_setCandle 36 = .ok (.getfield 39, 3) := dbc_58.2.2.2.2
theorem dbc_59 : (((((decode cX4_setCandle 39 = .ok (.ireturn, 1)) ∧ (decode cX4_addWalker 0 = .ok (.iload_n 1, 1))) ∧ ((decode cX4_addWalker 1 = .ok (.invokestatic 58, 3)) ∧ (decode cX4_addWalker 4 = .ok (.ifCond .eq 10, 3)))) ∧ (((decode cX4_addWalker 7 = .ok (.iload_n 2, 1)) ∧ (decode cX4_addWalker 8 = .ok (.invokestatic 58, 3))) ∧ ((decode cX4_addWalker 11 = .ok (.ifCond .ne 5, 3)) ∧ (decode cX4_addWalker 14 = .ok (.iconst 0, 1))))) ∧ ((((decode cX4_addWalker 15 = .ok (.ireturn, 1)) ∧ (decode cX4_addWalker 16 = .ok (.iload_n 3, 1))) ∧ ((decode cX4_addWalker 17 = .ok (.ifCond .lt 17, 3)) ∧ (decode cX4_addWalker 20 = .ok (.iload_n 3, 1)))) ∧ (((decode cX4_addWalker 21 = .ok (.iconst 2, 1)) ∧ (decode cX4_addWalker 22 = .ok (.if_icmp .gt 12, 3))) ∧ ((decode cX4_addWalker 25 = .ok (.aload_n 0, 1)) ∧ (decode cX4_addWalker 26 = .ok (.getfield 52, 3)))))) := by decide +kernel
theorem dX4_setCandle_39 : decode cX4_setCandle 39 = .ok (.ireturn, 1) := dbc_59.1.1.1.1
theorem dX4_addWalker_0 : decode cX4_addWalker 0 = .ok (.iload_n 1, 1) := dbc_59.1.1.1.2
theorem dX4_addWalker_1 : decode cX4_addWalker 1 = .ok (.invokestatic 58, 3) := dbc_59.1.1.2.1
theorem dX4_addWalker_4 : decode cX4_addWalker 4 = .ok (.ifCond .eq 10, 3) := dbc_59.1.1.2.2
theorem dX4_addWalker_7 : decode cX4_addWalker 7 = .ok (.iload_n 2, 1) := dbc_59.1.2.1.1
theorem dX4_addWalker_8 : decode cX4_addWalker 8 = .ok (.invokestatic 58, 3) := dbc_59.1.2.1.2
theorem dX4_addWalker_11 : decode cX4_addWalker 11 = .ok (.ifCond .ne 5, 3) := dbc_59.1.2.2.1
theorem dX4_addWalker_14 : decode cX4_addWalker 14 = .ok (.iconst 0, 1) := dbc_59.1.2.2.2
theorem dX4_addWalker_15 : decode cX4_addWalker 15 = .ok (.ireturn, 1) := dbc_59.2.1.1.1
theorem dX4_addWalker_16 : decode cX4_addWalker 16 = .ok (.iload_n 3, 1) := dbc_59.2.1.1.2
theorem dX4_addWalker_17 : decode cX4_addWalker 17 = .ok (.ifCond .lt 17, 3) := dbc_59.2.1.2.1
theorem dX4_addWalker_20 : decode cX4_addWalker 20 = .ok (.iload_n 3, 1) := dbc_59.2.1.2.2
theorem dX4_addWalker_21 : decode cX4_addWalker 21 = .ok (.iconst 2, 1) := dbc_59.2.2.1.1
theorem dX4_addWalker_22 : decode cX4_addWalker 22 = .ok (.if_icmp .gt 12, 3) := dbc_59.2.2.1.2
theorem dX4_addWalker_25 : decode cX4_addWalker 25 = .ok (.aload_n 0, 1) := dbc_59.2.2.2.1
theorem dX4_addWalker_26 : decode cX4_addWalker 26 = .ok (.getfield 52, 3) := dbc_59.2.2.2.2
theorem dbc_60 : (((((decode cX4_addWalker 29 = .ok (.bipush 6, 2)) ∧ (decode cX4_addWalker 31 = .ok (.if_icmp .lt 5, 3))) ∧ ((decode cX4_addWalker 34 = .ok (.iconst 0, 1)) ∧ (decode cX4_addWalker 35 = .ok (.ireturn, 1)))) ∧ (((decode cX4_addWalker 36 = .ok (.aload_n 0, 1)) ∧ (decode cX4_addWalker 37 = .ok (.getfield 21, 3))) ∧ ((decode cX4_addWalker 40 = .ok (.aload_n 0, 1)) ∧ (decode cX4_addWalker 41 = .ok (.getfield 52, 3))))) ∧ ((((decode cX4_addWalker 44 = .ok (.iload_n 1, 1)) ∧ (decode cX4_addWalker 45 = .ok (.iastore, 1))) ∧ ((decode cX4_addWalker 46 = .ok (.aload_n 0, 1)) ∧ (decode cX4_addWalker 47 = .ok (.getfield 24, 3)))) ∧ (((decode cX4_addWalker 50 = .ok (.aload_n 0, 1)) ∧ (decode cX4_addWalker 51 = .ok (.getfield 52, 3))) ∧ ((decode cX4_addWalker 54 = .ok (.iload_n 2, 1)) ∧ (decode cX4_addWalker 55 = .ok (.iastore, 1)))))) := by decide +kernel
theorem dX4_addWalker_29 : decode cX4_addWalker 29 = .ok (.bipush 6, 2) := dbc_60.1.1.1.1
theorem dX4_addWalker_31 : decode cX4_addWalker 31 = .ok (.if_icmp .lt 5, 3) := dbc_60.1.1.1.2
theorem dX4_addWalker_34 : decode cX4_addWalker 34 = .ok (.iconst 0, 1) := dbc_60.1.1.2.1
theorem dX4_addWalker_35 : decode cX4_addWalker 35 = .ok (.ireturn, 1) := dbc_60.1.1.2.2
theorem dX4_addWalker_36 : decode cX4_addWalker 36 = .ok (.aload_n 0, 1) := dbc_60.1.2.1.1
theorem dX4_addWalker_37 : decode cX4_addWalker 37 = .ok (.getfield 21, 3) := dbc_60.1.2.1.2
theorem dX4_addWalker_40 : decode cX4_addWalker 40 = .ok (.aload_n 0, 1) := dbc_60.1.2.2.1
theorem dX4_addWalker_41 : decode cX4_addWalker 41 = .ok (.getfield 52, 3) := dbc_60.1.2.2.2
theorem dX4_addWalker_44 : decode cX4_addWalker 44 = .ok (.iload_n 1, 1) := dbc_60.2.1.1.1
theorem dX4_addWalker_45 : decode cX4_addWalker 45 = .ok (.iastore, 1) := dbc_60.2.1.1.2
theorem dX4_addWalker_46 : decode cX4_addWalker 46 = .ok (.aload_n 0, 1) := dbc_60.2.1.2.1
theorem dX4_addWalker_47 : decode cX4_addWalker 47 = .ok (.getfield 24, 3) := dbc_60.2.1.2.2
theorem dX4_addWalker_50 : decode cX4_addWalker 50 = .ok (.aload_n 0, 1) := dbc_60.2.2.1.1
theorem dX4_addWalker_51 : decode cX4_addWalker 51 = .ok (.getfield 52, 3) := dbc_60.2.2.1.2
theorem dX4_addWalker_54 : decode cX4_addWalker 54 = .ok (.iload_n 2, 1) := dbc_60.2.2.2.1
theorem dX4_addWalker_55 : decode cX4_addWalker 55 = .ok (.iastore, 1) := dbc_60.2.2.2.2
theorem dbc_61 : (((((decode cX4_addWalker 56 = .ok (.aload_n 0, 1)) ∧ (decode cX4_addWalker 57 = .ok (.getfield 27, 3))) ∧ ((decode cX4_addWalker 60 = .ok (.aload_n 0, 1)) ∧ (decode cX4_addWalker 61 = .ok (.getfield 52, 3)))) ∧ (((decode cX4_addWalker 64 = .ok (.iload_n 3, 1)) ∧ (decode cX4_addWalker 65 = .ok (.iastore, 1))) ∧ ((decode cX4_addWalker 66 = .ok (.aload_n 0, 1)) ∧ (decode cX4_addWalker 67 = .ok (.dup, 1))))) ∧ ((((decode cX4_addWalker 68 = .ok (.getfield 52, 3)) ∧ (decode cX4_addWalker 71 = .ok (.iconst 1, 1))) ∧ ((decode cX4_addWalker 72 = .ok (.iadd, 1)) ∧ (decode cX4_addWalker 73 = .ok (.putfield 52, 3)))) ∧ (((decode cX4_addWalker 76 = .ok (.iconst 1, 1)) ∧ (decode cX4_addWalker 77 = .ok (.ireturn, 1))) ∧ ((decode cX4_turn 0 = .ok (.aload_n 0, 1)) ∧ (decode cX4_turn 1 = .ok (.iload_n 1, 1)))))) := by decide +kernel
theorem dX4_addWalker_56 : decode cX4_addWalker 56 = .ok (.aload_n 0, 1) := dbc_61.1.1.1.1
theorem dX4_addWalker_57 : decode cX4_addWalker 57 = .ok (.getfield 27, 3) := dbc_61.1.1.1.2
theorem dX4_addWalker_60 : decode cX4_addWalker 60 = .ok (.aload_n 0, 1) := dbc_61.1.1.2.1
theorem dX4_addWalker_61 : decode cX4_addWalker 61 = .ok (.getfield 52, 3) := dbc_61.1.1.2.2
theorem dX4_addWalker_64 : decode cX4_addWalker 64 = .ok (.iload_n 3, 1) := dbc_61.1.2.1.1
theorem dX4_addWalker_65 : decode cX4_addWalker 65 = .ok (.iastore, 1) := dbc_61.1.2.1.2
theorem dX4_addWalker_66 : decode cX4_addWalker 66 = .ok (.aload_n 0, 1) := dbc_61.1.2.2.1
theorem dX4_addWalker_67 : decode cX4_addWalker 67 = .ok (.dup, 1) := dbc_61.1.2.2.2
theorem dX4_addWalker_68 : decode cX4_addWalker 68 = .ok (.getfield 52, 3) := dbc_61.2.1.1.1
theorem dX4_addWalker_71 : decode cX4_addWalker 71 = .ok (.iconst 1, 1) := dbc_61.2.1.1.2
theorem dX4_addWalker_72 : decode cX4_addWalker 72 = .ok (.iadd, 1) := dbc_61.2.1.2.1
theorem dX4_addWalker_73 : decode cX4_addWalker 73 = .ok (.putfield 52, 3) := dbc_61.2.1.2.2
theorem dX4_addWalker_76 : decode cX4_addWalker 76 = .ok (.iconst 1, 1) := dbc_61.2.2.1.1
theorem dX4_addWalker_77 : decode cX4_addWalker 77 = .ok (.ireturn, 1) := dbc_61.2.2.1.2
theorem dX4_turn_0 : decode cX4_turn 0 = .ok (.aload_n 0, 1) := dbc_61.2.2.2.1
theorem dX4_turn_1 : decode cX4_turn 1 = .ok (.iload_n 1, 1) := dbc_61.2.2.2.2
theorem dbc_62 : (((((decode cX4_turn 2 = .ok (.invokevirtual 62, 3)) ∧ (decode cX4_turn 5 = .ok (.ifCond .ne 5, 3))) ∧ ((decode cX4_turn 8 = .ok (.iconst 0, 1)) ∧ (decode cX4_turn 9 = .ok (.ireturn, 1)))) ∧ (((decode cX4_turn 10 = .ok (.aload_n 0, 1)) ∧ (decode cX4_turn 11 = .ok (.dup, 1))) ∧ ((decode cX4_turn 12 = .ok (.getfield 49, 3)) ∧ (decode cX4_turn 15 = .ok (.iconst 1, 1))))) ∧ ((((decode cX4_turn 16 = .ok (.iload_n 1, 1)) ∧ (decode cX4_turn 17 = .ok (.ishl, 1))) ∧ ((decode cX4_turn 18 = .ok (.ixor, 1)) ∧ (decode cX4_turn 19 = .ok (.putfield 49, 3)))) ∧ (((decode cX4_turn 22 = .ok (.iconst 1, 1)) ∧ (decode cX4_turn 23 = .ok (.ireturn, 1))) ∧ ((decode cX4_aim 0 = .ok (.aload_n 0, 1)) ∧ (decode cX4_aim 1 = .ok (.iload_n 1, 1)))))) := by decide +kernel
theorem dX4_turn_2 : decode cX4_turn 2 = .ok (.invokevirtual 62, 3) := dbc_62.1.1.1.1
theorem dX4_turn_5 : decode cX4_turn 5 = .ok (.ifCond .ne 5, 3) := dbc_62.1.1.1.2
theorem dX4_turn_8 : decode cX4_turn 8 = .ok (.iconst 0, 1) := dbc_62.1.1.2.1
theorem dX4_turn_9 : decode cX4_turn 9 = .ok (.ireturn, 1) := dbc_62.1.1.2.2
theorem dX4_turn_10 : decode cX4_turn 10 = .ok (.aload_n 0, 1) := dbc_62.1.2.1.1
theorem dX4_turn_11 : decode cX4_turn 11 = .ok (.dup, 1) := dbc_62.1.2.1.2
theorem dX4_turn_12 : decode cX4_turn 12 = .ok (.getfield 49, 3) := dbc_62.1.2.2.1
theorem dX4_turn_15 : decode cX4_turn 15 = .ok (.iconst 1, 1) := dbc_62.1.2.2.2
theorem dX4_turn_16 : decode cX4_turn 16 = .ok (.iload_n 1, 1) := dbc_62.2.1.1.1
theorem dX4_turn_17 : decode cX4_turn 17 = .ok (.ishl, 1) := dbc_62.2.1.1.2
theorem dX4_turn_18 : decode cX4_turn 18 = .ok (.ixor, 1) := dbc_62.2.1.2.1
theorem dX4_turn_19 : decode cX4_turn 19 = .ok (.putfield 49, 3) := dbc_62.2.1.2.2
theorem dX4_turn_22 : decode cX4_turn 22 = .ok (.iconst 1, 1) := dbc_62.2.2.1.1
theorem dX4_turn_23 : decode cX4_turn 23 = .ok (.ireturn, 1) := dbc_62.2.2.1.2
theorem dX4_aim_0 : decode cX4_aim 0 = .ok (.aload_n 0, 1) := dbc_62.2.2.2.1
theorem dX4_aim_1 : decode cX4_aim 1 = .ok (.iload_n 1, 1) := dbc_62.2.2.2.2
theorem dbc_63 : (((((decode cX4_aim 2 = .ok (.invokevirtual 65, 3)) ∧ (decode cX4_aim 5 = .ok (.ifCond .eq 10, 3))) ∧ ((decode cX4_aim 8 = .ok (.iload_n 2, 1)) ∧ (decode cX4_aim 9 = .ok (.invokestatic 58, 3)))) ∧ (((decode cX4_aim 12 = .ok (.ifCond .ne 5, 3)) ∧ (decode cX4_aim 15 = .ok (.iconst 0, 1))) ∧ ((decode cX4_aim 16 = .ok (.ireturn, 1)) ∧ (decode cX4_aim 17 = .ok (.aload_n 0, 1))))) ∧ ((((decode cX4_aim 18 = .ok (.getfield 24, 3)) ∧ (decode cX4_aim 21 = .ok (.iload_n 1, 1))) ∧ ((decode cX4_aim 22 = .ok (.iload_n 2, 1)) ∧ (decode cX4_aim 23 = .ok (.iastore, 1)))) ∧ (((decode cX4_aim 24 = .ok (.iconst 1, 1)) ∧ (decode cX4_aim 25 = .ok (.ireturn, 1))) ∧ ((decode cX4_addDebt 0 = .ok (.aload_n 0, 1)) ∧ (decode cX4_addDebt 1 = .ok (.iload_n 1, 1)))))) := by decide +kernel
theorem dX4_aim_2 : decode cX4_aim 2 = .ok (.invokevirtual 65, 3) := dbc_63.1.1.1.1
theorem dX4_aim_5 : decode cX4_aim 5 = .ok (.ifCond .eq 10, 3) := dbc_63.1.1.1.2
theorem dX4_aim_8 : decode cX4_aim 8 = .ok (.iload_n 2, 1) := dbc_63.1.1.2.1
theorem dX4_aim_9 : decode cX4_aim 9 = .ok (.invokestatic 58, 3) := dbc_63.1.1.2.2
theorem dX4_aim_12 : decode cX4_aim 12 = .ok (.ifCond .ne 5, 3) := dbc_63.1.2.1.1
theorem dX4_aim_15 : decode cX4_aim 15 = .ok (.iconst 0, 1) := dbc_63.1.2.1.2
theorem dX4_aim_16 : decode cX4_aim 16 = .ok (.ireturn, 1) := dbc_63.1.2.2.1
theorem dX4_aim_17 : decode cX4_aim 17 = .ok (.aload_n 0, 1) := dbc_63.1.2.2.2
theorem dX4_aim_18 : decode cX4_aim 18 = .ok (.getfield 24, 3) := dbc_63.2.1.1.1
theorem dX4_aim_21 : decode cX4_aim 21 = .ok (.iload_n 1, 1) := dbc_63.2.1.1.2
theorem dX4_aim_22 : decode cX4_aim 22 = .ok (.iload_n 2, 1) := dbc_63.2.1.2.1
theorem dX4_aim_23 : decode cX4_aim 23 = .ok (.iastore, 1) := dbc_63.2.1.2.2
theorem dX4_aim_24 : decode cX4_aim 24 = .ok (.iconst 1, 1) := dbc_63.2.2.1.1
theorem dX4_aim_25 : decode cX4_aim 25 = .ok (.ireturn, 1) := dbc_63.2.2.1.2
theorem dX4_addDebt_0 : decode cX4_addDebt 0 = .ok (.aload_n 0, 1) := dbc_63.2.2.2.1
theorem dX4_addDebt_1 : decode cX4_addDebt 1 = .ok (.iload_n 1, 1) := dbc_63.2.2.2.2
theorem dbc_64 : (((((decode cX4_addDebt 2 = .ok (.invokevirtual 65, 3)) ∧ (decode cX4_addDebt 5 = .ok (.ifCond .eq 11, 3))) ∧ ((decode cX4_addDebt 8 = .ok (.aload_n 0, 1)) ∧ (decode cX4_addDebt 9 = .ok (.iload_n 2, 1)))) ∧ (((decode cX4_addDebt 10 = .ok (.invokevirtual 62, 3)) ∧ (decode cX4_addDebt 13 = .ok (.ifCond .ne 5, 3))) ∧ ((decode cX4_addDebt 16 = .ok (.iconst 0, 1)) ∧ (decode cX4_addDebt 17 = .ok (.ireturn, 1))))) ∧ ((((decode cX4_addDebt 18 = .ok (.aload_n 0, 1)) ∧ (decode cX4_addDebt 19 = .ok (.iload_n 1, 1))) ∧ ((decode cX4_addDebt 20 = .ok (.iload_n 2, 1)) ∧ (decode cX4_addDebt 21 = .ok (.invokevirtual 68, 3)))) ∧ (((decode cX4_addDebt 24 = .ok (.ifCond .ne 10, 3)) ∧ (decode cX4_addDebt 27 = .ok (.aload_n 0, 1))) ∧ ((decode cX4_addDebt 28 = .ok (.iload_n 1, 1)) ∧ (decode cX4_addDebt 29 = .ok (.iload_n 2, 1)))))) := by decide +kernel
theorem dX4_addDebt_2 : decode cX4_addDebt 2 = .ok (.invokevirtual 65, 3) := dbc_64.1.1.1.1
theorem dX4_addDebt_5 : decode cX4_addDebt 5 = .ok (.ifCond .eq 11, 3) := dbc_64.1.1.1.2
theorem dX4_addDebt_8 : decode cX4_addDebt 8 = .ok (.aload_n 0, 1) := dbc_64.1.1.2.1
theorem dX4_addDebt_9 : decode cX4_addDebt 9 = .ok (.iload_n 2, 1) := dbc_64.1.1.2.2
theorem dX4_addDebt_10 : decode cX4_addDebt 10 = .ok (.invokevirtual 62, 3) := dbc_64.1.2.1.1
theorem dX4_addDebt_13 : decode cX4_addDebt 13 = .ok (.ifCond .ne 5, 3) := dbc_64.1.2.1.2
theorem dX4_addDebt_16 : decode cX4_addDebt 16 = .ok (.iconst 0, 1) := dbc_64.1.2.2.1
theorem dX4_addDebt_17 : decode cX4_addDebt 17 = .ok (.ireturn, 1) := dbc_64.1.2.2.2
theorem dX4_addDebt_18 : decode cX4_addDebt 18 = .ok (.aload_n 0, 1) := dbc_64.2.1.1.1
theorem dX4_addDebt_19 : decode cX4_addDebt 19 = .ok (.iload_n 1, 1) := dbc_64.2.1.1.2
theorem dX4_addDebt_20 : decode cX4_addDebt 20 = .ok (.iload_n 2, 1) := dbc_64.2.1.2.1
theorem dX4_addDebt_21 : decode cX4_addDebt 21 = .ok (.invokevirtual 68, 3) := dbc_64.2.1.2.2
theorem dX4_addDebt_24 : decode cX4_addDebt 24 = .ok (.ifCond .ne 10, 3) := dbc_64.2.2.1.1
theorem dX4_addDebt_27 : decode cX4_addDebt 27 = .ok (.aload_n 0, 1) := dbc_64.2.2.1.2
theorem dX4_addDebt_28 : decode cX4_addDebt 28 = .ok (.iload_n 1, 1) := dbc_64.2.2.2.1
theorem dX4_addDebt_29 : decode cX4_addDebt 29 = .ok (.iload_n 2, 1) := dbc_64.2.2.2.2
theorem dbc_65 : (((((decode cX4_addDebt 30 = .ok (.iconst 0, 1)) ∧ (decode cX4_addDebt 31 = .ok (.invokevirtual 72, 3))) ∧ ((decode cX4_addDebt 34 = .ok (.iconst 1, 1)) ∧ (decode cX4_addDebt 35 = .ok (.ireturn, 1)))) ∧ (((decode cX4_pass 0 = .ok (.iload_n 1, 1)) ∧ (decode cX4_pass 1 = .ok (.iconst 1, 1))) ∧ ((decode cX4_pass 2 = .ok (.if_icmp .lt 21, 3)) ∧ (decode cX4_pass 5 = .ok (.iload_n 1, 1))))) ∧ ((((decode cX4_pass 6 = .ok (.bipush 60, 2)) ∧ (decode cX4_pass 8 = .ok (.if_icmp .gt 15, 3))) ∧ ((decode cX4_pass 11 = .ok (.aload_n 0, 1)) ∧ (decode cX4_pass 12 = .ok (.getfield 55, 3)))) ∧ (((decode cX4_pass 15 = .ok (.iload_n 1, 1)) ∧ (decode cX4_pass 16 = .ok (.iadd, 1))) ∧ ((decode cX4_pass 17 = .ok (.sipush 999, 3)) ∧ (decode cX4_pass 20 = .ok (.if_icmp .le 5, 3)))))) := by decide +kernel
theorem dX4_addDebt_30 : decode cX4_addDebt 30 = .ok (.iconst 0, 1) := dbc_65.1.1.1.1
theorem dX4_addDebt_31 : decode cX4_addDebt 31 = .ok (.invokevirtual 72, 3) := dbc_65.1.1.1.2
theorem dX4_addDebt_34 : decode cX4_addDebt 34 = .ok (.iconst 1, 1) := dbc_65.1.1.2.1
theorem dX4_addDebt_35 : decode cX4_addDebt 35 = .ok (.ireturn, 1) := dbc_65.1.1.2.2
theorem dX4_pass_0 : decode cX4_pass 0 = .ok (.iload_n 1, 1) := dbc_65.1.2.1.1
theorem dX4_pass_1 : decode cX4_pass 1 = .ok (.iconst 1, 1) := dbc_65.1.2.1.2
theorem dX4_pass_2 : decode cX4_pass 2 = .ok (.if_icmp .lt 21, 3) := dbc_65.1.2.2.1
theorem dX4_pass_5 : decode cX4_pass 5 = .ok (.iload_n 1, 1) := dbc_65.1.2.2.2
theorem dX4_pass_6 : decode cX4_pass 6 = .ok (.bipush 60, 2) := dbc_65.2.1.1.1
theorem dX4_pass_8 : decode cX4_pass 8 = .ok (.if_icmp .gt 15, 3) := dbc_65.2.1.1.2
theorem dX4_pass_11 : decode cX4_pass 11 = .ok (.aload_n 0, 1) := dbc_65.2.1.2.1
theorem dX4_pass_12 : decode cX4_pass 12 = .ok (.getfield 55, 3) := dbc_65.2.1.2.2
theorem dX4_pass_15 : decode cX4_pass 15 = .ok (.iload_n 1, 1) := dbc_65.2.2.1.1
theorem dX4_pass_16 : decode cX4_pass 16 = .ok (.iadd, 1) := dbc_65.2.2.1.2
theorem dX4_pass_17 : decode cX4_pass 17 = .ok (.sipush 999, 3) := dbc_65.2.2.2.1
theorem dX4_pass_20 : decode cX4_pass 20 = .ok (.if_icmp .le 5, 3) := dbc_65.2.2.2.2
theorem dbc_66 : (((((decode cX4_pass 23 = .ok (.iconst 0, 1)) ∧ (decode cX4_pass 24 = .ok (.ireturn, 1))) ∧ ((decode cX4_pass 25 = .ok (.iconst 0, 1)) ∧ (decode cX4_pass 26 = .ok (.istore_n 2, 1)))) ∧ (((decode cX4_pass 27 = .ok (.iload_n 2, 1)) ∧ (decode cX4_pass 28 = .ok (.aload_n 0, 1))) ∧ ((decode cX4_pass 29 = .ok (.getfield 52, 3)) ∧ (decode cX4_pass 32 = .ok (.if_icmp .ge 50, 3))))) ∧ ((((decode cX4_pass 35 = .ok (.iconst 0, 1)) ∧ (decode cX4_pass 36 = .ok (.istore_n 3, 1))) ∧ ((decode cX4_pass 37 = .ok (.iload_n 3, 1)) ∧ (decode cX4_pass 38 = .ok (.aload_n 0, 1)))) ∧ (((decode cX4_pass 39 = .ok (.getfield 39, 3)) ∧ (decode cX4_pass 42 = .ok (.if_icmp .ge 22, 3))) ∧ ((decode cX4_pass 45 = .ok (.aload_n 0, 1)) ∧ (decode cX4_pass 46 = .ok (.iload_n 2, 1)))))) := by decide +kernel
theorem dX4_pass_23 : decode cX4_pass 23 = .ok (.iconst 0, 1) := dbc_66.1.1.1.1
theorem dX4_pass_24 : decode cX4_pass 24 = .ok (.ireturn, 1) := dbc_66.1.1.1.2
theorem dX4_pass_25 : decode cX4_pass 25 = .ok (.iconst 0, 1) := dbc_66.1.1.2.1
theorem dX4_pass_26 : decode cX4_pass 26 = .ok (.istore_n 2, 1) := dbc_66.1.1.2.2
theorem dX4_pass_27 : decode cX4_pass 27 = .ok (.iload_n 2, 1) := dbc_66.1.2.1.1
theorem dX4_pass_28 : decode cX4_pass 28 = .ok (.aload_n 0, 1) := dbc_66.1.2.1.2
theorem dX4_pass_29 : decode cX4_pass 29 = .ok (.getfield 52, 3) := dbc_66.1.2.2.1
theorem dX4_pass_32 : decode cX4_pass 32 = .ok (.if_icmp .ge 50, 3) := dbc_66.1.2.2.2
theorem dX4_pass_35 : decode cX4_pass 35 = .ok (.iconst 0, 1) := dbc_66.2.1.1.1
theorem dX4_pass_36 : decode cX4_pass 36 = .ok (.istore_n 3, 1) := dbc_66.2.1.1.2
theorem dX4_pass_37 : decode cX4_pass 37 = .ok (.iload_n 3, 1) := dbc_66.2.1.2.1
theorem dX4_pass_38 : decode cX4_pass 38 = .ok (.aload_n 0, 1) := dbc_66.2.1.2.2
theorem dX4_pass_39 : decode cX4_pass 39 = .ok (.getfield 39, 3) := dbc_66.2.2.1.1
theorem dX4_pass_42 : decode cX4_pass 42 = .ok (.if_icmp .ge 22, 3) := dbc_66.2.2.1.2
theorem dX4_pass_45 : decode cX4_pass 45 = .ok (.aload_n 0, 1) := dbc_66.2.2.2.1
theorem dX4_pass_46 : decode cX4_pass 46 = .ok (.iload_n 2, 1) := dbc_66.2.2.2.2
theorem dbc_67 : (((((decode cX4_pass 47 = .ok (.iload_n 3, 1)) ∧ (decode cX4_pass 48 = .ok (.aload_n 0, 1))) ∧ ((decode cX4_pass 49 = .ok (.iload_n 2, 1)) ∧ (decode cX4_pass 50 = .ok (.iload_n 3, 1)))) ∧ (((decode cX4_pass 51 = .ok (.iload_n 1, 1)) ∧ (decode cX4_pass 52 = .ok (.invokevirtual 76, 3))) ∧ ((decode cX4_pass 55 = .ok (.invokevirtual 72, 3)) ∧ (decode cX4_pass 58 = .ok (.iinc 3 1, 3))))) ∧ ((((decode cX4_pass 61 = .ok (.goto (-24), 3)) ∧ (decode cX4_pass 64 = .ok (.aload_n 0, 1))) ∧ ((decode cX4_pass 65 = .ok (.getfield 21, 3)) ∧ (decode cX4_pass 68 = .ok (.iload_n 2, 1)))) ∧ (((decode cX4_pass 69 = .ok (.aload_n 0, 1)) ∧ (decode cX4_pass 70 = .ok (.iload_n 2, 1))) ∧ ((decode cX4_pass 71 = .ok (.iload_n 1, 1)) ∧ (decode cX4_pass 72 = .ok (.invokevirtual 80, 3)))))) := by decide +kernel
theorem dX4_pass_47 : decode cX4_pass 47 = .ok (.iload_n 3, 1) := dbc_67.1.1.1.1
theorem dX4_pass_48 : decode cX4_pass 48 = .ok (.aload_n 0, 1) := dbc_67.1.1.1.2
theorem dX4_pass_49 : decode cX4_pass 49 = .ok (.iload_n 2, 1) := dbc_67.1.1.2.1
theorem dX4_pass_50 : decode cX4_pass 50 = .ok (.iload_n 3, 1) := dbc_67.1.1.2.2
theorem dX4_pass_51 : decode cX4_pass 51 = .ok (.iload_n 1, 1) := dbc_67.1.2.1.1
theorem dX4_pass_52 : decode cX4_pass 52 = .ok (.invokevirtual 76, 3) := dbc_67.1.2.1.2
theorem dX4_pass_55 : decode cX4_pass 55 = .ok (.invokevirtual 72, 3) := dbc_67.1.2.2.1
theorem dX4_pass_58 : decode cX4_pass 58 = .ok (.iinc 3 1, 3) := dbc_67.1.2.2.2
theorem dX4_pass_61 : decode cX4_pass 61 = .ok (.goto (-24), 3) := dbc_67.2.1.1.1
theorem dX4_pass_64 : decode cX4_pass 64 = .ok (.aload_n 0, 1) := dbc_67.2.1.1.2
theorem dX4_pass_65 : decode cX4_pass 65 = .ok (.getfield 21, 3) := dbc_67.2.1.2.1
theorem dX4_pass_68 : decode cX4_pass 68 = .ok (.iload_n 2, 1) := dbc_67.2.1.2.2
theorem dX4_pass_69 : decode cX4_pass 69 = .ok (.aload_n 0, 1) := dbc_67.2.2.1.1
theorem dX4_pass_70 : decode cX4_pass 70 = .ok (.iload_n 2, 1) := dbc_67.2.2.1.2
theorem dX4_pass_71 : decode cX4_pass 71 = .ok (.iload_n 1, 1) := dbc_67.2.2.2.1
theorem dX4_pass_72 : decode cX4_pass 72 = .ok (.invokevirtual 80, 3) := dbc_67.2.2.2.2
theorem dbc_68 : (((((decode cX4_pass 75 = .ok (.iastore, 1)) ∧ (decode cX4_pass 76 = .ok (.iinc 2 1, 3))) ∧ ((decode cX4_pass 79 = .ok (.goto (-52), 3)) ∧ (decode cX4_pass 82 = .ok (.aload_n 0, 1)))) ∧ (((decode cX4_pass 83 = .ok (.dup, 1)) ∧ (decode cX4_pass 84 = .ok (.getfield 55, 3))) ∧ ((decode cX4_pass 87 = .ok (.iload_n 1, 1)) ∧ (decode cX4_pass 88 = .ok (.iadd, 1))))) ∧ ((((decode cX4_pass 89 = .ok (.putfield 55, 3)) ∧ (decode cX4_pass 92 = .ok (.iconst 1, 1))) ∧ ((decode cX4_pass 93 = .ok (.ireturn, 1)) ∧ (decode cX4_setDebt 0 = .ok (.aload_n 0, 1)))) ∧ (((decode cX4_setDebt 1 = .ok (.getfield 30, 3)) ∧ (decode cX4_setDebt 4 = .ok (.iload_n 1, 1))) ∧ ((decode cX4_setDebt 5 = .ok (.bipush 8, 2)) ∧ (decode cX4_setDebt 7 = .ok (.imul, 1)))))) := by decide +kernel
theorem dX4_pass_75 : decode cX4_pass 75 = .ok (.iastore, 1) := dbc_68.1.1.1.1
theorem dX4_pass_76 : decode cX4_pass 76 = .ok (.iinc 2 1, 3) := dbc_68.1.1.1.2
theorem dX4_pass_79 : decode cX4_pass 79 = .ok (.goto (-52), 3) := dbc_68.1.1.2.1
theorem dX4_pass_82 : decode cX4_pass 82 = .ok (.aload_n 0, 1) := dbc_68.1.1.2.2
theorem dX4_pass_83 : decode cX4_pass 83 = .ok (.dup, 1) := dbc_68.1.2.1.1
theorem dX4_pass_84 : decode cX4_pass 84 = .ok (.getfield 55, 3) := dbc_68.1.2.1.2
theorem dX4_pass_87 : decode cX4_pass 87 = .ok (.iload_n 1, 1) := dbc_68.1.2.2.1
theorem dX4_pass_88 : decode cX4_pass 88 = .ok (.iadd, 1) := dbc_68.1.2.2.2
theorem dX4_pass_89 : decode cX4_pass 89 = .ok (.putfield 55, 3) := dbc_68.2.1.1.1
theorem dX4_pass_92 : decode cX4_pass 92 = .ok (.iconst 1, 1) := dbc_68.2.1.1.2
theorem dX4_pass_93 : decode cX4_pass 93 = .ok (.ireturn, 1) := dbc_68.2.1.2.1
theorem dX4_setDebt_0 : decode cX4_setDebt 0 = .ok (.aload_n 0, 1) := dbc_68.2.1.2.2
theorem dX4_setDebt_1 : decode cX4_setDebt 1 = .ok (.getfield 30, 3) := dbc_68.2.2.1.1
theorem dX4_setDebt_4 : decode cX4_setDebt 4 = .ok (.iload_n 1, 1) := dbc_68.2.2.1.2
theorem dX4_setDebt_5 : decode cX4_setDebt 5 = .ok (.bipush 8, 2) := dbc_68.2.2.2.1
theorem dX4_setDebt_7 : decode cX4_setDebt 7 = .ok (.imul, 1) := dbc_68.2.2.2.2
theorem dbc_69 : (((((decode cX4_setDebt 8 = .ok (.iload_n 2, 1)) ∧ (decode cX4_setDebt 9 = .ok (.iadd, 1))) ∧ ((decode cX4_setDebt 10 = .ok (.iload_n 3, 1)) ∧ (decode cX4_setDebt 11 = .ok (.iastore, 1)))) ∧ (((decode cX4_setDebt 12 = .ok (.return_, 1)) ∧ (decode cX4_owes 0 = .ok (.aload_n 0, 1))) ∧ ((decode cX4_owes 1 = .ok (.getfield 30, 3)) ∧ (decode cX4_owes 4 = .ok (.iload_n 1, 1))))) ∧ ((((decode cX4_owes 5 = .ok (.bipush 8, 2)) ∧ (decode cX4_owes 7 = .ok (.imul, 1))) ∧ ((decode cX4_owes 8 = .ok (.iload_n 2, 1)) ∧ (decode cX4_owes 9 = .ok (.iadd, 1)))) ∧ (((decode cX4_owes 10 = .ok (.iaload, 1)) ∧ (decode cX4_owes 11 = .ok (.iconst (-1), 1))) ∧ ((decode cX4_owes 12 = .ok (.if_icmp .eq 7, 3)) ∧ (decode cX4_owes 15 = .ok (.iconst 1, 1)))))) := by decide +kernel
theorem dX4_setDebt_8 : decode cX4_setDebt 8 = .ok (.iload_n 2, 1) := dbc_69.1.1.1.1
theorem dX4_setDebt_9 : decode cX4_setDebt 9 = .ok (.iadd, 1) := dbc_69.1.1.1.2
theorem dX4_setDebt_10 : decode cX4_setDebt 10 = .ok (.iload_n 3, 1) := dbc_69.1.1.2.1
theorem dX4_setDebt_11 : decode cX4_setDebt 11 = .ok (.iastore, 1) := dbc_69.1.1.2.2
theorem dX4_setDebt_12 : decode cX4_setDebt 12 = .ok (.return_, 1) := dbc_69.1.2.1.1
theorem dX4_owes_0 : decode cX4_owes 0 = .ok (.aload_n 0, 1) := dbc_69.1.2.1.2
theorem dX4_owes_1 : decode cX4_owes 1 = .ok (.getfield 30, 3) := dbc_69.1.2.2.1
theorem dX4_owes_4 : decode cX4_owes 4 = .ok (.iload_n 1, 1) := dbc_69.1.2.2.2
theorem dX4_owes_5 : decode cX4_owes 5 = .ok (.bipush 8, 2) := dbc_69.2.1.1.1
theorem dX4_owes_7 : decode cX4_owes 7 = .ok (.imul, 1) := dbc_69.2.1.1.2
theorem dX4_owes_8 : decode cX4_owes 8 = .ok (.iload_n 2, 1) := dbc_69.2.1.2.1
theorem dX4_owes_9 : decode cX4_owes 9 = .ok (.iadd, 1) := dbc_69.2.1.2.2
theorem dX4_owes_10 : decode cX4_owes 10 = .ok (.iaload, 1) := dbc_69.2.2.1.1
theorem dX4_owes_11 : decode cX4_owes 11 = .ok (.iconst (-1), 1) := dbc_69.2.2.1.2
theorem dX4_owes_12 : decode cX4_owes 12 = .ok (.if_icmp .eq 7, 3) := dbc_69.2.2.2.1
theorem dX4_owes_15 : decode cX4_owes 15 = .ok (.iconst 1, 1) := dbc_69.2.2.2.2
theorem dbc_70 : (((((decode cX4_owes 16 = .ok (.goto 4, 3)) ∧ (decode cX4_owes 19 = .ok (.iconst 0, 1))) ∧ ((decode cX4_owes 20 = .ok (.ireturn, 1)) ∧ (decode cX4_minutesOf 0 = .ok (.aload_n 0, 1)))) ∧ (((decode cX4_minutesOf 1 = .ok (.getfield 9, 3)) ∧ (decode cX4_minutesOf 4 = .ok (.iload_n 1, 1))) ∧ ((decode cX4_minutesOf 5 = .ok (.iaload, 1)) ∧ (decode cX4_minutesOf 6 = .ok (.aload_n 0, 1))))) ∧ ((((decode cX4_minutesOf 7 = .ok (.getfield 15, 3)) ∧ (decode cX4_minutesOf 10 = .ok (.iload_n 1, 1))) ∧ ((decode cX4_minutesOf 11 = .ok (.iaload, 1)) ∧ (decode cX4_minutesOf 12 = .ok (.iload_n 2, 1)))) ∧ (((decode cX4_minutesOf 13 = .ok (.invokestatic 84, 3)) ∧ (decode cX4_minutesOf 16 = .ok (.ireturn, 1))) ∧ ((decode cX4_rangeOf 0 = .ok (.aload_n 0, 1)) ∧ (decode cX4_rangeOf 1 = .ok (.iload_n 2, 1)))))) := by decide +kernel
theorem dX4_owes_16 : decode cX4_owes 16 = .ok (.goto 4, 3) := dbc_70.1.1.1.1
theorem dX4_owes_19 : decode cX4_owes 19 = .ok (.iconst 0, 1) := dbc_70.1.1.1.2
theorem dX4_owes_20 : decode cX4_owes 20 = .ok (.ireturn, 1) := dbc_70.1.1.2.1
theorem dX4_minutesOf_0 : decode cX4_minutesOf 0 = .ok (.aload_n 0, 1) := dbc_70.1.1.2.2
theorem dX4_minutesOf_1 : decode cX4_minutesOf 1 = .ok (.getfield 9, 3) := dbc_70.1.2.1.1
theorem dX4_minutesOf_4 : decode cX4_minutesOf 4 = .ok (.iload_n 1, 1) := dbc_70.1.2.1.2
theorem dX4_minutesOf_5 : decode cX4_minutesOf 5 = .ok (.iaload, 1) := dbc_70.1.2.2.1
theorem dX4_minutesOf_6 : decode cX4_minutesOf 6 = .ok (.aload_n 0, 1) := dbc_70.1.2.2.2
theorem dX4_minutesOf_7 : decode cX4_minutesOf 7 = .ok (.getfield 15, 3) := dbc_70.2.1.1.1
theorem dX4_minutesOf_10 : decode cX4_minutesOf 10 = .ok (.iload_n 1, 1) := dbc_70.2.1.1.2
theorem dX4_minutesOf_11 : decode cX4_minutesOf 11 = .ok (.iaload, 1) := dbc_70.2.1.2.1
theorem dX4_minutesOf_12 : decode cX4_minutesOf 12 = .ok (.iload_n 2, 1) := dbc_70.2.1.2.2
theorem dX4_minutesOf_13 : decode cX4_minutesOf 13 = .ok (.invokestatic 84, 3) := dbc_70.2.2.1.1
theorem dX4_minutesOf_16 : decode cX4_minutesOf 16 = .ok (.ireturn, 1) := dbc_70.2.2.1.2
theorem dX4_rangeOf_0 : decode cX4_rangeOf 0 = .ok (.aload_n 0, 1) := dbc_70.2.2.2.1
theorem dX4_rangeOf_1 : decode cX4_rangeOf 1 = .ok (.iload_n 2, 1) := dbc_70.2.2.2.2
theorem dbc_71 : (((((decode cX4_rangeOf 2 = .ok (.invokevirtual 87, 3)) ∧ (decode cX4_rangeOf 5 = .ok (.ifCond .ne 5, 3))) ∧ ((decode cX4_rangeOf 8 = .ok (.iconst (-1), 1)) ∧ (decode cX4_rangeOf 9 = .ok (.ireturn, 1)))) ∧ (((decode cX4_rangeOf 10 = .ok (.aload_n 0, 1)) ∧ (decode cX4_rangeOf 11 = .ok (.getfield 9, 3))) ∧ ((decode cX4_rangeOf 14 = .ok (.iload_n 2, 1)) ∧ (decode cX4_rangeOf 15 = .ok (.iaload, 1))))) ∧ ((((decode cX4_rangeOf 16 = .ok (.aload_n 0, 1)) ∧ (decode cX4_rangeOf 17 = .ok (.getfield 15, 3))) ∧ ((decode cX4_rangeOf 20 = .ok (.iload_n 2, 1)) ∧ (decode cX4_rangeOf 21 = .ok (.iaload, 1)))) ∧ (((decode cX4_rangeOf 22 = .ok (.invokestatic 90, 3)) ∧ (decode cX4_rangeOf 25 = .ok (.istore_n 3, 1))) ∧ ((decode cX4_rangeOf 26 = .ok (.aload_n 0, 1)) ∧ (decode cX4_rangeOf 27 = .ok (.getfield 27, 3)))))) := by decide +kernel
theorem dX4_rangeOf_2 : decode cX4_rangeOf 2 = .ok (.invokevirtual 87, 3) := dbc_71.1.1.1.1
theorem dX4_rangeOf_5 : decode cX4_rangeOf 5 = .ok (.ifCond .ne 5, 3) := dbc_71.1.1.1.2
theorem dX4_rangeOf_8 : decode cX4_rangeOf 8 = .ok (.iconst (-1), 1) := dbc_71.1.1.2.1
theorem dX4_rangeOf_9 : decode cX4_rangeOf 9 = .ok (.ireturn, 1) := dbc_71.1.1.2.2
theorem dX4_rangeOf_10 : decode cX4_rangeOf 10 = .ok (.aload_n 0, 1) := dbc_71.1.2.1.1
theorem dX4_rangeOf_11 : decode cX4_rangeOf 11 = .ok (.getfield 9, 3) := dbc_71.1.2.1.2
theorem dX4_rangeOf_14 : decode cX4_rangeOf 14 = .ok (.iload_n 2, 1) := dbc_71.1.2.2.1
theorem dX4_rangeOf_15 : decode cX4_rangeOf 15 = .ok (.iaload, 1) := dbc_71.1.2.2.2
theorem dX4_rangeOf_16 : decode cX4_rangeOf 16 = .ok (.aload_n 0, 1) := dbc_71.2.1.1.1
theorem dX4_rangeOf_17 : decode cX4_rangeOf 17 = .ok (.getfield 15, 3) := dbc_71.2.1.1.2
theorem dX4_rangeOf_20 : decode cX4_rangeOf 20 = .ok (.iload_n 2, 1) := dbc_71.2.1.2.1
theorem dX4_rangeOf_21 : decode cX4_rangeOf 21 = .ok (.iaload, 1) := dbc_71.2.1.2.2
theorem dX4_rangeOf_22 : decode cX4_rangeOf 22 = .ok (.invokestatic 90, 3) := dbc_71.2.2.1.1
theorem dX4_rangeOf_25 : decode cX4_rangeOf 25 = .ok (.istore_n 3, 1) := dbc_71.2.2.1.2
theorem dX4_rangeOf_26 : decode cX4_rangeOf 26 = .ok (.aload_n 0, 1) := dbc_71.2.2.2.1
theorem dX4_rangeOf_27 : decode cX4_rangeOf 27 = .ok (.getfield 27, 3) := dbc_71.2.2.2.2
theorem dbc_72 : (((((decode cX4_rangeOf 30 = .ok (.iload_n 1, 1)) ∧ (decode cX4_rangeOf 31 = .ok (.iaload, 1))) ∧ ((decode cX4_rangeOf 32 = .ok (.iconst 2, 1)) ∧ (decode cX4_rangeOf 33 = .ok (.if_icmp .ne 5, 3)))) ∧ (((decode cX4_rangeOf 36 = .ok (.iload_n 3, 1)) ∧ (decode cX4_rangeOf 37 = .ok (.ireturn, 1))) ∧ ((decode cX4_rangeOf 38 = .ok (.aload_n 0, 1)) ∧ (decode cX4_rangeOf 39 = .ok (.getfield 27, 3))))) ∧ ((((decode cX4_rangeOf 42 = .ok (.iload_n 1, 1)) ∧ (decode cX4_rangeOf 43 = .ok (.iaload, 1))) ∧ ((decode cX4_rangeOf 44 = .ok (.iconst 1, 1)) ∧ (decode cX4_rangeOf 45 = .ok (.if_icmp .ne 9, 3)))) ∧ (((decode cX4_rangeOf 48 = .ok (.iload_n 3, 1)) ∧ (decode cX4_rangeOf 49 = .ok (.iconst 2, 1))) ∧ ((decode cX4_rangeOf 50 = .ok (.idiv, 1)) ∧ (decode cX4_rangeOf 51 = .ok (.goto 4, 3)))))) := by decide +kernel
theorem dX4_rangeOf_30 : decode cX4_rangeOf 30 = .ok (.iload_n 1, 1) := dbc_72.1.1.1.1
theorem dX4_rangeOf_31 : decode cX4_rangeOf 31 = .ok (.iaload, 1) := dbc_72.1.1.1.2
theorem dX4_rangeOf_32 : decode cX4_rangeOf 32 = .ok (.iconst 2, 1) := dbc_72.1.1.2.1
theorem dX4_rangeOf_33 : decode cX4_rangeOf 33 = .ok (.if_icmp .ne 5, 3) := dbc_72.1.1.2.2
theorem dX4_rangeOf_36 : decode cX4_rangeOf 36 = .ok (.iload_n 3, 1) := dbc_72.1.2.1.1
theorem dX4_rangeOf_37 : decode cX4_rangeOf 37 = .ok (.ireturn, 1) := dbc_72.1.2.1.2
theorem dX4_rangeOf_38 : decode cX4_rangeOf 38 = .ok (.aload_n 0, 1) := dbc_72.1.2.2.1
theorem dX4_rangeOf_39 : decode cX4_rangeOf 39 = .ok (.getfield 27, 3) := dbc_72.1.2.2.2
theorem dX4_rangeOf_42 : decode cX4_rangeOf 42 = .ok (.iload_n 1, 1) := dbc_72.2.1.1.1
theorem dX4_rangeOf_43 : decode cX4_rangeOf 43 = .ok (.iaload, 1) := dbc_72.2.1.1.2
theorem dX4_rangeOf_44 : decode cX4_rangeOf 44 = .ok (.iconst 1, 1) := dbc_72.2.1.2.1
theorem dX4_rangeOf_45 : decode cX4_rangeOf 45 = .ok (.if_icmp .ne 9, 3) := dbc_72.2.1.2.2
theorem dX4_rangeOf_48 : decode cX4_rangeOf 48 = .ok (.iload_n 3, 1) := dbc_72.2.2.1.1
theorem dX4_rangeOf_49 : decode cX4_rangeOf 49 = .ok (.iconst 2, 1) := dbc_72.2.2.1.2
theorem dX4_rangeOf_50 : decode cX4_rangeOf 50 = .ok (.idiv, 1) := dbc_72.2.2.2.1
theorem dX4_rangeOf_51 : decode cX4_rangeOf 51 = .ok (.goto 4, 3) := dbc_72.2.2.2.2
theorem dbc_73 : (((((decode cX4_rangeOf 54 = .ok (.iconst (-1), 1)) ∧ (decode cX4_rangeOf 55 = .ok (.ireturn, 1))) ∧ ((decode cX4_seesFrom 0 = .ok (.iconst 0, 1)) ∧ (decode cX4_seesFrom 1 = .ok (.istore_n 3, 1)))) ∧ (((decode cX4_seesFrom 2 = .ok (.iconst 0, 1)) ∧ (decode cX4_seesFrom 3 = .ok (.istore 4, 2))) ∧ ((decode cX4_seesFrom 5 = .ok (.iload 4, 2)) ∧ (decode cX4_seesFrom 7 = .ok (.aload_n 0, 1))))) ∧ ((((decode cX4_seesFrom 8 = .ok (.getfield 39, 3)) ∧ (decode cX4_seesFrom 11 = .ok (.if_icmp .ge 37, 3))) ∧ ((decode cX4_seesFrom 14 = .ok (.iload_n 2, 1)) ∧ (decode cX4_seesFrom 15 = .ok (.aload_n 0, 1)))) ∧ (((decode cX4_seesFrom 16 = .ok (.getfield 18, 3)) ∧ (decode cX4_seesFrom 19 = .ok (.iload 4, 2))) ∧ ((decode cX4_seesFrom 21 = .ok (.iaload, 1)) ∧ (decode cX4_seesFrom 22 = .ok (.invokestatic 93, 3)))))) := by decide +kernel
theorem dX4_rangeOf_54 : decode cX4_rangeOf 54 = .ok (.iconst (-1), 1) := dbc_73.1.1.1.1
theorem dX4_rangeOf_55 : decode cX4_rangeOf 55 = .ok (.ireturn, 1) := dbc_73.1.1.1.2
theorem dX4_seesFrom_0 : decode cX4_seesFrom 0 = .ok (.iconst 0, 1) := dbc_73.1.1.2.1
theorem dX4_seesFrom_1 : decode cX4_seesFrom 1 = .ok (.istore_n 3, 1) := dbc_73.1.1.2.2
theorem dX4_seesFrom_2 : decode cX4_seesFrom 2 = .ok (.iconst 0, 1) := dbc_73.1.2.1.1
theorem dX4_seesFrom_3 : decode cX4_seesFrom 3 = .ok (.istore 4, 2) := dbc_73.1.2.1.2
theorem dX4_seesFrom_5 : decode cX4_seesFrom 5 = .ok (.iload 4, 2) := dbc_73.1.2.2.1
theorem dX4_seesFrom_7 : decode cX4_seesFrom 7 = .ok (.aload_n 0, 1) := dbc_73.1.2.2.2
theorem dX4_seesFrom_8 : decode cX4_seesFrom 8 = .ok (.getfield 39, 3) := dbc_73.2.1.1.1
theorem dX4_seesFrom_11 : decode cX4_seesFrom 11 = .ok (.if_icmp .ge 37, 3) := dbc_73.2.1.1.2
theorem dX4_seesFrom_14 : decode cX4_seesFrom 14 = .ok (.iload_n 2, 1) := dbc_73.2.1.2.1
theorem dX4_seesFrom_15 : decode cX4_seesFrom 15 = .ok (.aload_n 0, 1) := dbc_73.2.1.2.2
theorem dX4_seesFrom_16 : decode cX4_seesFrom 16 = .ok (.getfield 18, 3) := dbc_73.2.2.1.1
theorem dX4_seesFrom_19 : decode cX4_seesFrom 19 = .ok (.iload 4, 2) := dbc_73.2.2.1.2
theorem dX4_seesFrom_21 : decode cX4_seesFrom 21 = .ok (.iaload, 1) := dbc_73.2.2.2.1
theorem dX4_seesFrom_22 : decode cX4_seesFrom 22 = .ok (.invokestatic 93, 3) := dbc_73.2.2.2.2
theorem dbc_74 : (((((decode cX4_seesFrom 25 = .ok (.aload_n 0, 1)) ∧ (decode cX4_seesFrom 26 = .ok (.iload_n 1, 1))) ∧ ((decode cX4_seesFrom 27 = .ok (.iload 4, 2)) ∧ (decode cX4_seesFrom 29 = .ok (.invokevirtual 96, 3)))) ∧ (((decode cX4_seesFrom 32 = .ok (.if_icmp .gt 10, 3)) ∧ (decode cX4_seesFrom 35 = .ok (.iload_n 3, 1))) ∧ ((decode cX4_seesFrom 36 = .ok (.iconst 1, 1)) ∧ (decode cX4_seesFrom 37 = .ok (.iload 4, 2))))) ∧ ((((decode cX4_seesFrom 39 = .ok (.ishl, 1)) ∧ (decode cX4_seesFrom 40 = .ok (.ior, 1))) ∧ ((decode cX4_seesFrom 41 = .ok (.istore_n 3, 1)) ∧ (decode cX4_seesFrom 42 = .ok (.iinc 4 1, 3)))) ∧ (((decode cX4_seesFrom 45 = .ok (.goto (-40), 3)) ∧ (decode cX4_seesFrom 48 = .ok (.iload_n 3, 1))) ∧ ((decode cX4_seesFrom 49 = .ok (.ireturn, 1)) ∧ (decode cX4_seenBy 0 = .ok (.iconst 0, 1)))))) := by decide +kernel
theorem dX4_seesFrom_25 : decode cX4_seesFrom 25 = .ok (.aload_n 0, 1) := dbc_74.1.1.1.1
theorem dX4_seesFrom_26 : decode cX4_seesFrom 26 = .ok (.iload_n 1, 1) := dbc_74.1.1.1.2
theorem dX4_seesFrom_27 : decode cX4_seesFrom 27 = .ok (.iload 4, 2) := dbc_74.1.1.2.1
theorem dX4_seesFrom_29 : decode cX4_seesFrom 29 = .ok (.invokevirtual 96, 3) := dbc_74.1.1.2.2
theorem dX4_seesFrom_32 : decode cX4_seesFrom 32 = .ok (.if_icmp .gt 10, 3) := dbc_74.1.2.1.1
theorem dX4_seesFrom_35 : decode cX4_seesFrom 35 = .ok (.iload_n 3, 1) := dbc_74.1.2.1.2
theorem dX4_seesFrom_36 : decode cX4_seesFrom 36 = .ok (.iconst 1, 1) := dbc_74.1.2.2.1
theorem dX4_seesFrom_37 : decode cX4_seesFrom 37 = .ok (.iload 4, 2) := dbc_74.1.2.2.2
theorem dX4_seesFrom_39 : decode cX4_seesFrom 39 = .ok (.ishl, 1) := dbc_74.2.1.1.1
theorem dX4_seesFrom_40 : decode cX4_seesFrom 40 = .ok (.ior, 1) := dbc_74.2.1.1.2
theorem dX4_seesFrom_41 : decode cX4_seesFrom 41 = .ok (.istore_n 3, 1) := dbc_74.2.1.2.1
theorem dX4_seesFrom_42 : decode cX4_seesFrom 42 = .ok (.iinc 4 1, 3) := dbc_74.2.1.2.2
theorem dX4_seesFrom_45 : decode cX4_seesFrom 45 = .ok (.goto (-40), 3) := dbc_74.2.2.1.1
theorem dX4_seesFrom_48 : decode cX4_seesFrom 48 = .ok (.iload_n 3, 1) := dbc_74.2.2.1.2
theorem dX4_seesFrom_49 : decode cX4_seesFrom 49 = .ok (.ireturn, 1) := dbc_74.2.2.2.1
theorem dX4_seenBy_0 : decode cX4_seenBy 0 = .ok (.iconst 0, 1) := dbc_74.2.2.2.2
theorem dbc_75 : (((((decode cX4_seenBy 1 = .ok (.istore_n 2, 1)) ∧ (decode cX4_seenBy 2 = .ok (.iconst 0, 1))) ∧ ((decode cX4_seenBy 3 = .ok (.istore_n 3, 1)) ∧ (decode cX4_seenBy 4 = .ok (.iload_n 3, 1)))) ∧ (((decode cX4_seenBy 5 = .ok (.aload_n 0, 1)) ∧ (decode cX4_seenBy 6 = .ok (.getfield 52, 3))) ∧ ((decode cX4_seenBy 9 = .ok (.if_icmp .ge 39, 3)) ∧ (decode cX4_seenBy 12 = .ok (.aload_n 0, 1))))) ∧ ((((decode cX4_seenBy 13 = .ok (.getfield 21, 3)) ∧ (decode cX4_seenBy 16 = .ok (.iload_n 3, 1))) ∧ ((decode cX4_seenBy 17 = .ok (.iaload, 1)) ∧ (decode cX4_seenBy 18 = .ok (.aload_n 0, 1)))) ∧ (((decode cX4_seenBy 19 = .ok (.getfield 18, 3)) ∧ (decode cX4_seenBy 22 = .ok (.iload_n 1, 1))) ∧ ((decode cX4_seenBy 23 = .ok (.iaload, 1)) ∧ (decode cX4_seenBy 24 = .ok (.invokestatic 93, 3)))))) := by decide +kernel
theorem dX4_seenBy_1 : decode cX4_seenBy 1 = .ok (.istore_n 2, 1) := dbc_75.1.1.1.1
theorem dX4_seenBy_2 : decode cX4_seenBy 2 = .ok (.iconst 0, 1) := dbc_75.1.1.1.2
theorem dX4_seenBy_3 : decode cX4_seenBy 3 = .ok (.istore_n 3, 1) := dbc_75.1.1.2.1
theorem dX4_seenBy_4 : decode cX4_seenBy 4 = .ok (.iload_n 3, 1) := dbc_75.1.1.2.2
theorem dX4_seenBy_5 : decode cX4_seenBy 5 = .ok (.aload_n 0, 1) := dbc_75.1.2.1.1
theorem dX4_seenBy_6 : decode cX4_seenBy 6 = .ok (.getfield 52, 3) := dbc_75.1.2.1.2
theorem dX4_seenBy_9 : decode cX4_seenBy 9 = .ok (.if_icmp .ge 39, 3) := dbc_75.1.2.2.1
theorem dX4_seenBy_12 : decode cX4_seenBy 12 = .ok (.aload_n 0, 1) := dbc_75.1.2.2.2
theorem dX4_seenBy_13 : decode cX4_seenBy 13 = .ok (.getfield 21, 3) := dbc_75.2.1.1.1
theorem dX4_seenBy_16 : decode cX4_seenBy 16 = .ok (.iload_n 3, 1) := dbc_75.2.1.1.2
theorem dX4_seenBy_17 : decode cX4_seenBy 17 = .ok (.iaload, 1) := dbc_75.2.1.2.1
theorem dX4_seenBy_18 : decode cX4_seenBy 18 = .ok (.aload_n 0, 1) := dbc_75.2.1.2.2
theorem dX4_seenBy_19 : decode cX4_seenBy 19 = .ok (.getfield 18, 3) := dbc_75.2.2.1.1
theorem dX4_seenBy_22 : decode cX4_seenBy 22 = .ok (.iload_n 1, 1) := dbc_75.2.2.1.2
theorem dX4_seenBy_23 : decode cX4_seenBy 23 = .ok (.iaload, 1) := dbc_75.2.2.2.1
theorem dX4_seenBy_24 : decode cX4_seenBy 24 = .ok (.invokestatic 93, 3) := dbc_75.2.2.2.2
theorem dbc_76 : (((((decode cX4_seenBy 27 = .ok (.aload_n 0, 1)) ∧ (decode cX4_seenBy 28 = .ok (.iload_n 3, 1))) ∧ ((decode cX4_seenBy 29 = .ok (.iload_n 1, 1)) ∧ (decode cX4_seenBy 30 = .ok (.invokevirtual 96, 3)))) ∧ (((decode cX4_seenBy 33 = .ok (.if_icmp .gt 9, 3)) ∧ (decode cX4_seenBy 36 = .ok (.iload_n 2, 1))) ∧ ((decode cX4_seenBy 37 = .ok (.iconst 1, 1)) ∧ (decode cX4_seenBy 38 = .ok (.iload_n 3, 1))))) ∧ ((((decode cX4_seenBy 39 = .ok (.ishl, 1)) ∧ (decode cX4_seenBy 40 = .ok (.ior, 1))) ∧ ((decode cX4_seenBy 41 = .ok (.istore_n 2, 1)) ∧ (decode cX4_seenBy 42 = .ok (.iinc 3 1, 3)))) ∧ (((decode cX4_seenBy 45 = .ok (.goto (-41), 3)) ∧ (decode cX4_seenBy 48 = .ok (.iload_n 2, 1))) ∧ ((decode cX4_seenBy 49 = .ok (.ireturn, 1)) ∧ (decode cX4_placeBehind 0 = .ok (.aload_n 0, 1)))))) := by decide +kernel
theorem dX4_seenBy_27 : decode cX4_seenBy 27 = .ok (.aload_n 0, 1) := dbc_76.1.1.1.1
theorem dX4_seenBy_28 : decode cX4_seenBy 28 = .ok (.iload_n 3, 1) := dbc_76.1.1.1.2
theorem dX4_seenBy_29 : decode cX4_seenBy 29 = .ok (.iload_n 1, 1) := dbc_76.1.1.2.1
theorem dX4_seenBy_30 : decode cX4_seenBy 30 = .ok (.invokevirtual 96, 3) := dbc_76.1.1.2.2
theorem dX4_seenBy_33 : decode cX4_seenBy 33 = .ok (.if_icmp .gt 9, 3) := dbc_76.1.2.1.1
theorem dX4_seenBy_36 : decode cX4_seenBy 36 = .ok (.iload_n 2, 1) := dbc_76.1.2.1.2
theorem dX4_seenBy_37 : decode cX4_seenBy 37 = .ok (.iconst 1, 1) := dbc_76.1.2.2.1
theorem dX4_seenBy_38 : decode cX4_seenBy 38 = .ok (.iload_n 3, 1) := dbc_76.1.2.2.2
theorem dX4_seenBy_39 : decode cX4_seenBy 39 = .ok (.ishl, 1) := dbc_76.2.1.1.1
theorem dX4_seenBy_40 : decode cX4_seenBy 40 = .ok (.ior, 1) := dbc_76.2.1.1.2
theorem dX4_seenBy_41 : decode cX4_seenBy 41 = .ok (.istore_n 2, 1) := dbc_76.2.1.2.1
theorem dX4_seenBy_42 : decode cX4_seenBy 42 = .ok (.iinc 3 1, 3) := dbc_76.2.1.2.2
theorem dX4_seenBy_45 : decode cX4_seenBy 45 = .ok (.goto (-41), 3) := dbc_76.2.2.1.1
theorem dX4_seenBy_48 : decode cX4_seenBy 48 = .ok (.iload_n 2, 1) := dbc_76.2.2.1.2
theorem dX4_seenBy_49 : decode cX4_seenBy 49 = .ok (.ireturn, 1) := dbc_76.2.2.2.1
theorem dX4_placeBehind_0 : decode cX4_placeBehind 0 = .ok (.aload_n 0, 1) := dbc_76.2.2.2.2
theorem dbc_77 : (((((decode cX4_placeBehind 1 = .ok (.getfield 21, 3)) ∧ (decode cX4_placeBehind 4 = .ok (.iload_n 1, 1))) ∧ ((decode cX4_placeBehind 5 = .ok (.iaload, 1)) ∧ (decode cX4_placeBehind 6 = .ok (.istore_n 3, 1)))) ∧ (((decode cX4_placeBehind 7 = .ok (.iconst 1, 1)) ∧ (decode cX4_placeBehind 8 = .ok (.istore 4, 2))) ∧ ((decode cX4_placeBehind 10 = .ok (.iload 4, 2)) ∧ (decode cX4_placeBehind 12 = .ok (.iload_n 2, 1))))) ∧ ((((decode cX4_placeBehind 13 = .ok (.if_icmp .gt 30, 3)) ∧ (decode cX4_placeBehind 16 = .ok (.iload_n 3, 1))) ∧ ((decode cX4_placeBehind 17 = .ok (.aload_n 0, 1)) ∧ (decode cX4_placeBehind 18 = .ok (.getfield 24, 3)))) ∧ (((decode cX4_placeBehind 21 = .ok (.iload_n 1, 1)) ∧ (decode cX4_placeBehind 22 = .ok (.iaload, 1))) ∧ ((decode cX4_placeBehind 23 = .ok (.if_icmp .eq 20, 3)) ∧ (decode cX4_placeBehind 26 = .ok (.iload_n 3, 1)))))) := by decide +kernel
theorem dX4_placeBehind_1 : decode cX4_placeBehind 1 = .ok (.getfield 21, 3) := dbc_77.1.1.1.1
theorem dX4_placeBehind_4 : decode cX4_placeBehind 4 = .ok (.iload_n 1, 1) := dbc_77.1.1.1.2
theorem dX4_placeBehind_5 : decode cX4_placeBehind 5 = .ok (.iaload, 1) := dbc_77.1.1.2.1
theorem dX4_placeBehind_6 : decode cX4_placeBehind 6 = .ok (.istore_n 3, 1) := dbc_77.1.1.2.2
theorem dX4_placeBehind_7 : decode cX4_placeBehind 7 = .ok (.iconst 1, 1) := dbc_77.1.2.1.1
theorem dX4_placeBehind_8 : decode cX4_placeBehind 8 = .ok (.istore 4, 2) := dbc_77.1.2.1.2
theorem dX4_placeBehind_10 : decode cX4_placeBehind 10 = .ok (.iload 4, 2) := dbc_77.1.2.2.1
theorem dX4_placeBehind_12 : decode cX4_placeBehind 12 = .ok (.iload_n 2, 1) := dbc_77.1.2.2.2
theorem dX4_placeBehind_13 : decode cX4_placeBehind 13 = .ok (.if_icmp .gt 30, 3) := dbc_77.2.1.1.1
theorem dX4_placeBehind_16 : decode cX4_placeBehind 16 = .ok (.iload_n 3, 1) := dbc_77.2.1.1.2
theorem dX4_placeBehind_17 : decode cX4_placeBehind 17 = .ok (.aload_n 0, 1) := dbc_77.2.1.2.1
theorem dX4_placeBehind_18 : decode cX4_placeBehind 18 = .ok (.getfield 24, 3) := dbc_77.2.1.2.2
theorem dX4_placeBehind_21 : decode cX4_placeBehind 21 = .ok (.iload_n 1, 1) := dbc_77.2.2.1.1
theorem dX4_placeBehind_22 : decode cX4_placeBehind 22 = .ok (.iaload, 1) := dbc_77.2.2.1.2
theorem dX4_placeBehind_23 : decode cX4_placeBehind 23 = .ok (.if_icmp .eq 20, 3) := dbc_77.2.2.2.1
theorem dX4_placeBehind_26 : decode cX4_placeBehind 26 = .ok (.iload_n 3, 1) := dbc_77.2.2.2.2
theorem dbc_78 : (((((decode cX4_placeBehind 27 = .ok (.aload_n 0, 1)) ∧ (decode cX4_placeBehind 28 = .ok (.getfield 24, 3))) ∧ ((decode cX4_placeBehind 31 = .ok (.iload_n 1, 1)) ∧ (decode cX4_placeBehind 32 = .ok (.iaload, 1)))) ∧ (((decode cX4_placeBehind 33 = .ok (.invokestatic 99, 3)) ∧ (decode cX4_placeBehind 36 = .ok (.istore_n 3, 1))) ∧ ((decode cX4_placeBehind 37 = .ok (.iinc 4 1, 3)) ∧ (decode cX4_placeBehind 40 = .ok (.goto (-30), 3))))) ∧ ((((decode cX4_placeBehind 43 = .ok (.iload_n 3, 1)) ∧ (decode cX4_placeBehind 44 = .ok (.ireturn, 1))) ∧ ((decode cX4_firstSighting 0 = .ok (.aload_n 0, 1)) ∧ (decode cX4_firstSighting 1 = .ok (.iload_n 1, 1)))) ∧ (((decode cX4_firstSighting 2 = .ok (.iload_n 2, 1)) ∧ (decode cX4_firstSighting 3 = .ok (.invokevirtual 96, 3))) ∧ ((decode cX4_firstSighting 6 = .ok (.istore 4, 2)) ∧ (decode cX4_firstSighting 8 = .ok (.iload 4, 2)))))) := by decide +kernel
theorem dX4_placeBehind_27 : decode cX4_placeBehind 27 = .ok (.aload_n 0, 1) := dbc_78.1.1.1.1
theorem dX4_placeBehind_28 : decode cX4_placeBehind 28 = .ok (.getfield 24, 3) := dbc_78.1.1.1.2
theorem dX4_placeBehind_31 : decode cX4_placeBehind 31 = .ok (.iload_n 1, 1) := dbc_78.1.1.2.1
theorem dX4_placeBehind_32 : decode cX4_placeBehind 32 = .ok (.iaload, 1) := dbc_78.1.1.2.2
theorem dX4_placeBehind_33 : decode cX4_placeBehind 33 = .ok (.invokestatic 99, 3) := dbc_78.1.2.1.1
theorem dX4_placeBehind_36 : decode cX4_placeBehind 36 = .ok (.istore_n 3, 1) := dbc_78.1.2.1.2
theorem dX4_placeBehind_37 : decode cX4_placeBehind 37 = .ok (.iinc 4 1, 3) := dbc_78.1.2.2.1
theorem dX4_placeBehind_40 : decode cX4_placeBehind 40 = .ok (.goto (-30), 3) := dbc_78.1.2.2.2
theorem dX4_placeBehind_43 : decode cX4_placeBehind 43 = .ok (.iload_n 3, 1) := dbc_78.2.1.1.1
theorem dX4_placeBehind_44 : decode cX4_placeBehind 44 = .ok (.ireturn, 1) := dbc_78.2.1.1.2
theorem dX4_firstSighting_0 : decode cX4_firstSighting 0 = .ok (.aload_n 0, 1) := dbc_78.2.1.2.1
theorem dX4_firstSighting_1 : decode cX4_firstSighting 1 = .ok (.iload_n 1, 1) := dbc_78.2.1.2.2
theorem dX4_firstSighting_2 : decode cX4_firstSighting 2 = .ok (.iload_n 2, 1) := dbc_78.2.2.1.1
theorem dX4_firstSighting_3 : decode cX4_firstSighting 3 = .ok (.invokevirtual 96, 3) := dbc_78.2.2.1.2
theorem dX4_firstSighting_6 : decode cX4_firstSighting 6 = .ok (.istore 4, 2) := dbc_78.2.2.2.1
theorem dX4_firstSighting_8 : decode cX4_firstSighting 8 = .ok (.iload 4, 2) := dbc_78.2.2.2.2
theorem dbc_79 : (((((decode cX4_firstSighting 10 = .ok (.ifCond .ge 6, 3)) ∧ (decode cX4_firstSighting 13 = .ok (.bipush (-9), 2))) ∧ ((decode cX4_firstSighting 15 = .ok (.ireturn, 1)) ∧ (decode cX4_firstSighting 16 = .ok (.aload_n 0, 1)))) ∧ (((decode cX4_firstSighting 17 = .ok (.getfield 21, 3)) ∧ (decode cX4_firstSighting 20 = .ok (.iload_n 1, 1))) ∧ ((decode cX4_firstSighting 21 = .ok (.iaload, 1)) ∧ (decode cX4_firstSighting 22 = .ok (.istore 5, 2))))) ∧ ((((decode cX4_firstSighting 24 = .ok (.iconst 1, 1)) ∧ (decode cX4_firstSighting 25 = .ok (.istore 6, 2))) ∧ ((decode cX4_firstSighting 27 = .ok (.iload 6, 2)) ∧ (decode cX4_firstSighting 29 = .ok (.iload_n 3, 1)))) ∧ (((decode cX4_firstSighting 30 = .ok (.if_icmp .gt 55, 3)) ∧ (decode cX4_firstSighting 33 = .ok (.iload 5, 2))) ∧ ((decode cX4_firstSighting 35 = .ok (.aload_n 0, 1)) ∧ (decode cX4_firstSighting 36 = .ok (.getfield 24, 3)))))) := by decide +kernel
theorem dX4_firstSighting_10 : decode cX4_firstSighting 10 = .ok (.ifCond .ge 6, 3) := dbc_79.1.1.1.1
theorem dX4_firstSighting_13 : decode cX4_firstSighting 13 = .ok (.bipush (-9), 2) := dbc_79.1.1.1.2
theorem dX4_firstSighting_15 : decode cX4_firstSighting 15 = .ok (.ireturn, 1) := dbc_79.1.1.2.1
theorem dX4_firstSighting_16 : decode cX4_firstSighting 16 = .ok (.aload_n 0, 1) := dbc_79.1.1.2.2
theorem dX4_firstSighting_17 : decode cX4_firstSighting 17 = .ok (.getfield 21, 3) := dbc_79.1.2.1.1
theorem dX4_firstSighting_20 : decode cX4_firstSighting 20 = .ok (.iload_n 1, 1) := dbc_79.1.2.1.2
theorem dX4_firstSighting_21 : decode cX4_firstSighting 21 = .ok (.iaload, 1) := dbc_79.1.2.2.1
theorem dX4_firstSighting_22 : decode cX4_firstSighting 22 = .ok (.istore 5, 2) := dbc_79.1.2.2.2
theorem dX4_firstSighting_24 : decode cX4_firstSighting 24 = .ok (.iconst 1, 1) := dbc_79.2.1.1.1
theorem dX4_firstSighting_25 : decode cX4_firstSighting 25 = .ok (.istore 6, 2) := dbc_79.2.1.1.2
theorem dX4_firstSighting_27 : decode cX4_firstSighting 27 = .ok (.iload 6, 2) := dbc_79.2.1.2.1
theorem dX4_firstSighting_29 : decode cX4_firstSighting 29 = .ok (.iload_n 3, 1) := dbc_79.2.1.2.2
theorem dX4_firstSighting_30 : decode cX4_firstSighting 30 = .ok (.if_icmp .gt 55, 3) := dbc_79.2.2.1.1
theorem dX4_firstSighting_33 : decode cX4_firstSighting 33 = .ok (.iload 5, 2) := dbc_79.2.2.1.2
theorem dX4_firstSighting_35 : decode cX4_firstSighting 35 = .ok (.aload_n 0, 1) := dbc_79.2.2.2.1
theorem dX4_firstSighting_36 : decode cX4_firstSighting 36 = .ok (.getfield 24, 3) := dbc_79.2.2.2.2
theorem dbc_80 : (((((decode cX4_firstSighting 39 = .ok (.iload_n 1, 1)) ∧ (decode cX4_firstSighting 40 = .ok (.iaload, 1))) ∧ ((decode cX4_firstSighting 41 = .ok (.invokestatic 99, 3)) ∧ (decode cX4_firstSighting 44 = .ok (.istore 5, 2)))) ∧ (((decode cX4_firstSighting 46 = .ok (.iload 5, 2)) ∧ (decode cX4_firstSighting 48 = .ok (.aload_n 0, 1))) ∧ ((decode cX4_firstSighting 49 = .ok (.getfield 18, 3)) ∧ (decode cX4_firstSighting 52 = .ok (.iload_n 2, 1))))) ∧ ((((decode cX4_firstSighting 53 = .ok (.iaload, 1)) ∧ (decode cX4_firstSighting 54 = .ok (.invokestatic 93, 3))) ∧ ((decode cX4_firstSighting 57 = .ok (.iload 4, 2)) ∧ (decode cX4_firstSighting 59 = .ok (.if_icmp .gt 6, 3)))) ∧ (((decode cX4_firstSighting 62 = .ok (.iload 6, 2)) ∧ (decode cX4_firstSighting 64 = .ok (.ireturn, 1))) ∧ ((decode cX4_firstSighting 65 = .ok (.iload 5, 2)) ∧ (decode cX4_firstSighting 67 = .ok (.aload_n 0, 1)))))) := by decide +kernel
theorem dX4_firstSighting_39 : decode cX4_firstSighting 39 = .ok (.iload_n 1, 1) := dbc_80.1.1.1.1
theorem dX4_firstSighting_40 : decode cX4_firstSighting 40 = .ok (.iaload, 1) := dbc_80.1.1.1.2
theorem dX4_firstSighting_41 : decode cX4_firstSighting 41 = .ok (.invokestatic 99, 3) := dbc_80.1.1.2.1
theorem dX4_firstSighting_44 : decode cX4_firstSighting 44 = .ok (.istore 5, 2) := dbc_80.1.1.2.2
theorem dX4_firstSighting_46 : decode cX4_firstSighting 46 = .ok (.iload 5, 2) := dbc_80.1.2.1.1
theorem dX4_firstSighting_48 : decode cX4_firstSighting 48 = .ok (.aload_n 0, 1) := dbc_80.1.2.1.2
theorem dX4_firstSighting_49 : decode cX4_firstSighting 49 = .ok (.getfield 18, 3) := dbc_80.1.2.2.1
theorem dX4_firstSighting_52 : decode cX4_firstSighting 52 = .ok (.iload_n 2, 1) := dbc_80.1.2.2.2
theorem dX4_firstSighting_53 : decode cX4_firstSighting 53 = .ok (.iaload, 1) := dbc_80.2.1.1.1
theorem dX4_firstSighting_54 : decode cX4_firstSighting 54 = .ok (.invokestatic 93, 3) := dbc_80.2.1.1.2
theorem dX4_firstSighting_57 : decode cX4_firstSighting 57 = .ok (.iload 4, 2) := dbc_80.2.1.2.1
theorem dX4_firstSighting_59 : decode cX4_firstSighting 59 = .ok (.if_icmp .gt 6, 3) := dbc_80.2.1.2.2
theorem dX4_firstSighting_62 : decode cX4_firstSighting 62 = .ok (.iload 6, 2) := dbc_80.2.2.1.1
theorem dX4_firstSighting_64 : decode cX4_firstSighting 64 = .ok (.ireturn, 1) := dbc_80.2.2.1.2
theorem dX4_firstSighting_65 : decode cX4_firstSighting 65 = .ok (.iload 5, 2) := dbc_80.2.2.2.1
theorem dX4_firstSighting_67 : decode cX4_firstSighting 67 = .ok (.aload_n 0, 1) := dbc_80.2.2.2.2
theorem dbc_81 : (((((decode cX4_firstSighting 68 = .ok (.getfield 24, 3)) ∧ (decode cX4_firstSighting 71 = .ok (.iload_n 1, 1))) ∧ ((decode cX4_firstSighting 72 = .ok (.iaload, 1)) ∧ (decode cX4_firstSighting 73 = .ok (.if_icmp .ne 6, 3)))) ∧ (((decode cX4_firstSighting 76 = .ok (.bipush (-9), 2)) ∧ (decode cX4_firstSighting 78 = .ok (.ireturn, 1))) ∧ ((decode cX4_firstSighting 79 = .ok (.iinc 6 1, 3)) ∧ (decode cX4_firstSighting 82 = .ok (.goto (-55), 3))))) ∧ ((((decode cX4_firstSighting 85 = .ok (.bipush (-9), 2)) ∧ (decode cX4_firstSighting 87 = .ok (.ireturn, 1))) ∧ ((decode cX4_sightings 0 = .ok (.iconst 0, 1)) ∧ (decode cX4_sightings 1 = .ok (.istore 4, 2)))) ∧ (((decode cX4_sightings 3 = .ok (.iconst 1, 1)) ∧ (decode cX4_sightings 4 = .ok (.istore 5, 2))) ∧ ((decode cX4_sightings 6 = .ok (.iload 5, 2)) ∧ (decode cX4_sightings 8 = .ok (.iload_n 3, 1)))))) := by decide +kernel
theorem dX4_firstSighting_68 : decode cX4_firstSighting 68 = .ok (.getfield 24, 3) := dbc_81.1.1.1.1
theorem dX4_firstSighting_71 : decode cX4_firstSighting 71 = .ok (.iload_n 1, 1) := dbc_81.1.1.1.2
theorem dX4_firstSighting_72 : decode cX4_firstSighting 72 = .ok (.iaload, 1) := dbc_81.1.1.2.1
theorem dX4_firstSighting_73 : decode cX4_firstSighting 73 = .ok (.if_icmp .ne 6, 3) := dbc_81.1.1.2.2
theorem dX4_firstSighting_76 : decode cX4_firstSighting 76 = .ok (.bipush (-9), 2) := dbc_81.1.2.1.1
theorem dX4_firstSighting_78 : decode cX4_firstSighting 78 = .ok (.ireturn, 1) := dbc_81.1.2.1.2
theorem dX4_firstSighting_79 : decode cX4_firstSighting 79 = .ok (.iinc 6 1, 3) := dbc_81.1.2.2.1
theorem dX4_firstSighting_82 : decode cX4_firstSighting 82 = .ok (.goto (-55), 3) := dbc_81.1.2.2.2
theorem dX4_firstSighting_85 : decode cX4_firstSighting 85 = .ok (.bipush (-9), 2) := dbc_81.2.1.1.1
theorem dX4_firstSighting_87 : decode cX4_firstSighting 87 = .ok (.ireturn, 1) := dbc_81.2.1.1.2
theorem dX4_sightings_0 : decode cX4_sightings 0 = .ok (.iconst 0, 1) := dbc_81.2.1.2.1
theorem dX4_sightings_1 : decode cX4_sightings 1 = .ok (.istore 4, 2) := dbc_81.2.1.2.2
theorem dX4_sightings_3 : decode cX4_sightings 3 = .ok (.iconst 1, 1) := dbc_81.2.2.1.1
theorem dX4_sightings_4 : decode cX4_sightings 4 = .ok (.istore 5, 2) := dbc_81.2.2.1.2
theorem dX4_sightings_6 : decode cX4_sightings 6 = .ok (.iload 5, 2) := dbc_81.2.2.2.1
theorem dX4_sightings_8 : decode cX4_sightings 8 = .ok (.iload_n 3, 1) := dbc_81.2.2.2.2
theorem dbc_82 : (((((decode cX4_sightings 9 = .ok (.if_icmp .gt 37, 3)) ∧ (decode cX4_sightings 12 = .ok (.aload_n 0, 1))) ∧ ((decode cX4_sightings 13 = .ok (.iload_n 1, 1)) ∧ (decode cX4_sightings 14 = .ok (.iload 5, 2)))) ∧ (((decode cX4_sightings 16 = .ok (.invokevirtual 80, 3)) ∧ (decode cX4_sightings 19 = .ok (.aload_n 0, 1))) ∧ ((decode cX4_sightings 20 = .ok (.getfield 18, 3)) ∧ (decode cX4_sightings 23 = .ok (.iload_n 2, 1))))) ∧ ((((decode cX4_sightings 24 = .ok (.iaload, 1)) ∧ (decode cX4_sightings 25 = .ok (.invokestatic 93, 3))) ∧ ((decode cX4_sightings 28 = .ok (.aload_n 0, 1)) ∧ (decode cX4_sightings 29 = .ok (.iload_n 1, 1)))) ∧ (((decode cX4_sightings 30 = .ok (.iload_n 2, 1)) ∧ (decode cX4_sightings 31 = .ok (.invokevirtual 96, 3))) ∧ ((decode cX4_sightings 34 = .ok (.if_icmp .gt 6, 3)) ∧ (decode cX4_sightings 37 = .ok (.iinc 4 1, 3)))))) := by decide +kernel
theorem dX4_sightings_9 : decode cX4_sightings 9 = .ok (.if_icmp .gt 37, 3) := dbc_82.1.1.1.1
theorem dX4_sightings_12 : decode cX4_sightings 12 = .ok (.aload_n 0, 1) := dbc_82.1.1.1.2
theorem dX4_sightings_13 : decode cX4_sightings 13 = .ok (.iload_n 1, 1) := dbc_82.1.1.2.1
theorem dX4_sightings_14 : decode cX4_sightings 14 = .ok (.iload 5, 2) := dbc_82.1.1.2.2
theorem dX4_sightings_16 : decode cX4_sightings 16 = .ok (.invokevirtual 80, 3) := dbc_82.1.2.1.1
theorem dX4_sightings_19 : decode cX4_sightings 19 = .ok (.aload_n 0, 1) := dbc_82.1.2.1.2
theorem dX4_sightings_20 : decode cX4_sightings 20 = .ok (.getfield 18, 3) := dbc_82.1.2.2.1
theorem dX4_sightings_23 : decode cX4_sightings 23 = .ok (.iload_n 2, 1) := dbc_82.1.2.2.2
theorem dX4_sightings_24 : decode cX4_sightings 24 = .ok (.iaload, 1) := dbc_82.2.1.1.1
theorem dX4_sightings_25 : decode cX4_sightings 25 = .ok (.invokestatic 93, 3) := dbc_82.2.1.1.2
theorem dX4_sightings_28 : decode cX4_sightings 28 = .ok (.aload_n 0, 1) := dbc_82.2.1.2.1
theorem dX4_sightings_29 : decode cX4_sightings 29 = .ok (.iload_n 1, 1) := dbc_82.2.1.2.2
theorem dX4_sightings_30 : decode cX4_sightings 30 = .ok (.iload_n 2, 1) := dbc_82.2.2.1.1
theorem dX4_sightings_31 : decode cX4_sightings 31 = .ok (.invokevirtual 96, 3) := dbc_82.2.2.1.2
theorem dX4_sightings_34 : decode cX4_sightings 34 = .ok (.if_icmp .gt 6, 3) := dbc_82.2.2.2.1
theorem dX4_sightings_37 : decode cX4_sightings 37 = .ok (.iinc 4 1, 3) := dbc_82.2.2.2.2
theorem dbc_83 : (((((decode cX4_sightings 40 = .ok (.iinc 5 1, 3)) ∧ (decode cX4_sightings 43 = .ok (.goto (-37), 3))) ∧ ((decode cX4_sightings 46 = .ok (.iload 4, 2)) ∧ (decode cX4_sightings 48 = .ok (.ireturn, 1)))) ∧ (((decode cX4_ageBehind 0 = .ok (.aload_n 0, 1)) ∧ (decode cX4_ageBehind 1 = .ok (.getfield 30, 3))) ∧ ((decode cX4_ageBehind 4 = .ok (.iload_n 1, 1)) ∧ (decode cX4_ageBehind 5 = .ok (.bipush 8, 2))))) ∧ ((((decode cX4_ageBehind 7 = .ok (.imul, 1)) ∧ (decode cX4_ageBehind 8 = .ok (.iload_n 2, 1))) ∧ ((decode cX4_ageBehind 9 = .ok (.iadd, 1)) ∧ (decode cX4_ageBehind 10 = .ok (.iaload, 1)))) ∧ (((decode cX4_ageBehind 11 = .ok (.istore 4, 2)) ∧ (decode cX4_ageBehind 13 = .ok (.iload 4, 2))) ∧ ((decode cX4_ageBehind 15 = .ok (.iconst (-1), 1)) ∧ (decode cX4_ageBehind 16 = .ok (.if_icmp .eq 13, 3)))))) := by decide +kernel
theorem dX4_sightings_40 : decode cX4_sightings 40 = .ok (.iinc 5 1, 3) := dbc_83.1.1.1.1
theorem dX4_sightings_43 : decode cX4_sightings 43 = .ok (.goto (-37), 3) := dbc_83.1.1.1.2
theorem dX4_sightings_46 : decode cX4_sightings 46 = .ok (.iload 4, 2) := dbc_83.1.1.2.1
theorem dX4_sightings_48 : decode cX4_sightings 48 = .ok (.ireturn, 1) := dbc_83.1.1.2.2
theorem dX4_ageBehind_0 : decode cX4_ageBehind 0 = .ok (.aload_n 0, 1) := dbc_83.1.2.1.1
theorem dX4_ageBehind_1 : decode cX4_ageBehind 1 = .ok (.getfield 30, 3) := dbc_83.1.2.1.2
theorem dX4_ageBehind_4 : decode cX4_ageBehind 4 = .ok (.iload_n 1, 1) := dbc_83.1.2.2.1
theorem dX4_ageBehind_5 : decode cX4_ageBehind 5 = .ok (.bipush 8, 2) := dbc_83.1.2.2.2
theorem dX4_ageBehind_7 : decode cX4_ageBehind 7 = .ok (.imul, 1) := dbc_83.2.1.1.1
theorem dX4_ageBehind_8 : decode cX4_ageBehind 8 = .ok (.iload_n 2, 1) := dbc_83.2.1.1.2
theorem dX4_ageBehind_9 : decode cX4_ageBehind 9 = .ok (.iadd, 1) := dbc_83.2.1.2.1
theorem dX4_ageBehind_10 : decode cX4_ageBehind 10 = .ok (.iaload, 1) := dbc_83.2.1.2.2
theorem dX4_ageBehind_11 : decode cX4_ageBehind 11 = .ok (.istore 4, 2) := dbc_83.2.2.1.1
theorem dX4_ageBehind_13 : decode cX4_ageBehind 13 = .ok (.iload 4, 2) := dbc_83.2.2.1.2
theorem dX4_ageBehind_15 : decode cX4_ageBehind 15 = .ok (.iconst (-1), 1) := dbc_83.2.2.2.1
theorem dX4_ageBehind_16 : decode cX4_ageBehind 16 = .ok (.if_icmp .eq 13, 3) := dbc_83.2.2.2.2
theorem dbc_84 : (((((decode cX4_ageBehind 19 = .ok (.bipush 99, 2)) ∧ (decode cX4_ageBehind 21 = .ok (.iload 4, 2))) ∧ ((decode cX4_ageBehind 23 = .ok (.iload_n 3, 1)) ∧ (decode cX4_ageBehind 24 = .ok (.iadd, 1)))) ∧ (((decode cX4_ageBehind 25 = .ok (.invokestatic 102, 3)) ∧ (decode cX4_ageBehind 28 = .ok (.ireturn, 1))) ∧ ((decode cX4_ageBehind 29 = .ok (.aload_n 0, 1)) ∧ (decode cX4_ageBehind 30 = .ok (.iload_n 1, 1))))) ∧ ((((decode cX4_ageBehind 31 = .ok (.iload_n 2, 1)) ∧ (decode cX4_ageBehind 32 = .ok (.iload_n 3, 1))) ∧ ((decode cX4_ageBehind 33 = .ok (.invokevirtual 107, 3)) ∧ (decode cX4_ageBehind 36 = .ok (.istore 5, 2)))) ∧ (((decode cX4_ageBehind 38 = .ok (.iload 5, 2)) ∧ (decode cX4_ageBehind 40 = .ok (.ifCond .le 10, 3))) ∧ ((decode cX4_ageBehind 43 = .ok (.iload_n 3, 1)) ∧ (decode cX4_ageBehind 44 = .ok (.iload 5, 2)))))) := by decide +kernel
theorem dX4_ageBehind_19 : decode cX4_ageBehind 19 = .ok (.bipush 99, 2) := dbc_84.1.1.1.1
theorem dX4_ageBehind_21 : decode cX4_ageBehind 21 = .ok (.iload 4, 2) := dbc_84.1.1.1.2
theorem dX4_ageBehind_23 : decode cX4_ageBehind 23 = .ok (.iload_n 3, 1) := dbc_84.1.1.2.1
theorem dX4_ageBehind_24 : decode cX4_ageBehind 24 = .ok (.iadd, 1) := dbc_84.1.1.2.2
theorem dX4_ageBehind_25 : decode cX4_ageBehind 25 = .ok (.invokestatic 102, 3) := dbc_84.1.2.1.1
theorem dX4_ageBehind_28 : decode cX4_ageBehind 28 = .ok (.ireturn, 1) := dbc_84.1.2.1.2
theorem dX4_ageBehind_29 : decode cX4_ageBehind 29 = .ok (.aload_n 0, 1) := dbc_84.1.2.2.1
theorem dX4_ageBehind_30 : decode cX4_ageBehind 30 = .ok (.iload_n 1, 1) := dbc_84.1.2.2.2
theorem dX4_ageBehind_31 : decode cX4_ageBehind 31 = .ok (.iload_n 2, 1) := dbc_84.2.1.1.1
theorem dX4_ageBehind_32 : decode cX4_ageBehind 32 = .ok (.iload_n 3, 1) := dbc_84.2.1.1.2
theorem dX4_ageBehind_33 : decode cX4_ageBehind 33 = .ok (.invokevirtual 107, 3) := dbc_84.2.1.2.1
theorem dX4_ageBehind_36 : decode cX4_ageBehind 36 = .ok (.istore 5, 2) := dbc_84.2.1.2.2
theorem dX4_ageBehind_38 : decode cX4_ageBehind 38 = .ok (.iload 5, 2) := dbc_84.2.2.1.1
theorem dX4_ageBehind_40 : decode cX4_ageBehind 40 = .ok (.ifCond .le 10, 3) := dbc_84.2.2.1.2
theorem dX4_ageBehind_43 : decode cX4_ageBehind 43 = .ok (.iload_n 3, 1) := dbc_84.2.2.2.1
theorem dX4_ageBehind_44 : decode cX4_ageBehind 44 = .ok (.iload 5, 2) := dbc_84.2.2.2.2
theorem dbc_85 : (((((decode cX4_ageBehind 46 = .ok (.isub, 1)) ∧ (decode cX4_ageBehind 47 = .ok (.goto 4, 3))) ∧ ((decode cX4_ageBehind 50 = .ok (.iconst (-1), 1)) ∧ (decode cX4_ageBehind 51 = .ok (.ireturn, 1)))) ∧ (((decode cX4_minutesBehind 0 = .ok (.aload_n 0, 1)) ∧ (decode cX4_minutesBehind 1 = .ok (.iload_n 1, 1))) ∧ ((decode cX4_minutesBehind 2 = .ok (.iload_n 2, 1)) ∧ (decode cX4_minutesBehind 3 = .ok (.iload_n 3, 1))))) ∧ ((((decode cX4_minutesBehind 4 = .ok (.invokevirtual 76, 3)) ∧ (decode cX4_minutesBehind 7 = .ok (.istore 4, 2))) ∧ ((decode cX4_minutesBehind 9 = .ok (.iload 4, 2)) ∧ (decode cX4_minutesBehind 11 = .ok (.iconst (-1), 1)))) ∧ (((decode cX4_minutesBehind 12 = .ok (.if_icmp .ne 7, 3)) ∧ (decode cX4_minutesBehind 15 = .ok (.iconst 0, 1))) ∧ ((decode cX4_minutesBehind 16 = .ok (.goto 10, 3)) ∧ (decode cX4_minutesBehind 19 = .ok (.aload_n 0, 1)))))) := by decide +kernel
theorem dX4_ageBehind_46 : decode cX4_ageBehind 46 = .ok (.isub, 1) := dbc_85.1.1.1.1
theorem dX4_ageBehind_47 : decode cX4_ageBehind 47 = .ok (.goto 4, 3) := dbc_85.1.1.1.2
theorem dX4_ageBehind_50 : decode cX4_ageBehind 50 = .ok (.iconst (-1), 1) := dbc_85.1.1.2.1
theorem dX4_ageBehind_51 : decode cX4_ageBehind 51 = .ok (.ireturn, 1) := dbc_85.1.1.2.2
theorem dX4_minutesBehind_0 : decode cX4_minutesBehind 0 = .ok (.aload_n 0, 1) := dbc_85.1.2.1.1
theorem dX4_minutesBehind_1 : decode cX4_minutesBehind 1 = .ok (.iload_n 1, 1) := dbc_85.1.2.1.2
theorem dX4_minutesBehind_2 : decode cX4_minutesBehind 2 = .ok (.iload_n 2, 1) := dbc_85.1.2.2.1
theorem dX4_minutesBehind_3 : decode cX4_minutesBehind 3 = .ok (.iload_n 3, 1) := dbc_85.1.2.2.2
theorem dX4_minutesBehind_4 : decode cX4_minutesBehind 4 = .ok (.invokevirtual 76, 3) := dbc_85.2.1.1.1
theorem dX4_minutesBehind_7 : decode cX4_minutesBehind 7 = .ok (.istore 4, 2) := dbc_85.2.1.1.2
theorem dX4_minutesBehind_9 : decode cX4_minutesBehind 9 = .ok (.iload 4, 2) := dbc_85.2.1.2.1
theorem dX4_minutesBehind_11 : decode cX4_minutesBehind 11 = .ok (.iconst (-1), 1) := dbc_85.2.1.2.2
theorem dX4_minutesBehind_12 : decode cX4_minutesBehind 12 = .ok (.if_icmp .ne 7, 3) := dbc_85.2.2.1.1
theorem dX4_minutesBehind_15 : decode cX4_minutesBehind 15 = .ok (.iconst 0, 1) := dbc_85.2.2.1.2
theorem dX4_minutesBehind_16 : decode cX4_minutesBehind 16 = .ok (.goto 10, 3) := dbc_85.2.2.2.1
theorem dX4_minutesBehind_19 : decode cX4_minutesBehind 19 = .ok (.aload_n 0, 1) := dbc_85.2.2.2.2
theorem dbc_86 : (((((decode cX4_minutesBehind 20 = .ok (.iload_n 2, 1)) ∧ (decode cX4_minutesBehind 21 = .ok (.iload 4, 2))) ∧ ((decode cX4_minutesBehind 23 = .ok (.invokevirtual 110, 3)) ∧ (decode cX4_minutesBehind 26 = .ok (.ireturn, 1)))) ∧ (((decode cX4_priceBehind 0 = .ok (.iconst 0, 1)) ∧ (decode cX4_priceBehind 1 = .ok (.istore_n 3, 1))) ∧ ((decode cX4_priceBehind 2 = .ok (.iconst 0, 1)) ∧ (decode cX4_priceBehind 3 = .ok (.istore 4, 2))))) ∧ ((((decode cX4_priceBehind 5 = .ok (.iload 4, 2)) ∧ (decode cX4_priceBehind 7 = .ok (.aload_n 0, 1))) ∧ ((decode cX4_priceBehind 8 = .ok (.getfield 39, 3)) ∧ (decode cX4_priceBehind 11 = .ok (.if_icmp .ge 20, 3)))) ∧ (((decode cX4_priceBehind 14 = .ok (.iload_n 3, 1)) ∧ (decode cX4_priceBehind 15 = .ok (.aload_n 0, 1))) ∧ ((decode cX4_priceBehind 16 = .ok (.iload_n 1, 1)) ∧ (decode cX4_priceBehind 17 = .ok (.iload 4, 2)))))) := by decide +kernel
theorem dX4_minutesBehind_20 : decode cX4_minutesBehind 20 = .ok (.iload_n 2, 1) := dbc_86.1.1.1.1
theorem dX4_minutesBehind_21 : decode cX4_minutesBehind 21 = .ok (.iload 4, 2) := dbc_86.1.1.1.2
theorem dX4_minutesBehind_23 : decode cX4_minutesBehind 23 = .ok (.invokevirtual 110, 3) := dbc_86.1.1.2.1
theorem dX4_minutesBehind_26 : decode cX4_minutesBehind 26 = .ok (.ireturn, 1) := dbc_86.1.1.2.2
theorem dX4_priceBehind_0 : decode cX4_priceBehind 0 = .ok (.iconst 0, 1) := dbc_86.1.2.1.1
theorem dX4_priceBehind_1 : decode cX4_priceBehind 1 = .ok (.istore_n 3, 1) := dbc_86.1.2.1.2
theorem dX4_priceBehind_2 : decode cX4_priceBehind 2 = .ok (.iconst 0, 1) := dbc_86.1.2.2.1
theorem dX4_priceBehind_3 : decode cX4_priceBehind 3 = .ok (.istore 4, 2) := dbc_86.1.2.2.2
theorem dX4_priceBehind_5 : decode cX4_priceBehind 5 = .ok (.iload 4, 2) := dbc_86.2.1.1.1
theorem dX4_priceBehind_7 : decode cX4_priceBehind 7 = .ok (.aload_n 0, 1) := dbc_86.2.1.1.2
theorem dX4_priceBehind_8 : decode cX4_priceBehind 8 = .ok (.getfield 39, 3) := dbc_86.2.1.2.1
theorem dX4_priceBehind_11 : decode cX4_priceBehind 11 = .ok (.if_icmp .ge 20, 3) := dbc_86.2.1.2.2
theorem dX4_priceBehind_14 : decode cX4_priceBehind 14 = .ok (.iload_n 3, 1) := dbc_86.2.2.1.1
theorem dX4_priceBehind_15 : decode cX4_priceBehind 15 = .ok (.aload_n 0, 1) := dbc_86.2.2.1.2
theorem dX4_priceBehind_16 : decode cX4_priceBehind 16 = .ok (.iload_n 1, 1) := dbc_86.2.2.2.1
theorem dX4_priceBehind_17 : decode cX4_priceBehind 17 = .ok (.iload 4, 2) := dbc_86.2.2.2.2
theorem dbc_87 : (((((decode cX4_priceBehind 19 = .ok (.iload_n 2, 1)) ∧ (decode cX4_priceBehind 20 = .ok (.invokevirtual 113, 3))) ∧ ((decode cX4_priceBehind 23 = .ok (.iadd, 1)) ∧ (decode cX4_priceBehind 24 = .ok (.istore_n 3, 1)))) ∧ (((decode cX4_priceBehind 25 = .ok (.iinc 4 1, 3)) ∧ (decode cX4_priceBehind 28 = .ok (.goto (-23), 3))) ∧ ((decode cX4_priceBehind 31 = .ok (.iload_n 3, 1)) ∧ (decode cX4_priceBehind 32 = .ok (.ireturn, 1))))) ∧ ((((decode cX4_pricesBehind 0 = .ok (.iconst 0, 1)) ∧ (decode cX4_pricesBehind 1 = .ok (.istore_n 2, 1))) ∧ ((decode cX4_pricesBehind 2 = .ok (.iconst 0, 1)) ∧ (decode cX4_pricesBehind 3 = .ok (.istore_n 3, 1)))) ∧ (((decode cX4_pricesBehind 4 = .ok (.iload_n 3, 1)) ∧ (decode cX4_pricesBehind 5 = .ok (.aload_n 0, 1))) ∧ ((decode cX4_pricesBehind 6 = .ok (.getfield 52, 3)) ∧ (decode cX4_pricesBehind 9 = .ok (.if_icmp .ge 38, 3)))))) := by decide +kernel
theorem dX4_priceBehind_19 : decode cX4_priceBehind 19 = .ok (.iload_n 2, 1) := dbc_87.1.1.1.1
theorem dX4_priceBehind_20 : decode cX4_priceBehind 20 = .ok (.invokevirtual 113, 3) := dbc_87.1.1.1.2
theorem dX4_priceBehind_23 : decode cX4_priceBehind 23 = .ok (.iadd, 1) := dbc_87.1.1.2.1
theorem dX4_priceBehind_24 : decode cX4_priceBehind 24 = .ok (.istore_n 3, 1) := dbc_87.1.1.2.2
theorem dX4_priceBehind_25 : decode cX4_priceBehind 25 = .ok (.iinc 4 1, 3) := dbc_87.1.2.1.1
theorem dX4_priceBehind_28 : decode cX4_priceBehind 28 = .ok (.goto (-23), 3) := dbc_87.1.2.1.2
theorem dX4_priceBehind_31 : decode cX4_priceBehind 31 = .ok (.iload_n 3, 1) := dbc_87.1.2.2.1
theorem dX4_priceBehind_32 : decode cX4_priceBehind 32 = .ok (.ireturn, 1) := dbc_87.1.2.2.2
theorem dX4_pricesBehind_0 : decode cX4_pricesBehind 0 = .ok (.iconst 0, 1) := dbc_87.2.1.1.1
theorem dX4_pricesBehind_1 : decode cX4_pricesBehind 1 = .ok (.istore_n 2, 1) := dbc_87.2.1.1.2
theorem dX4_pricesBehind_2 : decode cX4_pricesBehind 2 = .ok (.iconst 0, 1) := dbc_87.2.1.2.1
theorem dX4_pricesBehind_3 : decode cX4_pricesBehind 3 = .ok (.istore_n 3, 1) := dbc_87.2.1.2.2
theorem dX4_pricesBehind_4 : decode cX4_pricesBehind 4 = .ok (.iload_n 3, 1) := dbc_87.2.2.1.1
theorem dX4_pricesBehind_5 : decode cX4_pricesBehind 5 = .ok (.aload_n 0, 1) := dbc_87.2.2.1.2
theorem dX4_pricesBehind_6 : decode cX4_pricesBehind 6 = .ok (.getfield 52, 3) := dbc_87.2.2.2.1
theorem dX4_pricesBehind_9 : decode cX4_pricesBehind 9 = .ok (.if_icmp .ge 38, 3) := dbc_87.2.2.2.2
theorem dbc_88 : (((((decode cX4_pricesBehind 12 = .ok (.iconst 0, 1)) ∧ (decode cX4_pricesBehind 13 = .ok (.istore 4, 2))) ∧ ((decode cX4_pricesBehind 15 = .ok (.iload 4, 2)) ∧ (decode cX4_pricesBehind 17 = .ok (.aload_n 0, 1)))) ∧ (((decode cX4_pricesBehind 18 = .ok (.getfield 39, 3)) ∧ (decode cX4_pricesBehind 21 = .ok (.if_icmp .ge 20, 3))) ∧ ((decode cX4_pricesBehind 24 = .ok (.iload_n 2, 1)) ∧ (decode cX4_pricesBehind 25 = .ok (.aload_n 0, 1))))) ∧ ((((decode cX4_pricesBehind 26 = .ok (.iload_n 3, 1)) ∧ (decode cX4_pricesBehind 27 = .ok (.iload 4, 2))) ∧ ((decode cX4_pricesBehind 29 = .ok (.iload_n 1, 1)) ∧ (decode cX4_pricesBehind 30 = .ok (.invokevirtual 113, 3)))) ∧ (((decode cX4_pricesBehind 33 = .ok (.iadd, 1)) ∧ (decode cX4_pricesBehind 34 = .ok (.istore_n 2, 1))) ∧ ((decode cX4_pricesBehind 35 = .ok (.iinc 4 1, 3)) ∧ (decode cX4_pricesBehind 38 = .ok (.goto (-23), 3)))))) := by decide +kernel
theorem dX4_pricesBehind_12 : decode cX4_pricesBehind 12 = .ok (.iconst 0, 1) := dbc_88.1.1.1.1
theorem dX4_pricesBehind_13 : decode cX4_pricesBehind 13 = .ok (.istore 4, 2) := dbc_88.1.1.1.2
theorem dX4_pricesBehind_15 : decode cX4_pricesBehind 15 = .ok (.iload 4, 2) := dbc_88.1.1.2.1
theorem dX4_pricesBehind_17 : decode cX4_pricesBehind 17 = .ok (.aload_n 0, 1) := dbc_88.1.1.2.2
theorem dX4_pricesBehind_18 : decode cX4_pricesBehind 18 = .ok (.getfield 39, 3) := dbc_88.1.2.1.1
theorem dX4_pricesBehind_21 : decode cX4_pricesBehind 21 = .ok (.if_icmp .ge 20, 3) := dbc_88.1.2.1.2
theorem dX4_pricesBehind_24 : decode cX4_pricesBehind 24 = .ok (.iload_n 2, 1) := dbc_88.1.2.2.1
theorem dX4_pricesBehind_25 : decode cX4_pricesBehind 25 = .ok (.aload_n 0, 1) := dbc_88.1.2.2.2
theorem dX4_pricesBehind_26 : decode cX4_pricesBehind 26 = .ok (.iload_n 3, 1) := dbc_88.2.1.1.1
theorem dX4_pricesBehind_27 : decode cX4_pricesBehind 27 = .ok (.iload 4, 2) := dbc_88.2.1.1.2
theorem dX4_pricesBehind_29 : decode cX4_pricesBehind 29 = .ok (.iload_n 1, 1) := dbc_88.2.1.2.1
theorem dX4_pricesBehind_30 : decode cX4_pricesBehind 30 = .ok (.invokevirtual 113, 3) := dbc_88.2.1.2.2
theorem dX4_pricesBehind_33 : decode cX4_pricesBehind 33 = .ok (.iadd, 1) := dbc_88.2.2.1.1
theorem dX4_pricesBehind_34 : decode cX4_pricesBehind 34 = .ok (.istore_n 2, 1) := dbc_88.2.2.1.2
theorem dX4_pricesBehind_35 : decode cX4_pricesBehind 35 = .ok (.iinc 4 1, 3) := dbc_88.2.2.2.1
theorem dX4_pricesBehind_38 : decode cX4_pricesBehind 38 = .ok (.goto (-23), 3) := dbc_88.2.2.2.2
theorem dbc_89 : (((((decode cX4_pricesBehind 41 = .ok (.iinc 3 1, 3)) ∧ (decode cX4_pricesBehind 44 = .ok (.goto (-40), 3))) ∧ ((decode cX4_pricesBehind 47 = .ok (.iload_n 2, 1)) ∧ (decode cX4_pricesBehind 48 = .ok (.ireturn, 1)))) ∧ (((decode cX4_owesBehind 0 = .ok (.iconst 0, 1)) ∧ (decode cX4_owesBehind 1 = .ok (.istore_n 3, 1))) ∧ ((decode cX4_owesBehind 2 = .ok (.iconst 0, 1)) ∧ (decode cX4_owesBehind 3 = .ok (.istore 4, 2))))) ∧ ((((decode cX4_owesBehind 5 = .ok (.iload 4, 2)) ∧ (decode cX4_owesBehind 7 = .ok (.aload_n 0, 1))) ∧ ((decode cX4_owesBehind 8 = .ok (.getfield 39, 3)) ∧ (decode cX4_owesBehind 11 = .ok (.if_icmp .ge 28, 3)))) ∧ (((decode cX4_owesBehind 14 = .ok (.aload_n 0, 1)) ∧ (decode cX4_owesBehind 15 = .ok (.iload_n 1, 1))) ∧ ((decode cX4_owesBehind 16 = .ok (.iload 4, 2)) ∧ (decode cX4_owesBehind 18 = .ok (.iload_n 2, 1)))))) := by decide +kernel
theorem dX4_pricesBehind_41 : decode cX4_pricesBehind 41 = .ok (.iinc 3 1, 3) := dbc_89.1.1.1.1
theorem dX4_pricesBehind_44 : decode cX4_pricesBehind 44 = .ok (.goto (-40), 3) := dbc_89.1.1.1.2
theorem dX4_pricesBehind_47 : decode cX4_pricesBehind 47 = .ok (.iload_n 2, 1) := dbc_89.1.1.2.1
theorem dX4_pricesBehind_48 : decode cX4_pricesBehind 48 = .ok (.ireturn, 1) := dbc_89.1.1.2.2
theorem dX4_owesBehind_0 : decode cX4_owesBehind 0 = .ok (.iconst 0, 1) := dbc_89.1.2.1.1
theorem dX4_owesBehind_1 : decode cX4_owesBehind 1 = .ok (.istore_n 3, 1) := dbc_89.1.2.1.2
theorem dX4_owesBehind_2 : decode cX4_owesBehind 2 = .ok (.iconst 0, 1) := dbc_89.1.2.2.1
theorem dX4_owesBehind_3 : decode cX4_owesBehind 3 = .ok (.istore 4, 2) := dbc_89.1.2.2.2
theorem dX4_owesBehind_5 : decode cX4_owesBehind 5 = .ok (.iload 4, 2) := dbc_89.2.1.1.1
theorem dX4_owesBehind_7 : decode cX4_owesBehind 7 = .ok (.aload_n 0, 1) := dbc_89.2.1.1.2
theorem dX4_owesBehind_8 : decode cX4_owesBehind 8 = .ok (.getfield 39, 3) := dbc_89.2.1.2.1
theorem dX4_owesBehind_11 : decode cX4_owesBehind 11 = .ok (.if_icmp .ge 28, 3) := dbc_89.2.1.2.2
theorem dX4_owesBehind_14 : decode cX4_owesBehind 14 = .ok (.aload_n 0, 1) := dbc_89.2.2.1.1
theorem dX4_owesBehind_15 : decode cX4_owesBehind 15 = .ok (.iload_n 1, 1) := dbc_89.2.2.1.2
theorem dX4_owesBehind_16 : decode cX4_owesBehind 16 = .ok (.iload 4, 2) := dbc_89.2.2.2.1
theorem dX4_owesBehind_18 : decode cX4_owesBehind 18 = .ok (.iload_n 2, 1) := dbc_89.2.2.2.2
theorem dbc_90 : (((((decode cX4_owesBehind 19 = .ok (.invokevirtual 76, 3)) ∧ (decode cX4_owesBehind 22 = .ok (.iconst (-1), 1))) ∧ ((decode cX4_owesBehind 23 = .ok (.if_icmp .eq 10, 3)) ∧ (decode cX4_owesBehind 26 = .ok (.iload_n 3, 1)))) ∧ (((decode cX4_owesBehind 27 = .ok (.iconst 1, 1)) ∧ (decode cX4_owesBehind 28 = .ok (.iload 4, 2))) ∧ ((decode cX4_owesBehind 30 = .ok (.ishl, 1)) ∧ (decode cX4_owesBehind 31 = .ok (.ior, 1))))) ∧ ((((decode cX4_owesBehind 32 = .ok (.istore_n 3, 1)) ∧ (decode cX4_owesBehind 33 = .ok (.iinc 4 1, 3))) ∧ ((decode cX4_owesBehind 36 = .ok (.goto (-31), 3)) ∧ (decode cX4_owesBehind 39 = .ok (.iload_n 3, 1)))) ∧ (((decode cX4_owesBehind 40 = .ok (.ireturn, 1)) ∧ (decode cX4_owersBehind 0 = .ok (.iconst 0, 1))) ∧ ((decode cX4_owersBehind 1 = .ok (.istore_n 3, 1)) ∧ (decode cX4_owersBehind 2 = .ok (.iconst 0, 1)))))) := by decide +kernel
theorem dX4_owesBehind_19 : decode cX4_owesBehind 19 = .ok (.invokevirtual 76, 3) := dbc_90.1.1.1.1
theorem dX4_owesBehind_22 : decode cX4_owesBehind 22 = .ok (.iconst (-1), 1) := dbc_90.1.1.1.2
theorem dX4_owesBehind_23 : decode cX4_owesBehind 23 = .ok (.if_icmp .eq 10, 3) := dbc_90.1.1.2.1
theorem dX4_owesBehind_26 : decode cX4_owesBehind 26 = .ok (.iload_n 3, 1) := dbc_90.1.1.2.2
theorem dX4_owesBehind_27 : decode cX4_owesBehind 27 = .ok (.iconst 1, 1) := dbc_90.1.2.1.1
theorem dX4_owesBehind_28 : decode cX4_owesBehind 28 = .ok (.iload 4, 2) := dbc_90.1.2.1.2
theorem dX4_owesBehind_30 : decode cX4_owesBehind 30 = .ok (.ishl, 1) := dbc_90.1.2.2.1
theorem dX4_owesBehind_31 : decode cX4_owesBehind 31 = .ok (.ior, 1) := dbc_90.1.2.2.2
theorem dX4_owesBehind_32 : decode cX4_owesBehind 32 = .ok (.istore_n 3, 1) := dbc_90.2.1.1.1
theorem dX4_owesBehind_33 : decode cX4_owesBehind 33 = .ok (.iinc 4 1, 3) := dbc_90.2.1.1.2
theorem dX4_owesBehind_36 : decode cX4_owesBehind 36 = .ok (.goto (-31), 3) := dbc_90.2.1.2.1
theorem dX4_owesBehind_39 : decode cX4_owesBehind 39 = .ok (.iload_n 3, 1) := dbc_90.2.1.2.2
theorem dX4_owesBehind_40 : decode cX4_owesBehind 40 = .ok (.ireturn, 1) := dbc_90.2.2.1.1
theorem dX4_owersBehind_0 : decode cX4_owersBehind 0 = .ok (.iconst 0, 1) := dbc_90.2.2.1.2
theorem dX4_owersBehind_1 : decode cX4_owersBehind 1 = .ok (.istore_n 3, 1) := dbc_90.2.2.2.1
theorem dX4_owersBehind_2 : decode cX4_owersBehind 2 = .ok (.iconst 0, 1) := dbc_90.2.2.2.2
theorem dbc_91 : (((((decode cX4_owersBehind 3 = .ok (.istore 4, 2)) ∧ (decode cX4_owersBehind 5 = .ok (.iload 4, 2))) ∧ ((decode cX4_owersBehind 7 = .ok (.aload_n 0, 1)) ∧ (decode cX4_owersBehind 8 = .ok (.getfield 52, 3)))) ∧ (((decode cX4_owersBehind 11 = .ok (.if_icmp .ge 28, 3)) ∧ (decode cX4_owersBehind 14 = .ok (.aload_n 0, 1))) ∧ ((decode cX4_owersBehind 15 = .ok (.iload 4, 2)) ∧ (decode cX4_owersBehind 17 = .ok (.iload_n 1, 1))))) ∧ ((((decode cX4_owersBehind 18 = .ok (.iload_n 2, 1)) ∧ (decode cX4_owersBehind 19 = .ok (.invokevirtual 76, 3))) ∧ ((decode cX4_owersBehind 22 = .ok (.iconst (-1), 1)) ∧ (decode cX4_owersBehind 23 = .ok (.if_icmp .eq 10, 3)))) ∧ (((decode cX4_owersBehind 26 = .ok (.iload_n 3, 1)) ∧ (decode cX4_owersBehind 27 = .ok (.iconst 1, 1))) ∧ ((decode cX4_owersBehind 28 = .ok (.iload 4, 2)) ∧ (decode cX4_owersBehind 30 = .ok (.ishl, 1)))))) := by decide +kernel
theorem dX4_owersBehind_3 : decode cX4_owersBehind 3 = .ok (.istore 4, 2) := dbc_91.1.1.1.1
theorem dX4_owersBehind_5 : decode cX4_owersBehind 5 = .ok (.iload 4, 2) := dbc_91.1.1.1.2
theorem dX4_owersBehind_7 : decode cX4_owersBehind 7 = .ok (.aload_n 0, 1) := dbc_91.1.1.2.1
theorem dX4_owersBehind_8 : decode cX4_owersBehind 8 = .ok (.getfield 52, 3) := dbc_91.1.1.2.2
theorem dX4_owersBehind_11 : decode cX4_owersBehind 11 = .ok (.if_icmp .ge 28, 3) := dbc_91.1.2.1.1
theorem dX4_owersBehind_14 : decode cX4_owersBehind 14 = .ok (.aload_n 0, 1) := dbc_91.1.2.1.2
theorem dX4_owersBehind_15 : decode cX4_owersBehind 15 = .ok (.iload 4, 2) := dbc_91.1.2.2.1
theorem dX4_owersBehind_17 : decode cX4_owersBehind 17 = .ok (.iload_n 1, 1) := dbc_91.1.2.2.2
theorem dX4_owersBehind_18 : decode cX4_owersBehind 18 = .ok (.iload_n 2, 1) := dbc_91.2.1.1.1
theorem dX4_owersBehind_19 : decode cX4_owersBehind 19 = .ok (.invokevirtual 76, 3) := dbc_91.2.1.1.2
theorem dX4_owersBehind_22 : decode cX4_owersBehind 22 = .ok (.iconst (-1), 1) := dbc_91.2.1.2.1
theorem dX4_owersBehind_23 : decode cX4_owersBehind 23 = .ok (.if_icmp .eq 10, 3) := dbc_91.2.1.2.2
theorem dX4_owersBehind_26 : decode cX4_owersBehind 26 = .ok (.iload_n 3, 1) := dbc_91.2.2.1.1
theorem dX4_owersBehind_27 : decode cX4_owersBehind 27 = .ok (.iconst 1, 1) := dbc_91.2.2.1.2
theorem dX4_owersBehind_28 : decode cX4_owersBehind 28 = .ok (.iload 4, 2) := dbc_91.2.2.2.1
theorem dX4_owersBehind_30 : decode cX4_owersBehind 30 = .ok (.ishl, 1) := dbc_91.2.2.2.2
theorem dbc_92 : (((((decode cX4_owersBehind 31 = .ok (.ior, 1)) ∧ (decode cX4_owersBehind 32 = .ok (.istore_n 3, 1))) ∧ ((decode cX4_owersBehind 33 = .ok (.iinc 4 1, 3)) ∧ (decode cX4_owersBehind 36 = .ok (.goto (-31), 3)))) ∧ (((decode cX4_owersBehind 39 = .ok (.iload_n 3, 1)) ∧ (decode cX4_owersBehind 40 = .ok (.ireturn, 1))) ∧ ((decode cX4_debtsBehind 0 = .ok (.iconst 0, 1)) ∧ (decode cX4_debtsBehind 1 = .ok (.istore_n 2, 1))))) ∧ ((((decode cX4_debtsBehind 2 = .ok (.iconst 0, 1)) ∧ (decode cX4_debtsBehind 3 = .ok (.istore_n 3, 1))) ∧ ((decode cX4_debtsBehind 4 = .ok (.iload_n 3, 1)) ∧ (decode cX4_debtsBehind 5 = .ok (.aload_n 0, 1)))) ∧ (((decode cX4_debtsBehind 6 = .ok (.getfield 52, 3)) ∧ (decode cX4_debtsBehind 9 = .ok (.if_icmp .ge 21, 3))) ∧ ((decode cX4_debtsBehind 12 = .ok (.iload_n 2, 1)) ∧ (decode cX4_debtsBehind 13 = .ok (.aload_n 0, 1)))))) := by decide +kernel
theorem dX4_owersBehind_31 : decode cX4_owersBehind 31 = .ok (.ior, 1) := dbc_92.1.1.1.1
theorem dX4_owersBehind_32 : decode cX4_owersBehind 32 = .ok (.istore_n 3, 1) := dbc_92.1.1.1.2
theorem dX4_owersBehind_33 : decode cX4_owersBehind 33 = .ok (.iinc 4 1, 3) := dbc_92.1.1.2.1
theorem dX4_owersBehind_36 : decode cX4_owersBehind 36 = .ok (.goto (-31), 3) := dbc_92.1.1.2.2
theorem dX4_owersBehind_39 : decode cX4_owersBehind 39 = .ok (.iload_n 3, 1) := dbc_92.1.2.1.1
theorem dX4_owersBehind_40 : decode cX4_owersBehind 40 = .ok (.ireturn, 1) := dbc_92.1.2.1.2
theorem dX4_debtsBehind_0 : decode cX4_debtsBehind 0 = .ok (.iconst 0, 1) := dbc_92.1.2.2.1
theorem dX4_debtsBehind_1 : decode cX4_debtsBehind 1 = .ok (.istore_n 2, 1) := dbc_92.1.2.2.2
theorem dX4_debtsBehind_2 : decode cX4_debtsBehind 2 = .ok (.iconst 0, 1) := dbc_92.2.1.1.1
theorem dX4_debtsBehind_3 : decode cX4_debtsBehind 3 = .ok (.istore_n 3, 1) := dbc_92.2.1.1.2
theorem dX4_debtsBehind_4 : decode cX4_debtsBehind 4 = .ok (.iload_n 3, 1) := dbc_92.2.1.2.1
theorem dX4_debtsBehind_5 : decode cX4_debtsBehind 5 = .ok (.aload_n 0, 1) := dbc_92.2.1.2.2
theorem dX4_debtsBehind_6 : decode cX4_debtsBehind 6 = .ok (.getfield 52, 3) := dbc_92.2.2.1.1
theorem dX4_debtsBehind_9 : decode cX4_debtsBehind 9 = .ok (.if_icmp .ge 21, 3) := dbc_92.2.2.1.2
theorem dX4_debtsBehind_12 : decode cX4_debtsBehind 12 = .ok (.iload_n 2, 1) := dbc_92.2.2.2.1
theorem dX4_debtsBehind_13 : decode cX4_debtsBehind 13 = .ok (.aload_n 0, 1) := dbc_92.2.2.2.2
theorem dbc_93 : (((((decode cX4_debtsBehind 14 = .ok (.iload_n 3, 1)) ∧ (decode cX4_debtsBehind 15 = .ok (.iload_n 1, 1))) ∧ ((decode cX4_debtsBehind 16 = .ok (.invokevirtual 116, 3)) ∧ (decode cX4_debtsBehind 19 = .ok (.invokestatic 119, 3)))) ∧ (((decode cX4_debtsBehind 22 = .ok (.iadd, 1)) ∧ (decode cX4_debtsBehind 23 = .ok (.istore_n 2, 1))) ∧ ((decode cX4_debtsBehind 24 = .ok (.iinc 3 1, 3)) ∧ (decode cX4_debtsBehind 27 = .ok (.goto (-23), 3))))) ∧ ((((decode cX4_debtsBehind 30 = .ok (.iload_n 2, 1)) ∧ (decode cX4_debtsBehind 31 = .ok (.ireturn, 1))) ∧ ((decode cX4_burden 0 = .ok (.iconst 0, 1)) ∧ (decode cX4_burden 1 = .ok (.istore_n 1, 1)))) ∧ (((decode cX4_burden 2 = .ok (.iconst 0, 1)) ∧ (decode cX4_burden 3 = .ok (.istore_n 2, 1))) ∧ ((decode cX4_burden 4 = .ok (.iload_n 2, 1)) ∧ (decode cX4_burden 5 = .ok (.aload_n 0, 1)))))) := by decide +kernel
theorem dX4_debtsBehind_14 : decode cX4_debtsBehind 14 = .ok (.iload_n 3, 1) := dbc_93.1.1.1.1
theorem dX4_debtsBehind_15 : decode cX4_debtsBehind 15 = .ok (.iload_n 1, 1) := dbc_93.1.1.1.2
theorem dX4_debtsBehind_16 : decode cX4_debtsBehind 16 = .ok (.invokevirtual 116, 3) := dbc_93.1.1.2.1
theorem dX4_debtsBehind_19 : decode cX4_debtsBehind 19 = .ok (.invokestatic 119, 3) := dbc_93.1.1.2.2
theorem dX4_debtsBehind_22 : decode cX4_debtsBehind 22 = .ok (.iadd, 1) := dbc_93.1.2.1.1
theorem dX4_debtsBehind_23 : decode cX4_debtsBehind 23 = .ok (.istore_n 2, 1) := dbc_93.1.2.1.2
theorem dX4_debtsBehind_24 : decode cX4_debtsBehind 24 = .ok (.iinc 3 1, 3) := dbc_93.1.2.2.1
theorem dX4_debtsBehind_27 : decode cX4_debtsBehind 27 = .ok (.goto (-23), 3) := dbc_93.1.2.2.2
theorem dX4_debtsBehind_30 : decode cX4_debtsBehind 30 = .ok (.iload_n 2, 1) := dbc_93.2.1.1.1
theorem dX4_debtsBehind_31 : decode cX4_debtsBehind 31 = .ok (.ireturn, 1) := dbc_93.2.1.1.2
theorem dX4_burden_0 : decode cX4_burden 0 = .ok (.iconst 0, 1) := dbc_93.2.1.2.1
theorem dX4_burden_1 : decode cX4_burden 1 = .ok (.istore_n 1, 1) := dbc_93.2.1.2.2
theorem dX4_burden_2 : decode cX4_burden 2 = .ok (.iconst 0, 1) := dbc_93.2.2.1.1
theorem dX4_burden_3 : decode cX4_burden 3 = .ok (.istore_n 2, 1) := dbc_93.2.2.1.2
theorem dX4_burden_4 : decode cX4_burden 4 = .ok (.iload_n 2, 1) := dbc_93.2.2.2.1
theorem dX4_burden_5 : decode cX4_burden 5 = .ok (.aload_n 0, 1) := dbc_93.2.2.2.2
theorem dbc_94 : (((((decode cX4_burden 6 = .ok (.getfield 52, 3)) ∧ (decode cX4_burden 9 = .ok (.if_icmp .ge 32, 3))) ∧ ((decode cX4_burden 12 = .ok (.aload_n 0, 1)) ∧ (decode cX4_burden 13 = .ok (.iload_n 2, 1)))) ∧ (((decode cX4_burden 14 = .ok (.iconst 0, 1)) ∧ (decode cX4_burden 15 = .ok (.invokevirtual 125, 3))) ∧ ((decode cX4_burden 18 = .ok (.istore_n 3, 1)) ∧ (decode cX4_burden 19 = .ok (.iload_n 1, 1))))) ∧ ((((decode cX4_burden 20 = .ok (.iload_n 3, 1)) ∧ (decode cX4_burden 21 = .ok (.bipush 30, 2))) ∧ ((decode cX4_burden 23 = .ok (.if_icmp .le 9, 3)) ∧ (decode cX4_burden 26 = .ok (.iconst 2, 1)))) ∧ (((decode cX4_burden 27 = .ok (.iload_n 3, 1)) ∧ (decode cX4_burden 28 = .ok (.imul, 1))) ∧ ((decode cX4_burden 29 = .ok (.goto 4, 3)) ∧ (decode cX4_burden 32 = .ok (.iload_n 3, 1)))))) := by decide +kernel
theorem dX4_burden_6 : decode cX4_burden 6 = .ok (.getfield 52, 3) := dbc_94.1.1.1.1
theorem dX4_burden_9 : decode cX4_burden 9 = .ok (.if_icmp .ge 32, 3) := dbc_94.1.1.1.2
theorem dX4_burden_12 : decode cX4_burden 12 = .ok (.aload_n 0, 1) := dbc_94.1.1.2.1
theorem dX4_burden_13 : decode cX4_burden 13 = .ok (.iload_n 2, 1) := dbc_94.1.1.2.2
theorem dX4_burden_14 : decode cX4_burden 14 = .ok (.iconst 0, 1) := dbc_94.1.2.1.1
theorem dX4_burden_15 : decode cX4_burden 15 = .ok (.invokevirtual 125, 3) := dbc_94.1.2.1.2
theorem dX4_burden_18 : decode cX4_burden 18 = .ok (.istore_n 3, 1) := dbc_94.1.2.2.1
theorem dX4_burden_19 : decode cX4_burden 19 = .ok (.iload_n 1, 1) := dbc_94.1.2.2.2
theorem dX4_burden_20 : decode cX4_burden 20 = .ok (.iload_n 3, 1) := dbc_94.2.1.1.1
theorem dX4_burden_21 : decode cX4_burden 21 = .ok (.bipush 30, 2) := dbc_94.2.1.1.2
theorem dX4_burden_23 : decode cX4_burden 23 = .ok (.if_icmp .le 9, 3) := dbc_94.2.1.2.1
theorem dX4_burden_26 : decode cX4_burden 26 = .ok (.iconst 2, 1) := dbc_94.2.1.2.2
theorem dX4_burden_27 : decode cX4_burden 27 = .ok (.iload_n 3, 1) := dbc_94.2.2.1.1
theorem dX4_burden_28 : decode cX4_burden 28 = .ok (.imul, 1) := dbc_94.2.2.1.2
theorem dX4_burden_29 : decode cX4_burden 29 = .ok (.goto 4, 3) := dbc_94.2.2.2.1
theorem dX4_burden_32 : decode cX4_burden 32 = .ok (.iload_n 3, 1) := dbc_94.2.2.2.2
theorem dbc_95 : (((((decode cX4_burden 33 = .ok (.iadd, 1)) ∧ (decode cX4_burden 34 = .ok (.istore_n 1, 1))) ∧ ((decode cX4_burden 35 = .ok (.iinc 2 1, 3)) ∧ (decode cX4_burden 38 = .ok (.goto (-34), 3)))) ∧ (((decode cX4_burden 41 = .ok (.iload_n 1, 1)) ∧ (decode cX4_burden 42 = .ok (.ireturn, 1))) ∧ ((decode cX4_highestAgeOf 0 = .ok (.iconst (-1), 1)) ∧ (decode cX4_highestAgeOf 1 = .ok (.istore_n 2, 1))))) ∧ ((((decode cX4_highestAgeOf 2 = .ok (.iconst 0, 1)) ∧ (decode cX4_highestAgeOf 3 = .ok (.istore_n 3, 1))) ∧ ((decode cX4_highestAgeOf 4 = .ok (.iload_n 3, 1)) ∧ (decode cX4_highestAgeOf 5 = .ok (.aload_n 0, 1)))) ∧ (((decode cX4_highestAgeOf 6 = .ok (.getfield 39, 3)) ∧ (decode cX4_highestAgeOf 9 = .ok (.if_icmp .ge 25, 3))) ∧ ((decode cX4_highestAgeOf 12 = .ok (.iload_n 2, 1)) ∧ (decode cX4_highestAgeOf 13 = .ok (.aload_n 0, 1)))))) := by decide +kernel
theorem dX4_burden_33 : decode cX4_burden 33 = .ok (.iadd, 1) := dbc_95.1.1.1.1
theorem dX4_burden_34 : decode cX4_burden 34 = .ok (.istore_n 1, 1) := dbc_95.1.1.1.2
theorem dX4_burden_35 : decode cX4_burden 35 = .ok (.iinc 2 1, 3) := dbc_95.1.1.2.1
theorem dX4_burden_38 : decode cX4_burden 38 = .ok (.goto (-34), 3) := dbc_95.1.1.2.2
theorem dX4_burden_41 : decode cX4_burden 41 = .ok (.iload_n 1, 1) := dbc_95.1.2.1.1
theorem dX4_burden_42 : decode cX4_burden 42 = .ok (.ireturn, 1) := dbc_95.1.2.1.2
theorem dX4_highestAgeOf_0 : decode cX4_highestAgeOf 0 = .ok (.iconst (-1), 1) := dbc_95.1.2.2.1
theorem dX4_highestAgeOf_1 : decode cX4_highestAgeOf 1 = .ok (.istore_n 2, 1) := dbc_95.1.2.2.2
theorem dX4_highestAgeOf_2 : decode cX4_highestAgeOf 2 = .ok (.iconst 0, 1) := dbc_95.2.1.1.1
theorem dX4_highestAgeOf_3 : decode cX4_highestAgeOf 3 = .ok (.istore_n 3, 1) := dbc_95.2.1.1.2
theorem dX4_highestAgeOf_4 : decode cX4_highestAgeOf 4 = .ok (.iload_n 3, 1) := dbc_95.2.1.2.1
theorem dX4_highestAgeOf_5 : decode cX4_highestAgeOf 5 = .ok (.aload_n 0, 1) := dbc_95.2.1.2.2
theorem dX4_highestAgeOf_6 : decode cX4_highestAgeOf 6 = .ok (.getfield 39, 3) := dbc_95.2.2.1.1
theorem dX4_highestAgeOf_9 : decode cX4_highestAgeOf 9 = .ok (.if_icmp .ge 25, 3) := dbc_95.2.2.1.2
theorem dX4_highestAgeOf_12 : decode cX4_highestAgeOf 12 = .ok (.iload_n 2, 1) := dbc_95.2.2.2.1
theorem dX4_highestAgeOf_13 : decode cX4_highestAgeOf 13 = .ok (.aload_n 0, 1) := dbc_95.2.2.2.2
theorem dbc_96 : (((((decode cX4_highestAgeOf 14 = .ok (.getfield 30, 3)) ∧ (decode cX4_highestAgeOf 17 = .ok (.iload_n 1, 1))) ∧ ((decode cX4_highestAgeOf 18 = .ok (.bipush 8, 2)) ∧ (decode cX4_highestAgeOf 20 = .ok (.imul, 1)))) ∧ (((decode cX4_highestAgeOf 21 = .ok (.iload_n 3, 1)) ∧ (decode cX4_highestAgeOf 22 = .ok (.iadd, 1))) ∧ ((decode cX4_highestAgeOf 23 = .ok (.iaload, 1)) ∧ (decode cX4_highestAgeOf 24 = .ok (.invokestatic 128, 3))))) ∧ ((((decode cX4_highestAgeOf 27 = .ok (.istore_n 2, 1)) ∧ (decode cX4_highestAgeOf 28 = .ok (.iinc 3 1, 3))) ∧ ((decode cX4_highestAgeOf 31 = .ok (.goto (-27), 3)) ∧ (decode cX4_highestAgeOf 34 = .ok (.iload_n 2, 1)))) ∧ (((decode cX4_highestAgeOf 35 = .ok (.ireturn, 1)) ∧ (decode cX5_init 0 = .ok (.aload_n 0, 1))) ∧ ((decode cX5_init 1 = .ok (.invokespecial 3, 3)) ∧ (decode cX5_init 4 = .ok (.aload_n 0, 1)))))) := by decide +kernel
theorem dX4_highestAgeOf_14 : decode cX4_highestAgeOf 14 = .ok (.getfield 30, 3) := dbc_96.1.1.1.1
theorem dX4_highestAgeOf_17 : decode cX4_highestAgeOf 17 = .ok (.iload_n 1, 1) := dbc_96.1.1.1.2
theorem dX4_highestAgeOf_18 : decode cX4_highestAgeOf 18 = .ok (.bipush 8, 2) := dbc_96.1.1.2.1
theorem dX4_highestAgeOf_20 : decode cX4_highestAgeOf 20 = .ok (.imul, 1) := dbc_96.1.1.2.2
theorem dX4_highestAgeOf_21 : decode cX4_highestAgeOf 21 = .ok (.iload_n 3, 1) := dbc_96.1.2.1.1
theorem dX4_highestAgeOf_22 : decode cX4_highestAgeOf 22 = .ok (.iadd, 1) := dbc_96.1.2.1.2
theorem dX4_highestAgeOf_23 : decode cX4_highestAgeOf 23 = .ok (.iaload, 1) := dbc_96.1.2.2.1
theorem dX4_highestAgeOf_24 : decode cX4_highestAgeOf 24 = .ok (.invokestatic 128, 3) := dbc_96.1.2.2.2
theorem dX4_highestAgeOf_27 : decode cX4_highestAgeOf 27 = .ok (.istore_n 2, 1) := dbc_96.2.1.1.1
theorem dX4_highestAgeOf_28 : decode cX4_highestAgeOf 28 = .ok (.iinc 3 1, 3) := dbc_96.2.1.1.2
theorem dX4_highestAgeOf_31 : decode cX4_highestAgeOf 31 = .ok (.goto (-27), 3) := dbc_96.2.1.2.1
theorem dX4_highestAgeOf_34 : decode cX4_highestAgeOf 34 = .ok (.iload_n 2, 1) := dbc_96.2.1.2.2
theorem dX4_highestAgeOf_35 : decode cX4_highestAgeOf 35 = .ok (.ireturn, 1) := dbc_96.2.2.1.1
theorem dX5_init_0 : decode cX5_init 0 = .ok (.aload_n 0, 1) := dbc_96.2.2.1.2
theorem dX5_init_1 : decode cX5_init 1 = .ok (.invokespecial 3, 3) := dbc_96.2.2.2.1
theorem dX5_init_4 : decode cX5_init 4 = .ok (.aload_n 0, 1) := dbc_96.2.2.2.2
theorem dbc_97 : (((((decode cX5_init 5 = .ok (.new 9, 3)) ∧ (decode cX5_init 8 = .ok (.dup, 1))) ∧ ((decode cX5_init 9 = .ok (.invokespecial 11, 3)) ∧ (decode cX5_init 12 = .ok (.putfield 12, 3)))) ∧ (((decode cX5_init 15 = .ok (.aload_n 0, 1)) ∧ (decode cX5_init 16 = .ok (.new 9, 3))) ∧ ((decode cX5_init 19 = .ok (.dup, 1)) ∧ (decode cX5_init 20 = .ok (.invokespecial 11, 3))))) ∧ ((((decode cX5_init 23 = .ok (.putfield 16, 3)) ∧ (decode cX5_init 26 = .ok (.aload_n 0, 1))) ∧ ((decode cX5_init 27 = .ok (.new 9, 3)) ∧ (decode cX5_init 30 = .ok (.dup, 1)))) ∧ (((decode cX5_init 31 = .ok (.invokespecial 11, 3)) ∧ (decode cX5_init 34 = .ok (.putfield 19, 3))) ∧ ((decode cX5_init 37 = .ok (.aload_n 0, 1)) ∧ (decode cX5_init 38 = .ok (.iconst 0, 1)))))) := by decide +kernel
theorem dX5_init_5 : decode cX5_init 5 = .ok (.new 9, 3) := dbc_97.1.1.1.1
theorem dX5_init_8 : decode cX5_init 8 = .ok (.dup, 1) := dbc_97.1.1.1.2
theorem dX5_init_9 : decode cX5_init 9 = .ok (.invokespecial 11, 3) := dbc_97.1.1.2.1
theorem dX5_init_12 : decode cX5_init 12 = .ok (.putfield 12, 3) := dbc_97.1.1.2.2
theorem dX5_init_15 : decode cX5_init 15 = .ok (.aload_n 0, 1) := dbc_97.1.2.1.1
theorem dX5_init_16 : decode cX5_init 16 = .ok (.new 9, 3) := dbc_97.1.2.1.2
theorem dX5_init_19 : decode cX5_init 19 = .ok (.dup, 1) := dbc_97.1.2.2.1
theorem dX5_init_20 : decode cX5_init 20 = .ok (.invokespecial 11, 3) := dbc_97.1.2.2.2
theorem dX5_init_23 : decode cX5_init 23 = .ok (.putfield 16, 3) := dbc_97.2.1.1.1
theorem dX5_init_26 : decode cX5_init 26 = .ok (.aload_n 0, 1) := dbc_97.2.1.1.2
theorem dX5_init_27 : decode cX5_init 27 = .ok (.new 9, 3) := dbc_97.2.1.2.1
theorem dX5_init_30 : decode cX5_init 30 = .ok (.dup, 1) := dbc_97.2.1.2.2
theorem dX5_init_31 : decode cX5_init 31 = .ok (.invokespecial 11, 3) := dbc_97.2.2.1.1
theorem dX5_init_34 : decode cX5_init 34 = .ok (.putfield 19, 3) := dbc_97.2.2.1.2
theorem dX5_init_37 : decode cX5_init 37 = .ok (.aload_n 0, 1) := dbc_97.2.2.2.1
theorem dX5_init_38 : decode cX5_init 38 = .ok (.iconst 0, 1) := dbc_97.2.2.2.2
theorem dbc_98 : (((((decode cX5_init 39 = .ok (.putfield 22, 3)) ∧ (decode cX5_init 42 = .ok (.aload_n 0, 1))) ∧ ((decode cX5_init 43 = .ok (.new 26, 3)) ∧ (decode cX5_init 46 = .ok (.dup, 1)))) ∧ (((decode cX5_init 47 = .ok (.invokespecial 28, 3)) ∧ (decode cX5_init 50 = .ok (.putfield 29, 3))) ∧ ((decode cX5_init 53 = .ok (.aload_n 0, 1)) ∧ (decode cX5_init 54 = .ok (.new 33, 3))))) ∧ ((((decode cX5_init 57 = .ok (.dup, 1)) ∧ (decode cX5_init 58 = .ok (.invokespecial 35, 3))) ∧ ((decode cX5_init 61 = .ok (.putfield 36, 3)) ∧ (decode cX5_init 64 = .ok (.aload_n 0, 1)))) ∧ (((decode cX5_init 65 = .ok (.new 40, 3)) ∧ (decode cX5_init 68 = .ok (.dup, 1))) ∧ ((decode cX5_init 69 = .ok (.invokespecial 42, 3)) ∧ (decode cX5_init 72 = .ok (.putfield 43, 3)))))) := by decide +kernel
theorem dX5_init_39 : decode cX5_init 39 = .ok (.putfield 22, 3) := dbc_98.1.1.1.1
theorem dX5_init_42 : decode cX5_init 42 = .ok (.aload_n 0, 1) := dbc_98.1.1.1.2
theorem dX5_init_43 : decode cX5_init 43 = .ok (.new 26, 3) := dbc_98.1.1.2.1
theorem dX5_init_46 : decode cX5_init 46 = .ok (.dup, 1) := dbc_98.1.1.2.2
theorem dX5_init_47 : decode cX5_init 47 = .ok (.invokespecial 28, 3) := dbc_98.1.2.1.1
theorem dX5_init_50 : decode cX5_init 50 = .ok (.putfield 29, 3) := dbc_98.1.2.1.2
theorem dX5_init_53 : decode cX5_init 53 = .ok (.aload_n 0, 1) := dbc_98.1.2.2.1
theorem dX5_init_54 : decode cX5_init 54 = .ok (.new 33, 3) := dbc_98.1.2.2.2
theorem dX5_init_57 : decode cX5_init 57 = .ok (.dup, 1) := dbc_98.2.1.1.1
theorem dX5_init_58 : decode cX5_init 58 = .ok (.invokespecial 35, 3) := dbc_98.2.1.1.2
theorem dX5_init_61 : decode cX5_init 61 = .ok (.putfield 36, 3) := dbc_98.2.1.2.1
theorem dX5_init_64 : decode cX5_init 64 = .ok (.aload_n 0, 1) := dbc_98.2.1.2.2
theorem dX5_init_65 : decode cX5_init 65 = .ok (.new 40, 3) := dbc_98.2.2.1.1
theorem dX5_init_68 : decode cX5_init 68 = .ok (.dup, 1) := dbc_98.2.2.1.2
theorem dX5_init_69 : decode cX5_init 69 = .ok (.invokespecial 42, 3) := dbc_98.2.2.2.1
theorem dX5_init_72 : decode cX5_init 72 = .ok (.putfield 43, 3) := dbc_98.2.2.2.2
theorem dbc_99 : (((((decode cX5_init 75 = .ok (.aload_n 0, 1)) ∧ (decode cX5_init 76 = .ok (.new 47, 3))) ∧ ((decode cX5_init 79 = .ok (.dup, 1)) ∧ (decode cX5_init 80 = .ok (.invokespecial 49, 3)))) ∧ (((decode cX5_init 83 = .ok (.putfield 50, 3)) ∧ (decode cX5_init 86 = .ok (.aload_n 0, 1))) ∧ ((decode cX5_init 87 = .ok (.bipush 12, 2)) ∧ (decode cX5_init 89 = .ok (.newarray .int, 2))))) ∧ ((((decode cX5_init 91 = .ok (.putfield 54, 3)) ∧ (decode cX5_init 94 = .ok (.aload_n 0, 1))) ∧ ((decode cX5_init 95 = .ok (.iconst 0, 1)) ∧ (decode cX5_init 96 = .ok (.putfield 58, 3)))) ∧ (((decode cX5_init 99 = .ok (.aload_n 0, 1)) ∧ (decode cX5_init 100 = .ok (.bipush 7, 2))) ∧ ((decode cX5_init 102 = .ok (.newarray .int, 2)) ∧ (decode cX5_init 104 = .ok (.putfield 62, 3)))))) := by decide +kernel
theorem dX5_init_75 : decode cX5_init 75 = .ok (.aload_n 0, 1) := dbc_99.1.1.1.1
theorem dX5_init_76 : decode cX5_init 76 = .ok (.new 47, 3) := dbc_99.1.1.1.2
theorem dX5_init_79 : decode cX5_init 79 = .ok (.dup, 1) := dbc_99.1.1.2.1
theorem dX5_init_80 : decode cX5_init 80 = .ok (.invokespecial 49, 3) := dbc_99.1.1.2.2
theorem dX5_init_83 : decode cX5_init 83 = .ok (.putfield 50, 3) := dbc_99.1.2.1.1
theorem dX5_init_86 : decode cX5_init 86 = .ok (.aload_n 0, 1) := dbc_99.1.2.1.2
theorem dX5_init_87 : decode cX5_init 87 = .ok (.bipush 12, 2) := dbc_99.1.2.2.1
theorem dX5_init_89 : decode cX5_init 89 = .ok (.newarray .int, 2) := dbc_99.1.2.2.2
theorem dX5_init_91 : decode cX5_init 91 = .ok (.putfield 54, 3) := dbc_99.2.1.1.1
theorem dX5_init_94 : decode cX5_init 94 = .ok (.aload_n 0, 1) := dbc_99.2.1.1.2
theorem dX5_init_95 : decode cX5_init 95 = .ok (.iconst 0, 1) := dbc_99.2.1.2.1
theorem dX5_init_96 : decode cX5_init 96 = .ok (.putfield 58, 3) := dbc_99.2.1.2.2
theorem dX5_init_99 : decode cX5_init 99 = .ok (.aload_n 0, 1) := dbc_99.2.2.1.1
theorem dX5_init_100 : decode cX5_init 100 = .ok (.bipush 7, 2) := dbc_99.2.2.1.2
theorem dX5_init_102 : decode cX5_init 102 = .ok (.newarray .int, 2) := dbc_99.2.2.2.1
theorem dX5_init_104 : decode cX5_init 104 = .ok (.putfield 62, 3) := dbc_99.2.2.2.2
theorem dbc_100 : (((((decode cX5_init 107 = .ok (.return_, 1)) ∧ (decode cX5_feed 0 = .ok (.iload_n 1, 1))) ∧ ((decode cX5_feed 1 = .ok (.ifCond .ge 10, 3)) ∧ (decode cX5_feed 4 = .ok (.aload_n 0, 1)))) ∧ (((decode cX5_feed 5 = .ok (.bipush (-4), 2)) ∧ (decode cX5_feed 7 = .ok (.invokevirtual 65, 3))) ∧ ((decode cX5_feed 10 = .ok (.ireturn, 1)) ∧ (decode cX5_feed 11 = .ok (.iload_n 1, 1))))) ∧ ((((decode cX5_feed 12 = .ok (.sipush 255, 3)) ∧ (decode cX5_feed 15 = .ok (.if_icmp .gt 13, 3))) ∧ ((decode cX5_feed 18 = .ok (.aload_n 0, 1)) ∧ (decode cX5_feed 19 = .ok (.getfield 36, 3)))) ∧ (((decode cX5_feed 22 = .ok (.invokevirtual 69, 3)) ∧ (decode cX5_feed 25 = .ok (.ifCond .eq 10, 3))) ∧ ((decode cX5_feed 28 = .ok (.aload_n 0, 1)) ∧ (decode cX5_feed 29 = .ok (.bipush (-6), 2)))))) := by decide +kernel
theorem dX5_init_107 : decode cX5_init 107 = .ok (.return_, 1) := dbc_100.1.1.1.1
theorem dX5_feed_0 : decode cX5_feed 0 = .ok (.iload_n 1, 1) := dbc_100.1.1.1.2
theorem dX5_feed_1 : decode cX5_feed 1 = .ok (.ifCond .ge 10, 3) := dbc_100.1.1.2.1
theorem dX5_feed_4 : decode cX5_feed 4 = .ok (.aload_n 0, 1) := dbc_100.1.1.2.2
theorem dX5_feed_5 : decode cX5_feed 5 = .ok (.bipush (-4), 2) := dbc_100.1.2.1.1
theorem dX5_feed_7 : decode cX5_feed 7 = .ok (.invokevirtual 65, 3) := dbc_100.1.2.1.2
theorem dX5_feed_10 : decode cX5_feed 10 = .ok (.ireturn, 1) := dbc_100.1.2.2.1
theorem dX5_feed_11 : decode cX5_feed 11 = .ok (.iload_n 1, 1) := dbc_100.1.2.2.2
theorem dX5_feed_12 : decode cX5_feed 12 = .ok (.sipush 255, 3) := dbc_100.2.1.1.1
theorem dX5_feed_15 : decode cX5_feed 15 = .ok (.if_icmp .gt 13, 3) := dbc_100.2.1.1.2
theorem dX5_feed_18 : decode cX5_feed 18 = .ok (.aload_n 0, 1) := dbc_100.2.1.2.1
theorem dX5_feed_19 : decode cX5_feed 19 = .ok (.getfield 36, 3) := dbc_100.2.1.2.2
theorem dX5_feed_22 : decode cX5_feed 22 = .ok (.invokevirtual 69, 3) := dbc_100.2.2.1.1
theorem dX5_feed_25 : decode cX5_feed 25 = .ok (.ifCond .eq 10, 3) := dbc_100.2.2.1.2
theorem dX5_feed_28 : decode cX5_feed 28 = .ok (.aload_n 0, 1) := dbc_100.2.2.2.1
theorem dX5_feed_29 : decode cX5_feed 29 = .ok (.bipush (-6), 2) := dbc_100.2.2.2.2
theorem dbc_101 : (((((decode cX5_feed 31 = .ok (.invokevirtual 65, 3)) ∧ (decode cX5_feed 34 = .ok (.ireturn, 1))) ∧ ((decode cX5_feed 35 = .ok (.aload_n 0, 1)) ∧ (decode cX5_feed 36 = .ok (.getfield 36, 3)))) ∧ (((decode cX5_feed 39 = .ok (.iload_n 1, 1)) ∧ (decode cX5_feed 40 = .ok (.invokevirtual 73, 3))) ∧ ((decode cX5_feed 43 = .ok (.ireturn, 1)) ∧ (decode cX5_village 0 = .ok (.aload_n 0, 1))))) ∧ ((((decode cX5_village 1 = .ok (.getfield 16, 3)) ∧ (decode cX5_village 4 = .ok (.aload_n 0, 1))) ∧ ((decode cX5_village 5 = .ok (.getfield 12, 3)) ∧ (decode cX5_village 8 = .ok (.invokevirtual 76, 3)))) ∧ (((decode cX5_village 11 = .ok (.aload_n 0, 1)) ∧ (decode cX5_village 12 = .ok (.getfield 36, 3))) ∧ ((decode cX5_village 15 = .ok (.aload_n 0, 1)) ∧ (decode cX5_village 16 = .ok (.getfield 16, 3)))))) := by decide +kernel
theorem dX5_feed_31 : decode cX5_feed 31 = .ok (.invokevirtual 65, 3) := dbc_101.1.1.1.1
theorem dX5_feed_34 : decode cX5_feed 34 = .ok (.ireturn, 1) := dbc_101.1.1.1.2
theorem dX5_feed_35 : decode cX5_feed 35 = .ok (.aload_n 0, 1) := dbc_101.1.1.2.1
theorem dX5_feed_36 : decode cX5_feed 36 = .ok (.getfield 36, 3) := dbc_101.1.1.2.2
theorem dX5_feed_39 : decode cX5_feed 39 = .ok (.iload_n 1, 1) := dbc_101.1.2.1.1
theorem dX5_feed_40 : decode cX5_feed 40 = .ok (.invokevirtual 73, 3) := dbc_101.1.2.1.2
theorem dX5_feed_43 : decode cX5_feed 43 = .ok (.ireturn, 1) := dbc_101.1.2.2.1
theorem dX5_village_0 : decode cX5_village 0 = .ok (.aload_n 0, 1) := dbc_101.1.2.2.2
theorem dX5_village_1 : decode cX5_village 1 = .ok (.getfield 16, 3) := dbc_101.2.1.1.1
theorem dX5_village_4 : decode cX5_village 4 = .ok (.aload_n 0, 1) := dbc_101.2.1.1.2
theorem dX5_village_5 : decode cX5_village 5 = .ok (.getfield 12, 3) := dbc_101.2.1.2.1
theorem dX5_village_8 : decode cX5_village 8 = .ok (.invokevirtual 76, 3) := dbc_101.2.1.2.2
theorem dX5_village_11 : decode cX5_village 11 = .ok (.aload_n 0, 1) := dbc_101.2.2.1.1
theorem dX5_village_12 : decode cX5_village 12 = .ok (.getfield 36, 3) := dbc_101.2.2.1.2
theorem dX5_village_15 : decode cX5_village 15 = .ok (.aload_n 0, 1) := dbc_101.2.2.2.1
theorem dX5_village_16 : decode cX5_village 16 = .ok (.getfield 16, 3) := dbc_101.2.2.2.2
theorem dbc_102 : (((((decode cX5_village 19 = .ok (.invokevirtual 80, 3)) ∧ (decode cX5_village 22 = .ok (.istore_n 1, 1))) ∧ ((decode cX5_village 23 = .ok (.aload_n 0, 1)) ∧ (decode cX5_village 24 = .ok (.getfield 36, 3)))) ∧ (((decode cX5_village 27 = .ok (.invokevirtual 84, 3)) ∧ (decode cX5_village 30 = .ok (.iload_n 1, 1))) ∧ ((decode cX5_village 31 = .ok (.ifCond .ge 5, 3)) ∧ (decode cX5_village 34 = .ok (.iload_n 1, 1))))) ∧ ((((decode cX5_village 35 = .ok (.ireturn, 1)) ∧ (decode cX5_village 36 = .ok (.aload_n 0, 1))) ∧ ((decode cX5_village 37 = .ok (.getfield 12, 3)) ∧ (decode cX5_village 40 = .ok (.aload_n 0, 1)))) ∧ (((decode cX5_village 41 = .ok (.getfield 16, 3)) ∧ (decode cX5_village 44 = .ok (.invokevirtual 76, 3))) ∧ ((decode cX5_village 47 = .ok (.aload_n 0, 1)) ∧ (decode cX5_village 48 = .ok (.getfield 29, 3)))))) := by decide +kernel
theorem dX5_village_19 : decode cX5_village 19 = .ok (.invokevirtual 80, 3) := dbc_102.1.1.1.1
theorem dX5_village_22 : decode cX5_village 22 = .ok (.istore_n 1, 1) := dbc_102.1.1.1.2
theorem dX5_village_23 : decode cX5_village 23 = .ok (.aload_n 0, 1) := dbc_102.1.1.2.1
theorem dX5_village_24 : decode cX5_village 24 = .ok (.getfield 36, 3) := dbc_102.1.1.2.2
theorem dX5_village_27 : decode cX5_village 27 = .ok (.invokevirtual 84, 3) := dbc_102.1.2.1.1
theorem dX5_village_30 : decode cX5_village 30 = .ok (.iload_n 1, 1) := dbc_102.1.2.1.2
theorem dX5_village_31 : decode cX5_village 31 = .ok (.ifCond .ge 5, 3) := dbc_102.1.2.2.1
theorem dX5_village_34 : decode cX5_village 34 = .ok (.iload_n 1, 1) := dbc_102.1.2.2.2
theorem dX5_village_35 : decode cX5_village 35 = .ok (.ireturn, 1) := dbc_102.2.1.1.1
theorem dX5_village_36 : decode cX5_village 36 = .ok (.aload_n 0, 1) := dbc_102.2.1.1.2
theorem dX5_village_37 : decode cX5_village 37 = .ok (.getfield 12, 3) := dbc_102.2.1.2.1
theorem dX5_village_40 : decode cX5_village 40 = .ok (.aload_n 0, 1) := dbc_102.2.1.2.2
theorem dX5_village_41 : decode cX5_village 41 = .ok (.getfield 16, 3) := dbc_102.2.2.1.1
theorem dX5_village_44 : decode cX5_village 44 = .ok (.invokevirtual 76, 3) := dbc_102.2.2.1.2
theorem dX5_village_47 : decode cX5_village 47 = .ok (.aload_n 0, 1) := dbc_102.2.2.2.1
theorem dX5_village_48 : decode cX5_village 48 = .ok (.getfield 29, 3) := dbc_102.2.2.2.2
theorem dbc_103 : (((((decode cX5_village 51 = .ok (.invokevirtual 87, 3)) ∧ (decode cX5_village 54 = .ok (.iload_n 1, 1))) ∧ ((decode cX5_village 55 = .ok (.ireturn, 1)) ∧ (decode cX5_houseOf 0 = .ok (.aload_n 0, 1)))) ∧ (((decode cX5_houseOf 1 = .ok (.getfield 12, 3)) ∧ (decode cX5_houseOf 4 = .ok (.iload_n 1, 1))) ∧ ((decode cX5_houseOf 5 = .ok (.invokevirtual 90, 3)) ∧ (decode cX5_houseOf 8 = .ok (.ifCond .ne 9, 3))))) ∧ ((((decode cX5_houseOf 11 = .ok (.aload_n 0, 1)) ∧ (decode cX5_houseOf 12 = .ok (.iconst (-1), 1))) ∧ ((decode cX5_houseOf 13 = .ok (.invokevirtual 65, 3)) ∧ (decode cX5_houseOf 16 = .ok (.ireturn, 1)))) ∧ (((decode cX5_houseOf 17 = .ok (.iload_n 2, 1)) ∧ (decode cX5_houseOf 18 = .ok (.tableswitch 144 0 7 #[46, 56, 66, 76, 93, 115, 125, 135], 46))) ∧ ((decode cX5_houseOf 64 = .ok (.aload_n 0, 1)) ∧ (decode cX5_houseOf 65 = .ok (.getfield 12, 3)))))) := by decide +kernel
theorem dX5_village_51 : decode cX5_village 51 = .ok (.invokevirtual 87, 3) := dbc_103.1.1.1.1
theorem dX5_village_54 : decode cX5_village 54 = .ok (.iload_n 1, 1) := dbc_103.1.1.1.2
theorem dX5_village_55 : decode cX5_village 55 = .ok (.ireturn, 1) := dbc_103.1.1.2.1
theorem dX5_houseOf_0 : decode cX5_houseOf 0 = .ok (.aload_n 0, 1) := dbc_103.1.1.2.2
theorem dX5_houseOf_1 : decode cX5_houseOf 1 = .ok (.getfield 12, 3) := dbc_103.1.2.1.1
theorem dX5_houseOf_4 : decode cX5_houseOf 4 = .ok (.iload_n 1, 1) := dbc_103.1.2.1.2
theorem dX5_houseOf_5 : decode cX5_houseOf 5 = .ok (.invokevirtual 90, 3) := dbc_103.1.2.2.1
theorem dX5_houseOf_8 : decode cX5_houseOf 8 = .ok (.ifCond .ne 9, 3) := dbc_103.1.2.2.2
theorem dX5_houseOf_11 : decode cX5_houseOf 11 = .ok (.aload_n 0, 1) := dbc_103.2.1.1.1
theorem dX5_houseOf_12 : decode cX5_houseOf 12 = .ok (.iconst (-1), 1) := dbc_103.2.1.1.2
theorem dX5_houseOf_13 : decode cX5_houseOf 13 = .ok (.invokevirtual 65, 3) := dbc_103.2.1.2.1
theorem dX5_houseOf_16 : decode cX5_houseOf 16 = .ok (.ireturn, 1) := dbc_103.2.1.2.2
theorem dX5_houseOf_17 : decode cX5_houseOf 17 = .ok (.iload_n 2, 1) := dbc_103.2.2.1.1
theorem dX5_houseOf_18 : decode cX5_houseOf 18 = .ok (.tableswitch 144 0 7 #[46, 56, 66, 76, 93, 115, 125, 135], 46) := dbc_103.2.2.1.2
theorem dX5_houseOf_64 : decode cX5_houseOf 64 = .ok (.aload_n 0, 1) := dbc_103.2.2.2.1
theorem dX5_houseOf_65 : decode cX5_houseOf 65 = .ok (.getfield 12, 3) := dbc_103.2.2.2.2
theorem dbc_104 : (((((decode cX5_houseOf 68 = .ok (.getfield 94, 3)) ∧ (decode cX5_houseOf 71 = .ok (.iload_n 1, 1))) ∧ ((decode cX5_houseOf 72 = .ok (.iaload, 1)) ∧ (decode cX5_houseOf 73 = .ok (.ireturn, 1)))) ∧ (((decode cX5_houseOf 74 = .ok (.aload_n 0, 1)) ∧ (decode cX5_houseOf 75 = .ok (.getfield 12, 3))) ∧ ((decode cX5_houseOf 78 = .ok (.getfield 97, 3)) ∧ (decode cX5_houseOf 81 = .ok (.iload_n 1, 1))))) ∧ ((((decode cX5_houseOf 82 = .ok (.iaload, 1)) ∧ (decode cX5_houseOf 83 = .ok (.ireturn, 1))) ∧ ((decode cX5_houseOf 84 = .ok (.aload_n 0, 1)) ∧ (decode cX5_houseOf 85 = .ok (.getfield 12, 3)))) ∧ (((decode cX5_houseOf 88 = .ok (.getfield 100, 3)) ∧ (decode cX5_houseOf 91 = .ok (.iload_n 1, 1))) ∧ ((decode cX5_houseOf 92 = .ok (.iaload, 1)) ∧ (decode cX5_houseOf 93 = .ok (.ireturn, 1)))))) := by decide +kernel
theorem dX5_houseOf_68 : decode cX5_houseOf 68 = .ok (.getfield 94, 3) := dbc_104.1.1.1.1
theorem dX5_houseOf_71 : decode cX5_houseOf 71 = .ok (.iload_n 1, 1) := dbc_104.1.1.1.2
theorem dX5_houseOf_72 : decode cX5_houseOf 72 = .ok (.iaload, 1) := dbc_104.1.1.2.1
theorem dX5_houseOf_73 : decode cX5_houseOf 73 = .ok (.ireturn, 1) := dbc_104.1.1.2.2
theorem dX5_houseOf_74 : decode cX5_houseOf 74 = .ok (.aload_n 0, 1) := dbc_104.1.2.1.1
theorem dX5_houseOf_75 : decode cX5_houseOf 75 = .ok (.getfield 12, 3) := dbc_104.1.2.1.2
theorem dX5_houseOf_78 : decode cX5_houseOf 78 = .ok (.getfield 97, 3) := dbc_104.1.2.2.1
theorem dX5_houseOf_81 : decode cX5_houseOf 81 = .ok (.iload_n 1, 1) := dbc_104.1.2.2.2
theorem dX5_houseOf_82 : decode cX5_houseOf 82 = .ok (.iaload, 1) := dbc_104.2.1.1.1
theorem dX5_houseOf_83 : decode cX5_houseOf 83 = .ok (.ireturn, 1) := dbc_104.2.1.1.2
theorem dX5_houseOf_84 : decode cX5_houseOf 84 = .ok (.aload_n 0, 1) := dbc_104.2.1.2.1
theorem dX5_houseOf_85 : decode cX5_houseOf 85 = .ok (.getfield 12, 3) := dbc_104.2.1.2.2
theorem dX5_houseOf_88 : decode cX5_houseOf 88 = .ok (.getfield 100, 3) := dbc_104.2.2.1.1
theorem dX5_houseOf_91 : decode cX5_houseOf 91 = .ok (.iload_n 1, 1) := dbc_104.2.2.1.2
theorem dX5_houseOf_92 : decode cX5_houseOf 92 = .ok (.iaload, 1) := dbc_104.2.2.2.1
theorem dX5_houseOf_93 : decode cX5_houseOf 93 = .ok (.ireturn, 1) := dbc_104.2.2.2.2
theorem dbc_105 : (((((decode cX5_houseOf 94 = .ok (.aload_n 0, 1)) ∧ (decode cX5_houseOf 95 = .ok (.getfield 12, 3))) ∧ ((decode cX5_houseOf 98 = .ok (.iload_n 1, 1)) ∧ (decode cX5_houseOf 99 = .ok (.invokevirtual 103, 3)))) ∧ (((decode cX5_houseOf 102 = .ok (.ifCond .eq 7, 3)) ∧ (decode cX5_houseOf 105 = .ok (.iconst 1, 1))) ∧ ((decode cX5_houseOf 106 = .ok (.goto 4, 3)) ∧ (decode cX5_houseOf 109 = .ok (.iconst 0, 1))))) ∧ ((((decode cX5_houseOf 110 = .ok (.ireturn, 1)) ∧ (decode cX5_houseOf 111 = .ok (.aload_n 0, 1))) ∧ ((decode cX5_houseOf 112 = .ok (.getfield 12, 3)) ∧ (decode cX5_houseOf 115 = .ok (.getfield 94, 3)))) ∧ (((decode cX5_houseOf 118 = .ok (.iload_n 1, 1)) ∧ (decode cX5_houseOf 119 = .ok (.iaload, 1))) ∧ ((decode cX5_houseOf 120 = .ok (.aload_n 0, 1)) ∧ (decode cX5_houseOf 121 = .ok (.getfield 12, 3)))))) := by decide +kernel
theorem dX5_houseOf_94 : decode cX5_houseOf 94 = .ok (.aload_n 0, 1) := dbc_105.1.1.1.1
theorem dX5_houseOf_95 : decode cX5_houseOf 95 = .ok (.getfield 12, 3) := dbc_105.1.1.1.2
theorem dX5_houseOf_98 : decode cX5_houseOf 98 = .ok (.iload_n 1, 1) := dbc_105.1.1.2.1
theorem dX5_houseOf_99 : decode cX5_houseOf 99 = .ok (.invokevirtual 103, 3) := dbc_105.1.1.2.2
theorem dX5_houseOf_102 : decode cX5_houseOf 102 = .ok (.ifCond .eq 7, 3) := dbc_105.1.2.1.1
theorem dX5_houseOf_105 : decode cX5_houseOf 105 = .ok (.iconst 1, 1) := dbc_105.1.2.1.2
theorem dX5_houseOf_106 : decode cX5_houseOf 106 = .ok (.goto 4, 3) := dbc_105.1.2.2.1
theorem dX5_houseOf_109 : decode cX5_houseOf 109 = .ok (.iconst 0, 1) := dbc_105.1.2.2.2
theorem dX5_houseOf_110 : decode cX5_houseOf 110 = .ok (.ireturn, 1) := dbc_105.2.1.1.1
theorem dX5_houseOf_111 : decode cX5_houseOf 111 = .ok (.aload_n 0, 1) := dbc_105.2.1.1.2
theorem dX5_houseOf_112 : decode cX5_houseOf 112 = .ok (.getfield 12, 3) := dbc_105.2.1.2.1
theorem dX5_houseOf_115 : decode cX5_houseOf 115 = .ok (.getfield 94, 3) := dbc_105.2.1.2.2
theorem dX5_houseOf_118 : decode cX5_houseOf 118 = .ok (.iload_n 1, 1) := dbc_105.2.2.1.1
theorem dX5_houseOf_119 : decode cX5_houseOf 119 = .ok (.iaload, 1) := dbc_105.2.2.1.2
theorem dX5_houseOf_120 : decode cX5_houseOf 120 = .ok (.aload_n 0, 1) := dbc_105.2.2.2.1
theorem dX5_houseOf_121 : decode cX5_houseOf 121 = .ok (.getfield 12, 3) := dbc_105.2.2.2.2
theorem dbc_106 : (((((decode cX5_houseOf 124 = .ok (.getfield 97, 3)) ∧ (decode cX5_houseOf 127 = .ok (.iload_n 1, 1))) ∧ ((decode cX5_houseOf 128 = .ok (.iaload, 1)) ∧ (decode cX5_houseOf 129 = .ok (.invokestatic 106, 3)))) ∧ (((decode cX5_houseOf 132 = .ok (.ireturn, 1)) ∧ (decode cX5_houseOf 133 = .ok (.aload_n 0, 1))) ∧ ((decode cX5_houseOf 134 = .ok (.getfield 12, 3)) ∧ (decode cX5_houseOf 137 = .ok (.iload_n 1, 1))))) ∧ ((((decode cX5_houseOf 138 = .ok (.iconst 0, 1)) ∧ (decode cX5_houseOf 139 = .ok (.invokevirtual 110, 3))) ∧ ((decode cX5_houseOf 142 = .ok (.ireturn, 1)) ∧ (decode cX5_houseOf 143 = .ok (.aload_n 0, 1)))) ∧ (((decode cX5_houseOf 144 = .ok (.getfield 12, 3)) ∧ (decode cX5_houseOf 147 = .ok (.iload_n 1, 1))) ∧ ((decode cX5_houseOf 148 = .ok (.iconst 0, 1)) ∧ (decode cX5_houseOf 149 = .ok (.invokevirtual 113, 3)))))) := by decide +kernel
theorem dX5_houseOf_124 : decode cX5_houseOf 124 = .ok (.getfield 97, 3) := dbc_106.1.1.1.1
theorem dX5_houseOf_127 : decode cX5_houseOf 127 = .ok (.iload_n 1, 1) := dbc_106.1.1.1.2
theorem dX5_houseOf_128 : decode cX5_houseOf 128 = .ok (.iaload, 1) := dbc_106.1.1.2.1
theorem dX5_houseOf_129 : decode cX5_houseOf 129 = .ok (.invokestatic 106, 3) := dbc_106.1.1.2.2
theorem dX5_houseOf_132 : decode cX5_houseOf 132 = .ok (.ireturn, 1) := dbc_106.1.2.1.1
theorem dX5_houseOf_133 : decode cX5_houseOf 133 = .ok (.aload_n 0, 1) := dbc_106.1.2.1.2
theorem dX5_houseOf_134 : decode cX5_houseOf 134 = .ok (.getfield 12, 3) := dbc_106.1.2.2.1
theorem dX5_houseOf_137 : decode cX5_houseOf 137 = .ok (.iload_n 1, 1) := dbc_106.1.2.2.2
theorem dX5_houseOf_138 : decode cX5_houseOf 138 = .ok (.iconst 0, 1) := dbc_106.2.1.1.1
theorem dX5_houseOf_139 : decode cX5_houseOf 139 = .ok (.invokevirtual 110, 3) := dbc_106.2.1.1.2
theorem dX5_houseOf_142 : decode cX5_houseOf 142 = .ok (.ireturn, 1) := dbc_106.2.1.2.1
theorem dX5_houseOf_143 : decode cX5_houseOf 143 = .ok (.aload_n 0, 1) := dbc_106.2.1.2.2
theorem dX5_houseOf_144 : decode cX5_houseOf 144 = .ok (.getfield 12, 3) := dbc_106.2.2.1.1
theorem dX5_houseOf_147 : decode cX5_houseOf 147 = .ok (.iload_n 1, 1) := dbc_106.2.2.1.2
theorem dX5_houseOf_148 : decode cX5_houseOf 148 = .ok (.iconst 0, 1) := dbc_106.2.2.2.1
theorem dX5_houseOf_149 : decode cX5_houseOf 149 = .ok (.invokevirtual 113, 3) := dbc_106.2.2.2.2
theorem dbc_107 : (((((decode cX5_houseOf 152 = .ok (.ireturn, 1)) ∧ (decode cX5_houseOf 153 = .ok (.aload_n 0, 1))) ∧ ((decode cX5_houseOf 154 = .ok (.getfield 12, 3)) ∧ (decode cX5_houseOf 157 = .ok (.iload_n 1, 1)))) ∧ (((decode cX5_houseOf 158 = .ok (.invokevirtual 116, 3)) ∧ (decode cX5_houseOf 161 = .ok (.ireturn, 1))) ∧ ((decode cX5_houseOf 162 = .ok (.aload_n 0, 1)) ∧ (decode cX5_houseOf 163 = .ok (.bipush (-2), 2))))) ∧ ((((decode cX5_houseOf 165 = .ok (.invokevirtual 65, 3)) ∧ (decode cX5_houseOf 168 = .ok (.ireturn, 1))) ∧ ((decode cX5_walkerOf 0 = .ok (.aload_n 0, 1)) ∧ (decode cX5_walkerOf 1 = .ok (.getfield 12, 3)))) ∧ (((decode cX5_walkerOf 4 = .ok (.iload_n 1, 1)) ∧ (decode cX5_walkerOf 5 = .ok (.invokevirtual 119, 3))) ∧ ((decode cX5_walkerOf 8 = .ok (.ifCond .ne 9, 3)) ∧ (decode cX5_walkerOf 11 = .ok (.aload_n 0, 1)))))) := by decide +kernel
theorem dX5_houseOf_152 : decode cX5_houseOf 152 = .ok (.ireturn, 1) := dbc_107.1.1.1.1
theorem dX5_houseOf_153 : decode cX5_houseOf 153 = .ok (.aload_n 0, 1) := dbc_107.1.1.1.2
theorem dX5_houseOf_154 : decode cX5_houseOf 154 = .ok (.getfield 12, 3) := dbc_107.1.1.2.1
theorem dX5_houseOf_157 : decode cX5_houseOf 157 = .ok (.iload_n 1, 1) := dbc_107.1.1.2.2
theorem dX5_houseOf_158 : decode cX5_houseOf 158 = .ok (.invokevirtual 116, 3) := dbc_107.1.2.1.1
theorem dX5_houseOf_161 : decode cX5_houseOf 161 = .ok (.ireturn, 1) := dbc_107.1.2.1.2
theorem dX5_houseOf_162 : decode cX5_houseOf 162 = .ok (.aload_n 0, 1) := dbc_107.1.2.2.1
theorem dX5_houseOf_163 : decode cX5_houseOf 163 = .ok (.bipush (-2), 2) := dbc_107.1.2.2.2
theorem dX5_houseOf_165 : decode cX5_houseOf 165 = .ok (.invokevirtual 65, 3) := dbc_107.2.1.1.1
theorem dX5_houseOf_168 : decode cX5_houseOf 168 = .ok (.ireturn, 1) := dbc_107.2.1.1.2
theorem dX5_walkerOf_0 : decode cX5_walkerOf 0 = .ok (.aload_n 0, 1) := dbc_107.2.1.2.1
theorem dX5_walkerOf_1 : decode cX5_walkerOf 1 = .ok (.getfield 12, 3) := dbc_107.2.1.2.2
theorem dX5_walkerOf_4 : decode cX5_walkerOf 4 = .ok (.iload_n 1, 1) := dbc_107.2.2.1.1
theorem dX5_walkerOf_5 : decode cX5_walkerOf 5 = .ok (.invokevirtual 119, 3) := dbc_107.2.2.1.2
theorem dX5_walkerOf_8 : decode cX5_walkerOf 8 = .ok (.ifCond .ne 9, 3) := dbc_107.2.2.2.1
theorem dX5_walkerOf_11 : decode cX5_walkerOf 11 = .ok (.aload_n 0, 1) := dbc_107.2.2.2.2
theorem dbc_108 : (((((decode cX5_walkerOf 12 = .ok (.iconst (-1), 1)) ∧ (decode cX5_walkerOf 13 = .ok (.invokevirtual 65, 3))) ∧ ((decode cX5_walkerOf 16 = .ok (.ireturn, 1)) ∧ (decode cX5_walkerOf 17 = .ok (.iload_n 2, 1)))) ∧ (((decode cX5_walkerOf 18 = .ok (.tableswitch 106 0 5 #[38, 48, 58, 68, 78, 96], 38)) ∧ (decode cX5_walkerOf 56 = .ok (.aload_n 0, 1))) ∧ ((decode cX5_walkerOf 57 = .ok (.getfield 12, 3)) ∧ (decode cX5_walkerOf 60 = .ok (.getfield 122, 3))))) ∧ ((((decode cX5_walkerOf 63 = .ok (.iload_n 1, 1)) ∧ (decode cX5_walkerOf 64 = .ok (.iaload, 1))) ∧ ((decode cX5_walkerOf 65 = .ok (.ireturn, 1)) ∧ (decode cX5_walkerOf 66 = .ok (.aload_n 0, 1)))) ∧ (((decode cX5_walkerOf 67 = .ok (.getfield 12, 3)) ∧ (decode cX5_walkerOf 70 = .ok (.getfield 125, 3))) ∧ ((decode cX5_walkerOf 73 = .ok (.iload_n 1, 1)) ∧ (decode cX5_walkerOf 74 = .ok (.iaload, 1)))))) := by decide +kernel
theorem dX5_walkerOf_12 : decode cX5_walkerOf 12 = .ok (.iconst (-1), 1) := dbc_108.1.1.1.1
theorem dX5_walkerOf_13 : decode cX5_walkerOf 13 = .ok (.invokevirtual 65, 3) := dbc_108.1.1.1.2
theorem dX5_walkerOf_16 : decode cX5_walkerOf 16 = .ok (.ireturn, 1) := dbc_108.1.1.2.1
theorem dX5_walkerOf_17 : decode cX5_walkerOf 17 = .ok (.iload_n 2, 1) := dbc_108.1.1.2.2
theorem dX5_walkerOf_18 : decode cX5_walkerOf 18 = .ok (.tableswitch 106 0 5 #[38, 48, 58, 68, 78, 96], 38) := dbc_108.1.2.1.1
theorem dX5_walkerOf_56 : decode cX5_walkerOf 56 = .ok (.aload_n 0, 1) := dbc_108.1.2.1.2
theorem dX5_walkerOf_57 : decode cX5_walkerOf 57 = .ok (.getfield 12, 3) := dbc_108.1.2.2.1
theorem dX5_walkerOf_60 : decode cX5_walkerOf 60 = .ok (.getfield 122, 3) := dbc_108.1.2.2.2
theorem dX5_walkerOf_63 : decode cX5_walkerOf 63 = .ok (.iload_n 1, 1) := dbc_108.2.1.1.1
theorem dX5_walkerOf_64 : decode cX5_walkerOf 64 = .ok (.iaload, 1) := dbc_108.2.1.1.2
theorem dX5_walkerOf_65 : decode cX5_walkerOf 65 = .ok (.ireturn, 1) := dbc_108.2.1.2.1
theorem dX5_walkerOf_66 : decode cX5_walkerOf 66 = .ok (.aload_n 0, 1) := dbc_108.2.1.2.2
theorem dX5_walkerOf_67 : decode cX5_walkerOf 67 = .ok (.getfield 12, 3) := dbc_108.2.2.1.1
theorem dX5_walkerOf_70 : decode cX5_walkerOf 70 = .ok (.getfield 125, 3) := dbc_108.2.2.1.2
theorem dX5_walkerOf_73 : decode cX5_walkerOf 73 = .ok (.iload_n 1, 1) := dbc_108.2.2.2.1
theorem dX5_walkerOf_74 : decode cX5_walkerOf 74 = .ok (.iaload, 1) := dbc_108.2.2.2.2
theorem dbc_109 : (((((decode cX5_walkerOf 75 = .ok (.ireturn, 1)) ∧ (decode cX5_walkerOf 76 = .ok (.aload_n 0, 1))) ∧ ((decode cX5_walkerOf 77 = .ok (.getfield 12, 3)) ∧ (decode cX5_walkerOf 80 = .ok (.getfield 128, 3)))) ∧ (((decode cX5_walkerOf 83 = .ok (.iload_n 1, 1)) ∧ (decode cX5_walkerOf 84 = .ok (.iaload, 1))) ∧ ((decode cX5_walkerOf 85 = .ok (.ireturn, 1)) ∧ (decode cX5_walkerOf 86 = .ok (.aload_n 0, 1))))) ∧ ((((decode cX5_walkerOf 87 = .ok (.getfield 12, 3)) ∧ (decode cX5_walkerOf 90 = .ok (.iload_n 1, 1))) ∧ ((decode cX5_walkerOf 91 = .ok (.iconst 0, 1)) ∧ (decode cX5_walkerOf 92 = .ok (.invokevirtual 131, 3)))) ∧ (((decode cX5_walkerOf 95 = .ok (.ireturn, 1)) ∧ (decode cX5_walkerOf 96 = .ok (.aload_n 0, 1))) ∧ ((decode cX5_walkerOf 97 = .ok (.getfield 12, 3)) ∧ (decode cX5_walkerOf 100 = .ok (.iload_n 1, 1)))))) := by decide +kernel
theorem dX5_walkerOf_75 : decode cX5_walkerOf 75 = .ok (.ireturn, 1) := dbc_109.1.1.1.1
theorem dX5_walkerOf_76 : decode cX5_walkerOf 76 = .ok (.aload_n 0, 1) := dbc_109.1.1.1.2
theorem dX5_walkerOf_77 : decode cX5_walkerOf 77 = .ok (.getfield 12, 3) := dbc_109.1.1.2.1
theorem dX5_walkerOf_80 : decode cX5_walkerOf 80 = .ok (.getfield 128, 3) := dbc_109.1.1.2.2
theorem dX5_walkerOf_83 : decode cX5_walkerOf 83 = .ok (.iload_n 1, 1) := dbc_109.1.2.1.1
theorem dX5_walkerOf_84 : decode cX5_walkerOf 84 = .ok (.iaload, 1) := dbc_109.1.2.1.2
theorem dX5_walkerOf_85 : decode cX5_walkerOf 85 = .ok (.ireturn, 1) := dbc_109.1.2.2.1
theorem dX5_walkerOf_86 : decode cX5_walkerOf 86 = .ok (.aload_n 0, 1) := dbc_109.1.2.2.2
theorem dX5_walkerOf_87 : decode cX5_walkerOf 87 = .ok (.getfield 12, 3) := dbc_109.2.1.1.1
theorem dX5_walkerOf_90 : decode cX5_walkerOf 90 = .ok (.iload_n 1, 1) := dbc_109.2.1.1.2
theorem dX5_walkerOf_91 : decode cX5_walkerOf 91 = .ok (.iconst 0, 1) := dbc_109.2.1.2.1
theorem dX5_walkerOf_92 : decode cX5_walkerOf 92 = .ok (.invokevirtual 131, 3) := dbc_109.2.1.2.2
theorem dX5_walkerOf_95 : decode cX5_walkerOf 95 = .ok (.ireturn, 1) := dbc_109.2.2.1.1
theorem dX5_walkerOf_96 : decode cX5_walkerOf 96 = .ok (.aload_n 0, 1) := dbc_109.2.2.1.2
theorem dX5_walkerOf_97 : decode cX5_walkerOf 97 = .ok (.getfield 12, 3) := dbc_109.2.2.2.1
theorem dX5_walkerOf_100 : decode cX5_walkerOf 100 = .ok (.iload_n 1, 1) := dbc_109.2.2.2.2
theorem dbc_110 : (((((decode cX5_walkerOf 101 = .ok (.aload_n 0, 1)) ∧ (decode cX5_walkerOf 102 = .ok (.getfield 12, 3))) ∧ ((decode cX5_walkerOf 105 = .ok (.getfield 122, 3)) ∧ (decode cX5_walkerOf 108 = .ok (.iload_n 1, 1)))) ∧ (((decode cX5_walkerOf 109 = .ok (.iaload, 1)) ∧ (decode cX5_walkerOf 110 = .ok (.invokevirtual 134, 3))) ∧ ((decode cX5_walkerOf 113 = .ok (.ireturn, 1)) ∧ (decode cX5_walkerOf 114 = .ok (.aload_n 0, 1))))) ∧ ((((decode cX5_walkerOf 115 = .ok (.getfield 12, 3)) ∧ (decode cX5_walkerOf 118 = .ok (.iload_n 1, 1))) ∧ ((decode cX5_walkerOf 119 = .ok (.iconst 0, 1)) ∧ (decode cX5_walkerOf 120 = .ok (.invokevirtual 137, 3)))) ∧ (((decode cX5_walkerOf 123 = .ok (.ireturn, 1)) ∧ (decode cX5_walkerOf 124 = .ok (.aload_n 0, 1))) ∧ ((decode cX5_walkerOf 125 = .ok (.bipush (-2), 2)) ∧ (decode cX5_walkerOf 127 = .ok (.invokevirtual 65, 3)))))) := by decide +kernel
theorem dX5_walkerOf_101 : decode cX5_walkerOf 101 = .ok (.aload_n 0, 1) := dbc_110.1.1.1.1
theorem dX5_walkerOf_102 : decode cX5_walkerOf 102 = .ok (.getfield 12, 3) := dbc_110.1.1.1.2
theorem dX5_walkerOf_105 : decode cX5_walkerOf 105 = .ok (.getfield 122, 3) := dbc_110.1.1.2.1
theorem dX5_walkerOf_108 : decode cX5_walkerOf 108 = .ok (.iload_n 1, 1) := dbc_110.1.1.2.2
theorem dX5_walkerOf_109 : decode cX5_walkerOf 109 = .ok (.iaload, 1) := dbc_110.1.2.1.1
theorem dX5_walkerOf_110 : decode cX5_walkerOf 110 = .ok (.invokevirtual 134, 3) := dbc_110.1.2.1.2
theorem dX5_walkerOf_113 : decode cX5_walkerOf 113 = .ok (.ireturn, 1) := dbc_110.1.2.2.1
theorem dX5_walkerOf_114 : decode cX5_walkerOf 114 = .ok (.aload_n 0, 1) := dbc_110.1.2.2.2
theorem dX5_walkerOf_115 : decode cX5_walkerOf 115 = .ok (.getfield 12, 3) := dbc_110.2.1.1.1
theorem dX5_walkerOf_118 : decode cX5_walkerOf 118 = .ok (.iload_n 1, 1) := dbc_110.2.1.1.2
theorem dX5_walkerOf_119 : decode cX5_walkerOf 119 = .ok (.iconst 0, 1) := dbc_110.2.1.2.1
theorem dX5_walkerOf_120 : decode cX5_walkerOf 120 = .ok (.invokevirtual 137, 3) := dbc_110.2.1.2.2
theorem dX5_walkerOf_123 : decode cX5_walkerOf 123 = .ok (.ireturn, 1) := dbc_110.2.2.1.1
theorem dX5_walkerOf_124 : decode cX5_walkerOf 124 = .ok (.aload_n 0, 1) := dbc_110.2.2.1.2
theorem dX5_walkerOf_125 : decode cX5_walkerOf 125 = .ok (.bipush (-2), 2) := dbc_110.2.2.2.1
theorem dX5_walkerOf_127 : decode cX5_walkerOf 127 = .ok (.invokevirtual 65, 3) := dbc_110.2.2.2.2
theorem dbc_111 : (((((decode cX5_walkerOf 130 = .ok (.ireturn, 1)) ∧ (decode cX5_age 0 = .ok (.aload_n 0, 1))) ∧ ((decode cX5_age 1 = .ok (.getfield 12, 3)) ∧ (decode cX5_age 4 = .ok (.iload_n 1, 1)))) ∧ (((decode cX5_age 5 = .ok (.invokevirtual 119, 3)) ∧ (decode cX5_age 8 = .ok (.ifCond .eq 14, 3))) ∧ ((decode cX5_age 11 = .ok (.aload_n 0, 1)) ∧ (decode cX5_age 12 = .ok (.getfield 12, 3))))) ∧ ((((decode cX5_age 15 = .ok (.iload_n 2, 1)) ∧ (decode cX5_age 16 = .ok (.invokevirtual 90, 3))) ∧ ((decode cX5_age 19 = .ok (.ifCond .ne 9, 3)) ∧ (decode cX5_age 22 = .ok (.aload_n 0, 1)))) ∧ (((decode cX5_age 23 = .ok (.iconst (-1), 1)) ∧ (decode cX5_age 24 = .ok (.invokevirtual 65, 3))) ∧ ((decode cX5_age 27 = .ok (.ireturn, 1)) ∧ (decode cX5_age 28 = .ok (.aload_n 0, 1)))))) := by decide +kernel
theorem dX5_walkerOf_130 : decode cX5_walkerOf 130 = .ok (.ireturn, 1) := dbc_111.1.1.1.1
theorem dX5_age_0 : decode cX5_age 0 = .ok (.aload_n 0, 1) := dbc_111.1.1.1.2
theorem dX5_age_1 : decode cX5_age 1 = .ok (.getfield 12, 3) := dbc_111.1.1.2.1
theorem dX5_age_4 : decode cX5_age 4 = .ok (.iload_n 1, 1) := dbc_111.1.1.2.2
theorem dX5_age_5 : decode cX5_age 5 = .ok (.invokevirtual 119, 3) := dbc_111.1.2.1.1
theorem dX5_age_8 : decode cX5_age 8 = .ok (.ifCond .eq 14, 3) := dbc_111.1.2.1.2
theorem dX5_age_11 : decode cX5_age 11 = .ok (.aload_n 0, 1) := dbc_111.1.2.2.1
theorem dX5_age_12 : decode cX5_age 12 = .ok (.getfield 12, 3) := dbc_111.1.2.2.2
theorem dX5_age_15 : decode cX5_age 15 = .ok (.iload_n 2, 1) := dbc_111.2.1.1.1
theorem dX5_age_16 : decode cX5_age 16 = .ok (.invokevirtual 90, 3) := dbc_111.2.1.1.2
theorem dX5_age_19 : decode cX5_age 19 = .ok (.ifCond .ne 9, 3) := dbc_111.2.1.2.1
theorem dX5_age_22 : decode cX5_age 22 = .ok (.aload_n 0, 1) := dbc_111.2.1.2.2
theorem dX5_age_23 : decode cX5_age 23 = .ok (.iconst (-1), 1) := dbc_111.2.2.1.1
theorem dX5_age_24 : decode cX5_age 24 = .ok (.invokevirtual 65, 3) := dbc_111.2.2.1.2
theorem dX5_age_27 : decode cX5_age 27 = .ok (.ireturn, 1) := dbc_111.2.2.2.1
theorem dX5_age_28 : decode cX5_age 28 = .ok (.aload_n 0, 1) := dbc_111.2.2.2.2
theorem dbc_112 : (((((decode cX5_age 29 = .ok (.getfield 12, 3)) ∧ (decode cX5_age 32 = .ok (.iload_n 1, 1))) ∧ ((decode cX5_age 33 = .ok (.iload_n 2, 1)) ∧ (decode cX5_age 34 = .ok (.invokevirtual 140, 3)))) ∧ (((decode cX5_age 37 = .ok (.ifCond .eq 16, 3)) ∧ (decode cX5_age 40 = .ok (.aload_n 0, 1))) ∧ ((decode cX5_age 41 = .ok (.getfield 12, 3)) ∧ (decode cX5_age 44 = .ok (.iload_n 1, 1))))) ∧ ((((decode cX5_age 45 = .ok (.iload_n 2, 1)) ∧ (decode cX5_age 46 = .ok (.iconst 0, 1))) ∧ ((decode cX5_age 47 = .ok (.invokevirtual 144, 3)) ∧ (decode cX5_age 50 = .ok (.goto 5, 3)))) ∧ (((decode cX5_age 53 = .ok (.bipush (-9), 2)) ∧ (decode cX5_age 55 = .ok (.ireturn, 1))) ∧ ((decode cX5_house 0 = .ok (.iload_n 1, 1)) ∧ (decode cX5_house 1 = .ok (.ifCond .lt 9, 3)))))) := by decide +kernel
theorem dX5_age_29 : decode cX5_age 29 = .ok (.getfield 12, 3) := dbc_112.1.1.1.1
theorem dX5_age_32 : decode cX5_age 32 = .ok (.iload_n 1, 1) := dbc_112.1.1.1.2
theorem dX5_age_33 : decode cX5_age 33 = .ok (.iload_n 2, 1) := dbc_112.1.1.2.1
theorem dX5_age_34 : decode cX5_age 34 = .ok (.invokevirtual 140, 3) := dbc_112.1.1.2.2
theorem dX5_age_37 : decode cX5_age 37 = .ok (.ifCond .eq 16, 3) := dbc_112.1.2.1.1
theorem dX5_age_40 : decode cX5_age 40 = .ok (.aload_n 0, 1) := dbc_112.1.2.1.2
theorem dX5_age_41 : decode cX5_age 41 = .ok (.getfield 12, 3) := dbc_112.1.2.2.1
theorem dX5_age_44 : decode cX5_age 44 = .ok (.iload_n 1, 1) := dbc_112.1.2.2.2
theorem dX5_age_45 : decode cX5_age 45 = .ok (.iload_n 2, 1) := dbc_112.2.1.1.1
theorem dX5_age_46 : decode cX5_age 46 = .ok (.iconst 0, 1) := dbc_112.2.1.1.2
theorem dX5_age_47 : decode cX5_age 47 = .ok (.invokevirtual 144, 3) := dbc_112.2.1.2.1
theorem dX5_age_50 : decode cX5_age 50 = .ok (.goto 5, 3) := dbc_112.2.1.2.2
theorem dX5_age_53 : decode cX5_age 53 = .ok (.bipush (-9), 2) := dbc_112.2.2.1.1
theorem dX5_age_55 : decode cX5_age 55 = .ok (.ireturn, 1) := dbc_112.2.2.1.2
theorem dX5_house_0 : decode cX5_house 0 = .ok (.iload_n 1, 1) := dbc_112.2.2.2.1
theorem dX5_house_1 : decode cX5_house 1 = .ok (.ifCond .lt 9, 3) := dbc_112.2.2.2.2
theorem dbc_113 : (((((decode cX5_house 4 = .ok (.iload_n 1, 1)) ∧ (decode cX5_house 5 = .ok (.bipush 6, 2))) ∧ ((decode cX5_house 7 = .ok (.if_icmp .lt 10, 3)) ∧ (decode cX5_house 10 = .ok (.aload_n 0, 1)))) ∧ (((decode cX5_house 11 = .ok (.bipush (-2), 2)) ∧ (decode cX5_house 13 = .ok (.invokevirtual 65, 3))) ∧ ((decode cX5_house 16 = .ok (.ireturn, 1)) ∧ (decode cX5_house 17 = .ok (.iload_n 2, 1))))) ∧ ((((decode cX5_house 18 = .ok (.ifCond .ge 10, 3)) ∧ (decode cX5_house 21 = .ok (.aload_n 0, 1))) ∧ ((decode cX5_house 22 = .ok (.bipush (-4), 2)) ∧ (decode cX5_house 24 = .ok (.invokevirtual 65, 3)))) ∧ (((decode cX5_house 27 = .ok (.ireturn, 1)) ∧ (decode cX5_house 28 = .ok (.iload_n 2, 1))) ∧ ((decode cX5_house 29 = .ok (.bipush 10, 2)) ∧ (decode cX5_house 31 = .ok (.if_icmp .ge 15, 3)))))) := by decide +kernel
theorem dX5_house_4 : decode cX5_house 4 = .ok (.iload_n 1, 1) := dbc_113.1.1.1.1
theorem dX5_house_5 : decode cX5_house 5 = .ok (.bipush 6, 2) := dbc_113.1.1.1.2
theorem dX5_house_7 : decode cX5_house 7 = .ok (.if_icmp .lt 10, 3) := dbc_113.1.1.2.1
theorem dX5_house_10 : decode cX5_house 10 = .ok (.aload_n 0, 1) := dbc_113.1.1.2.2
theorem dX5_house_11 : decode cX5_house 11 = .ok (.bipush (-2), 2) := dbc_113.1.2.1.1
theorem dX5_house_13 : decode cX5_house 13 = .ok (.invokevirtual 65, 3) := dbc_113.1.2.1.2
theorem dX5_house_16 : decode cX5_house 16 = .ok (.ireturn, 1) := dbc_113.1.2.2.1
theorem dX5_house_17 : decode cX5_house 17 = .ok (.iload_n 2, 1) := dbc_113.1.2.2.2
theorem dX5_house_18 : decode cX5_house 18 = .ok (.ifCond .ge 10, 3) := dbc_113.2.1.1.1
theorem dX5_house_21 : decode cX5_house 21 = .ok (.aload_n 0, 1) := dbc_113.2.1.1.2
theorem dX5_house_22 : decode cX5_house 22 = .ok (.bipush (-4), 2) := dbc_113.2.1.2.1
theorem dX5_house_24 : decode cX5_house 24 = .ok (.invokevirtual 65, 3) := dbc_113.2.1.2.2
theorem dX5_house_27 : decode cX5_house 27 = .ok (.ireturn, 1) := dbc_113.2.2.1.1
theorem dX5_house_28 : decode cX5_house 28 = .ok (.iload_n 2, 1) := dbc_113.2.2.1.2
theorem dX5_house_29 : decode cX5_house 29 = .ok (.bipush 10, 2) := dbc_113.2.2.2.1
theorem dX5_house_31 : decode cX5_house 31 = .ok (.if_icmp .ge 15, 3) := dbc_113.2.2.2.2
theorem dbc_114 : (((((decode cX5_house 34 = .ok (.aload_n 0, 1)) ∧ (decode cX5_house 35 = .ok (.getfield 12, 3))) ∧ ((decode cX5_house 38 = .ok (.getfield 148, 3)) ∧ (decode cX5_house 41 = .ok (.bipush 7, 2)))) ∧ (((decode cX5_house 43 = .ok (.if_icmp .lt 10, 3)) ∧ (decode cX5_house 46 = .ok (.aload_n 0, 1))) ∧ ((decode cX5_house 47 = .ok (.bipush (-6), 2)) ∧ (decode cX5_house 49 = .ok (.invokevirtual 65, 3))))) ∧ ((((decode cX5_house 52 = .ok (.ireturn, 1)) ∧ (decode cX5_house 53 = .ok (.iload_n 3, 1))) ∧ ((decode cX5_house 54 = .ok (.invokestatic 151, 3)) ∧ (decode cX5_house 57 = .ok (.ifCond .ne 9, 3)))) ∧ (((decode cX5_house 60 = .ok (.aload_n 0, 1)) ∧ (decode cX5_house 61 = .ok (.iconst (-1), 1))) ∧ ((decode cX5_house 62 = .ok (.invokevirtual 65, 3)) ∧ (decode cX5_house 65 = .ok (.ireturn, 1)))))) := by decide +kernel
theorem dX5_house_34 : decode cX5_house 34 = .ok (.aload_n 0, 1) := dbc_114.1.1.1.1
theorem dX5_house_35 : decode cX5_house 35 = .ok (.getfield 12, 3) := dbc_114.1.1.1.2
theorem dX5_house_38 : decode cX5_house 38 = .ok (.getfield 148, 3) := dbc_114.1.1.2.1
theorem dX5_house_41 : decode cX5_house 41 = .ok (.bipush 7, 2) := dbc_114.1.1.2.2
theorem dX5_house_43 : decode cX5_house 43 = .ok (.if_icmp .lt 10, 3) := dbc_114.1.2.1.1
theorem dX5_house_46 : decode cX5_house 46 = .ok (.aload_n 0, 1) := dbc_114.1.2.1.2
theorem dX5_house_47 : decode cX5_house 47 = .ok (.bipush (-6), 2) := dbc_114.1.2.2.1
theorem dX5_house_49 : decode cX5_house 49 = .ok (.invokevirtual 65, 3) := dbc_114.1.2.2.2
theorem dX5_house_52 : decode cX5_house 52 = .ok (.ireturn, 1) := dbc_114.2.1.1.1
theorem dX5_house_53 : decode cX5_house 53 = .ok (.iload_n 3, 1) := dbc_114.2.1.1.2
theorem dX5_house_54 : decode cX5_house 54 = .ok (.invokestatic 151, 3) := dbc_114.2.1.2.1
theorem dX5_house_57 : decode cX5_house 57 = .ok (.ifCond .ne 9, 3) := dbc_114.2.1.2.2
theorem dX5_house_60 : decode cX5_house 60 = .ok (.aload_n 0, 1) := dbc_114.2.2.1.1
theorem dX5_house_61 : decode cX5_house 61 = .ok (.iconst (-1), 1) := dbc_114.2.2.1.2
theorem dX5_house_62 : decode cX5_house 62 = .ok (.invokevirtual 65, 3) := dbc_114.2.2.2.1
theorem dX5_house_65 : decode cX5_house 65 = .ok (.ireturn, 1) := dbc_114.2.2.2.2
theorem dbc_115 : (((((decode cX5_house 66 = .ok (.aload_n 0, 1)) ∧ (decode cX5_house 67 = .ok (.getfield 12, 3))) ∧ ((decode cX5_house 70 = .ok (.iload_n 1, 1)) ∧ (decode cX5_house 71 = .ok (.iload_n 2, 1)))) ∧ (((decode cX5_house 72 = .ok (.iload_n 3, 1)) ∧ (decode cX5_house 73 = .ok (.invokevirtual 154, 3))) ∧ ((decode cX5_house 76 = .ok (.pop, 1)) ∧ (decode cX5_house 77 = .ok (.aload_n 0, 1))))) ∧ ((((decode cX5_house 78 = .ok (.getfield 29, 3)) ∧ (decode cX5_house 81 = .ok (.invokevirtual 87, 3))) ∧ ((decode cX5_house 84 = .ok (.aload_n 0, 1)) ∧ (decode cX5_house 85 = .ok (.getfield 12, 3)))) ∧ (((decode cX5_house 88 = .ok (.getfield 148, 3)) ∧ (decode cX5_house 91 = .ok (.iconst 1, 1))) ∧ ((decode cX5_house 92 = .ok (.isub, 1)) ∧ (decode cX5_house 93 = .ok (.ireturn, 1)))))) := by decide +kernel
theorem dX5_house_66 : decode cX5_house 66 = .ok (.aload_n 0, 1) := dbc_115.1.1.1.1
theorem dX5_house_67 : decode cX5_house 67 = .ok (.getfield 12, 3) := dbc_115.1.1.1.2
theorem dX5_house_70 : decode cX5_house 70 = .ok (.iload_n 1, 1) := dbc_115.1.1.2.1
theorem dX5_house_71 : decode cX5_house 71 = .ok (.iload_n 2, 1) := dbc_115.1.1.2.2
theorem dX5_house_72 : decode cX5_house 72 = .ok (.iload_n 3, 1) := dbc_115.1.2.1.1
theorem dX5_house_73 : decode cX5_house 73 = .ok (.invokevirtual 154, 3) := dbc_115.1.2.1.2
theorem dX5_house_76 : decode cX5_house 76 = .ok (.pop, 1) := dbc_115.1.2.2.1
theorem dX5_house_77 : decode cX5_house 77 = .ok (.aload_n 0, 1) := dbc_115.1.2.2.2
theorem dX5_house_78 : decode cX5_house 78 = .ok (.getfield 29, 3) := dbc_115.2.1.1.1
theorem dX5_house_81 : decode cX5_house 81 = .ok (.invokevirtual 87, 3) := dbc_115.2.1.1.2
theorem dX5_house_84 : decode cX5_house 84 = .ok (.aload_n 0, 1) := dbc_115.2.1.2.1
theorem dX5_house_85 : decode cX5_house 85 = .ok (.getfield 12, 3) := dbc_115.2.1.2.2
theorem dX5_house_88 : decode cX5_house 88 = .ok (.getfield 148, 3) := dbc_115.2.2.1.1
theorem dX5_house_91 : decode cX5_house 91 = .ok (.iconst 1, 1) := dbc_115.2.2.1.2
theorem dX5_house_92 : decode cX5_house 92 = .ok (.isub, 1) := dbc_115.2.2.2.1
theorem dX5_house_93 : decode cX5_house 93 = .ok (.ireturn, 1) := dbc_115.2.2.2.2
theorem dbc_116 : (((((decode cX5_walker 0 = .ok (.iload_n 1, 1)) ∧ (decode cX5_walker 1 = .ok (.invokestatic 151, 3))) ∧ ((decode cX5_walker 4 = .ok (.ifCond .eq 10, 3)) ∧ (decode cX5_walker 7 = .ok (.iload_n 2, 1)))) ∧ (((decode cX5_walker 8 = .ok (.invokestatic 151, 3)) ∧ (decode cX5_walker 11 = .ok (.ifCond .ne 9, 3))) ∧ ((decode cX5_walker 14 = .ok (.aload_n 0, 1)) ∧ (decode cX5_walker 15 = .ok (.iconst (-1), 1))))) ∧ ((((decode cX5_walker 16 = .ok (.invokevirtual 65, 3)) ∧ (decode cX5_walker 19 = .ok (.ireturn, 1))) ∧ ((decode cX5_walker 20 = .ok (.iload_n 3, 1)) ∧ (decode cX5_walker 21 = .ok (.ifCond .ge 10, 3)))) ∧ (((decode cX5_walker 24 = .ok (.aload_n 0, 1)) ∧ (decode cX5_walker 25 = .ok (.bipush (-4), 2))) ∧ ((decode cX5_walker 27 = .ok (.invokevirtual 65, 3)) ∧ (decode cX5_walker 30 = .ok (.ireturn, 1)))))) := by decide +kernel
theorem dX5_walker_0 : decode cX5_walker 0 = .ok (.iload_n 1, 1) := dbc_116.1.1.1.1
theorem dX5_walker_1 : decode cX5_walker 1 = .ok (.invokestatic 151, 3) := dbc_116.1.1.1.2
theorem dX5_walker_4 : decode cX5_walker 4 = .ok (.ifCond .eq 10, 3) := dbc_116.1.1.2.1
theorem dX5_walker_7 : decode cX5_walker 7 = .ok (.iload_n 2, 1) := dbc_116.1.1.2.2
theorem dX5_walker_8 : decode cX5_walker 8 = .ok (.invokestatic 151, 3) := dbc_116.1.2.1.1
theorem dX5_walker_11 : decode cX5_walker 11 = .ok (.ifCond .ne 9, 3) := dbc_116.1.2.1.2
theorem dX5_walker_14 : decode cX5_walker 14 = .ok (.aload_n 0, 1) := dbc_116.1.2.2.1
theorem dX5_walker_15 : decode cX5_walker 15 = .ok (.iconst (-1), 1) := dbc_116.1.2.2.2
theorem dX5_walker_16 : decode cX5_walker 16 = .ok (.invokevirtual 65, 3) := dbc_116.2.1.1.1
theorem dX5_walker_19 : decode cX5_walker 19 = .ok (.ireturn, 1) := dbc_116.2.1.1.2
theorem dX5_walker_20 : decode cX5_walker 20 = .ok (.iload_n 3, 1) := dbc_116.2.1.2.1
theorem dX5_walker_21 : decode cX5_walker 21 = .ok (.ifCond .ge 10, 3) := dbc_116.2.1.2.2
theorem dX5_walker_24 : decode cX5_walker 24 = .ok (.aload_n 0, 1) := dbc_116.2.2.1.1
theorem dX5_walker_25 : decode cX5_walker 25 = .ok (.bipush (-4), 2) := dbc_116.2.2.1.2
theorem dX5_walker_27 : decode cX5_walker 27 = .ok (.invokevirtual 65, 3) := dbc_116.2.2.2.1
theorem dX5_walker_30 : decode cX5_walker 30 = .ok (.ireturn, 1) := dbc_116.2.2.2.2
theorem dbc_117 : (((((decode cX5_walker 31 = .ok (.iload_n 3, 1)) ∧ (decode cX5_walker 32 = .ok (.iconst 2, 1))) ∧ ((decode cX5_walker 33 = .ok (.if_icmp .gt 15, 3)) ∧ (decode cX5_walker 36 = .ok (.aload_n 0, 1)))) ∧ (((decode cX5_walker 37 = .ok (.getfield 12, 3)) ∧ (decode cX5_walker 40 = .ok (.getfield 158, 3))) ∧ ((decode cX5_walker 43 = .ok (.bipush 6, 2)) ∧ (decode cX5_walker 45 = .ok (.if_icmp .lt 10, 3))))) ∧ ((((decode cX5_walker 48 = .ok (.aload_n 0, 1)) ∧ (decode cX5_walker 49 = .ok (.bipush (-6), 2))) ∧ ((decode cX5_walker 51 = .ok (.invokevirtual 65, 3)) ∧ (decode cX5_walker 54 = .ok (.ireturn, 1)))) ∧ (((decode cX5_walker 55 = .ok (.aload_n 0, 1)) ∧ (decode cX5_walker 56 = .ok (.getfield 12, 3))) ∧ ((decode cX5_walker 59 = .ok (.iload_n 1, 1)) ∧ (decode cX5_walker 60 = .ok (.iload_n 2, 1)))))) := by decide +kernel
theorem dX5_walker_31 : decode cX5_walker 31 = .ok (.iload_n 3, 1) := dbc_117.1.1.1.1
theorem dX5_walker_32 : decode cX5_walker 32 = .ok (.iconst 2, 1) := dbc_117.1.1.1.2
theorem dX5_walker_33 : decode cX5_walker 33 = .ok (.if_icmp .gt 15, 3) := dbc_117.1.1.2.1
theorem dX5_walker_36 : decode cX5_walker 36 = .ok (.aload_n 0, 1) := dbc_117.1.1.2.2
theorem dX5_walker_37 : decode cX5_walker 37 = .ok (.getfield 12, 3) := dbc_117.1.2.1.1
theorem dX5_walker_40 : decode cX5_walker 40 = .ok (.getfield 158, 3) := dbc_117.1.2.1.2
theorem dX5_walker_43 : decode cX5_walker 43 = .ok (.bipush 6, 2) := dbc_117.1.2.2.1
theorem dX5_walker_45 : decode cX5_walker 45 = .ok (.if_icmp .lt 10, 3) := dbc_117.1.2.2.2
theorem dX5_walker_48 : decode cX5_walker 48 = .ok (.aload_n 0, 1) := dbc_117.2.1.1.1
theorem dX5_walker_49 : decode cX5_walker 49 = .ok (.bipush (-6), 2) := dbc_117.2.1.1.2
theorem dX5_walker_51 : decode cX5_walker 51 = .ok (.invokevirtual 65, 3) := dbc_117.2.1.2.1
theorem dX5_walker_54 : decode cX5_walker 54 = .ok (.ireturn, 1) := dbc_117.2.1.2.2
theorem dX5_walker_55 : decode cX5_walker 55 = .ok (.aload_n 0, 1) := dbc_117.2.2.1.1
theorem dX5_walker_56 : decode cX5_walker 56 = .ok (.getfield 12, 3) := dbc_117.2.2.1.2
theorem dX5_walker_59 : decode cX5_walker 59 = .ok (.iload_n 1, 1) := dbc_117.2.2.2.1
theorem dX5_walker_60 : decode cX5_walker 60 = .ok (.iload_n 2, 1) := dbc_117.2.2.2.2
theorem dbc_118 : (((((decode cX5_walker 61 = .ok (.iload_n 3, 1)) ∧ (decode cX5_walker 62 = .ok (.invokevirtual 161, 3))) ∧ ((decode cX5_walker 65 = .ok (.pop, 1)) ∧ (decode cX5_walker 66 = .ok (.aload_n 0, 1)))) ∧ (((decode cX5_walker 67 = .ok (.getfield 29, 3)) ∧ (decode cX5_walker 70 = .ok (.invokevirtual 87, 3))) ∧ ((decode cX5_walker 73 = .ok (.aload_n 0, 1)) ∧ (decode cX5_walker 74 = .ok (.getfield 12, 3))))) ∧ ((((decode cX5_walker 77 = .ok (.getfield 158, 3)) ∧ (decode cX5_walker 80 = .ok (.iconst 1, 1))) ∧ ((decode cX5_walker 81 = .ok (.isub, 1)) ∧ (decode cX5_walker 82 = .ok (.ireturn, 1)))) ∧ (((decode cX5_lights 0 = .ok (.aload_n 0, 1)) ∧ (decode cX5_lights 1 = .ok (.getfield 12, 3))) ∧ ((decode cX5_lights 4 = .ok (.iload_n 1, 1)) ∧ (decode cX5_lights 5 = .ok (.invokevirtual 90, 3)))))) := by decide +kernel
theorem dX5_walker_61 : decode cX5_walker 61 = .ok (.iload_n 3, 1) := dbc_118.1.1.1.1
theorem dX5_walker_62 : decode cX5_walker 62 = .ok (.invokevirtual 161, 3) := dbc_118.1.1.1.2
theorem dX5_walker_65 : decode cX5_walker 65 = .ok (.pop, 1) := dbc_118.1.1.2.1
theorem dX5_walker_66 : decode cX5_walker 66 = .ok (.aload_n 0, 1) := dbc_118.1.1.2.2
theorem dX5_walker_67 : decode cX5_walker 67 = .ok (.getfield 29, 3) := dbc_118.1.2.1.1
theorem dX5_walker_70 : decode cX5_walker 70 = .ok (.invokevirtual 87, 3) := dbc_118.1.2.1.2
theorem dX5_walker_73 : decode cX5_walker 73 = .ok (.aload_n 0, 1) := dbc_118.1.2.2.1
theorem dX5_walker_74 : decode cX5_walker 74 = .ok (.getfield 12, 3) := dbc_118.1.2.2.2
theorem dX5_walker_77 : decode cX5_walker 77 = .ok (.getfield 158, 3) := dbc_118.2.1.1.1
theorem dX5_walker_80 : decode cX5_walker 80 = .ok (.iconst 1, 1) := dbc_118.2.1.1.2
theorem dX5_walker_81 : decode cX5_walker 81 = .ok (.isub, 1) := dbc_118.2.1.2.1
theorem dX5_walker_82 : decode cX5_walker 82 = .ok (.ireturn, 1) := dbc_118.2.1.2.2
theorem dX5_lights_0 : decode cX5_lights 0 = .ok (.aload_n 0, 1) := dbc_118.2.2.1.1
theorem dX5_lights_1 : decode cX5_lights 1 = .ok (.getfield 12, 3) := dbc_118.2.2.1.2
theorem dX5_lights_4 : decode cX5_lights 4 = .ok (.iload_n 1, 1) := dbc_118.2.2.2.1
theorem dX5_lights_5 : decode cX5_lights 5 = .ok (.invokevirtual 90, 3) := dbc_118.2.2.2.2
theorem dbc_119 : (((((decode cX5_lights 8 = .ok (.ifCond .ne 9, 3)) ∧ (decode cX5_lights 11 = .ok (.aload_n 0, 1))) ∧ ((decode cX5_lights 12 = .ok (.iconst (-1), 1)) ∧ (decode cX5_lights 13 = .ok (.invokevirtual 65, 3)))) ∧ (((decode cX5_lights 16 = .ok (.ireturn, 1)) ∧ (decode cX5_lights 17 = .ok (.aload_n 0, 1))) ∧ ((decode cX5_lights 18 = .ok (.getfield 29, 3)) ∧ (decode cX5_lights 21 = .ok (.aload_n 0, 1))))) ∧ ((((decode cX5_lights 22 = .ok (.getfield 12, 3)) ∧ (decode cX5_lights 25 = .ok (.invokevirtual 164, 3))) ∧ ((decode cX5_lights 28 = .ok (.aload_n 0, 1)) ∧ (decode cX5_lights 29 = .ok (.getfield 12, 3)))) ∧ (((decode cX5_lights 32 = .ok (.iload_n 1, 1)) ∧ (decode cX5_lights 33 = .ok (.invokevirtual 167, 3))) ∧ ((decode cX5_lights 36 = .ok (.pop, 1)) ∧ (decode cX5_lights 37 = .ok (.aload_n 0, 1)))))) := by decide +kernel
theorem dX5_lights_8 : decode cX5_lights 8 = .ok (.ifCond .ne 9, 3) := dbc_119.1.1.1.1
theorem dX5_lights_11 : decode cX5_lights 11 = .ok (.aload_n 0, 1) := dbc_119.1.1.1.2
theorem dX5_lights_12 : decode cX5_lights 12 = .ok (.iconst (-1), 1) := dbc_119.1.1.2.1
theorem dX5_lights_13 : decode cX5_lights 13 = .ok (.invokevirtual 65, 3) := dbc_119.1.1.2.2
theorem dX5_lights_16 : decode cX5_lights 16 = .ok (.ireturn, 1) := dbc_119.1.2.1.1
theorem dX5_lights_17 : decode cX5_lights 17 = .ok (.aload_n 0, 1) := dbc_119.1.2.1.2
theorem dX5_lights_18 : decode cX5_lights 18 = .ok (.getfield 29, 3) := dbc_119.1.2.2.1
theorem dX5_lights_21 : decode cX5_lights 21 = .ok (.aload_n 0, 1) := dbc_119.1.2.2.2
theorem dX5_lights_22 : decode cX5_lights 22 = .ok (.getfield 12, 3) := dbc_119.2.1.1.1
theorem dX5_lights_25 : decode cX5_lights 25 = .ok (.invokevirtual 164, 3) := dbc_119.2.1.1.2
theorem dX5_lights_28 : decode cX5_lights 28 = .ok (.aload_n 0, 1) := dbc_119.2.1.2.1
theorem dX5_lights_29 : decode cX5_lights 29 = .ok (.getfield 12, 3) := dbc_119.2.1.2.2
theorem dX5_lights_32 : decode cX5_lights 32 = .ok (.iload_n 1, 1) := dbc_119.2.2.1.1
theorem dX5_lights_33 : decode cX5_lights 33 = .ok (.invokevirtual 167, 3) := dbc_119.2.2.1.2
theorem dX5_lights_36 : decode cX5_lights 36 = .ok (.pop, 1) := dbc_119.2.2.2.1
theorem dX5_lights_37 : decode cX5_lights 37 = .ok (.aload_n 0, 1) := dbc_119.2.2.2.2
theorem dbc_120 : (((((decode cX5_lights 38 = .ok (.getfield 12, 3)) ∧ (decode cX5_lights 41 = .ok (.iload_n 1, 1))) ∧ ((decode cX5_lights 42 = .ok (.invokevirtual 103, 3)) ∧ (decode cX5_lights 45 = .ok (.ifCond .eq 7, 3)))) ∧ (((decode cX5_lights 48 = .ok (.iconst 1, 1)) ∧ (decode cX5_lights 49 = .ok (.goto 4, 3))) ∧ ((decode cX5_lights 52 = .ok (.iconst 0, 1)) ∧ (decode cX5_lights 53 = .ok (.ireturn, 1))))) ∧ ((((decode cX5_goals 0 = .ok (.aload_n 0, 1)) ∧ (decode cX5_goals 1 = .ok (.getfield 12, 3))) ∧ ((decode cX5_goals 4 = .ok (.iload_n 1, 1)) ∧ (decode cX5_goals 5 = .ok (.invokevirtual 119, 3)))) ∧ (((decode cX5_goals 8 = .ok (.ifCond .eq 10, 3)) ∧ (decode cX5_goals 11 = .ok (.iload_n 2, 1))) ∧ ((decode cX5_goals 12 = .ok (.invokestatic 151, 3)) ∧ (decode cX5_goals 15 = .ok (.ifCond .ne 9, 3)))))) := by decide +kernel
theorem dX5_lights_38 : decode cX5_lights 38 = .ok (.getfield 12, 3) := dbc_120.1.1.1.1
theorem dX5_lights_41 : decode cX5_lights 41 = .ok (.iload_n 1, 1) := dbc_120.1.1.1.2
theorem dX5_lights_42 : decode cX5_lights 42 = .ok (.invokevirtual 103, 3) := dbc_120.1.1.2.1
theorem dX5_lights_45 : decode cX5_lights 45 = .ok (.ifCond .eq 7, 3) := dbc_120.1.1.2.2
theorem dX5_lights_48 : decode cX5_lights 48 = .ok (.iconst 1, 1) := dbc_120.1.2.1.1
theorem dX5_lights_49 : decode cX5_lights 49 = .ok (.goto 4, 3) := dbc_120.1.2.1.2
theorem dX5_lights_52 : decode cX5_lights 52 = .ok (.iconst 0, 1) := dbc_120.1.2.2.1
theorem dX5_lights_53 : decode cX5_lights 53 = .ok (.ireturn, 1) := dbc_120.1.2.2.2
theorem dX5_goals_0 : decode cX5_goals 0 = .ok (.aload_n 0, 1) := dbc_120.2.1.1.1
theorem dX5_goals_1 : decode cX5_goals 1 = .ok (.getfield 12, 3) := dbc_120.2.1.1.2
theorem dX5_goals_4 : decode cX5_goals 4 = .ok (.iload_n 1, 1) := dbc_120.2.1.2.1
theorem dX5_goals_5 : decode cX5_goals 5 = .ok (.invokevirtual 119, 3) := dbc_120.2.1.2.2
theorem dX5_goals_8 : decode cX5_goals 8 = .ok (.ifCond .eq 10, 3) := dbc_120.2.2.1.1
theorem dX5_goals_11 : decode cX5_goals 11 = .ok (.iload_n 2, 1) := dbc_120.2.2.1.2
theorem dX5_goals_12 : decode cX5_goals 12 = .ok (.invokestatic 151, 3) := dbc_120.2.2.2.1
theorem dX5_goals_15 : decode cX5_goals 15 = .ok (.ifCond .ne 9, 3) := dbc_120.2.2.2.2
theorem dbc_121 : (((((decode cX5_goals 18 = .ok (.aload_n 0, 1)) ∧ (decode cX5_goals 19 = .ok (.iconst (-1), 1))) ∧ ((decode cX5_goals 20 = .ok (.invokevirtual 65, 3)) ∧ (decode cX5_goals 23 = .ok (.ireturn, 1)))) ∧ (((decode cX5_goals 24 = .ok (.aload_n 0, 1)) ∧ (decode cX5_goals 25 = .ok (.getfield 12, 3))) ∧ ((decode cX5_goals 28 = .ok (.getfield 125, 3)) ∧ (decode cX5_goals 31 = .ok (.iload_n 1, 1))))) ∧ ((((decode cX5_goals 32 = .ok (.iaload, 1)) ∧ (decode cX5_goals 33 = .ok (.istore_n 3, 1))) ∧ ((decode cX5_goals 34 = .ok (.aload_n 0, 1)) ∧ (decode cX5_goals 35 = .ok (.getfield 29, 3)))) ∧ (((decode cX5_goals 38 = .ok (.aload_n 0, 1)) ∧ (decode cX5_goals 39 = .ok (.getfield 12, 3))) ∧ ((decode cX5_goals 42 = .ok (.invokevirtual 164, 3)) ∧ (decode cX5_goals 45 = .ok (.aload_n 0, 1)))))) := by decide +kernel
theorem dX5_goals_18 : decode cX5_goals 18 = .ok (.aload_n 0, 1) := dbc_121.1.1.1.1
theorem dX5_goals_19 : decode cX5_goals 19 = .ok (.iconst (-1), 1) := dbc_121.1.1.1.2
theorem dX5_goals_20 : decode cX5_goals 20 = .ok (.invokevirtual 65, 3) := dbc_121.1.1.2.1
theorem dX5_goals_23 : decode cX5_goals 23 = .ok (.ireturn, 1) := dbc_121.1.1.2.2
theorem dX5_goals_24 : decode cX5_goals 24 = .ok (.aload_n 0, 1) := dbc_121.1.2.1.1
theorem dX5_goals_25 : decode cX5_goals 25 = .ok (.getfield 12, 3) := dbc_121.1.2.1.2
theorem dX5_goals_28 : decode cX5_goals 28 = .ok (.getfield 125, 3) := dbc_121.1.2.2.1
theorem dX5_goals_31 : decode cX5_goals 31 = .ok (.iload_n 1, 1) := dbc_121.1.2.2.2
theorem dX5_goals_32 : decode cX5_goals 32 = .ok (.iaload, 1) := dbc_121.2.1.1.1
theorem dX5_goals_33 : decode cX5_goals 33 = .ok (.istore_n 3, 1) := dbc_121.2.1.1.2
theorem dX5_goals_34 : decode cX5_goals 34 = .ok (.aload_n 0, 1) := dbc_121.2.1.2.1
theorem dX5_goals_35 : decode cX5_goals 35 = .ok (.getfield 29, 3) := dbc_121.2.1.2.2
theorem dX5_goals_38 : decode cX5_goals 38 = .ok (.aload_n 0, 1) := dbc_121.2.2.1.1
theorem dX5_goals_39 : decode cX5_goals 39 = .ok (.getfield 12, 3) := dbc_121.2.2.1.2
theorem dX5_goals_42 : decode cX5_goals 42 = .ok (.invokevirtual 164, 3) := dbc_121.2.2.2.1
theorem dX5_goals_45 : decode cX5_goals 45 = .ok (.aload_n 0, 1) := dbc_121.2.2.2.2
theorem dbc_122 : (((((decode cX5_goals 46 = .ok (.getfield 12, 3)) ∧ (decode cX5_goals 49 = .ok (.iload_n 1, 1))) ∧ ((decode cX5_goals 50 = .ok (.iload_n 2, 1)) ∧ (decode cX5_goals 51 = .ok (.invokevirtual 170, 3)))) ∧ (((decode cX5_goals 54 = .ok (.pop, 1)) ∧ (decode cX5_goals 55 = .ok (.iload_n 3, 1))) ∧ ((decode cX5_goals 56 = .ok (.ireturn, 1)) ∧ (decode cX5_visits 0 = .ok (.aload_n 0, 1))))) ∧ ((((decode cX5_visits 1 = .ok (.getfield 12, 3)) ∧ (decode cX5_visits 4 = .ok (.iload_n 1, 1))) ∧ ((decode cX5_visits 5 = .ok (.invokevirtual 119, 3)) ∧ (decode cX5_visits 8 = .ok (.ifCond .eq 14, 3)))) ∧ (((decode cX5_visits 11 = .ok (.aload_n 0, 1)) ∧ (decode cX5_visits 12 = .ok (.getfield 12, 3))) ∧ ((decode cX5_visits 15 = .ok (.iload_n 2, 1)) ∧ (decode cX5_visits 16 = .ok (.invokevirtual 90, 3)))))) := by decide +kernel
theorem dX5_goals_46 : decode cX5_goals 46 = .ok (.getfield 12, 3) := dbc_122.1.1.1.1
theorem dX5_goals_49 : decode cX5_goals 49 = .ok (.iload_n 1, 1) := dbc_122.1.1.1.2
theorem dX5_goals_50 : decode cX5_goals 50 = .ok (.iload_n 2, 1) := dbc_122.1.1.2.1
theorem dX5_goals_51 : decode cX5_goals 51 = .ok (.invokevirtual 170, 3) := dbc_122.1.1.2.2
theorem dX5_goals_54 : decode cX5_goals 54 = .ok (.pop, 1) := dbc_122.1.2.1.1
theorem dX5_goals_55 : decode cX5_goals 55 = .ok (.iload_n 3, 1) := dbc_122.1.2.1.2
theorem dX5_goals_56 : decode cX5_goals 56 = .ok (.ireturn, 1) := dbc_122.1.2.2.1
theorem dX5_visits_0 : decode cX5_visits 0 = .ok (.aload_n 0, 1) := dbc_122.1.2.2.2
theorem dX5_visits_1 : decode cX5_visits 1 = .ok (.getfield 12, 3) := dbc_122.2.1.1.1
theorem dX5_visits_4 : decode cX5_visits 4 = .ok (.iload_n 1, 1) := dbc_122.2.1.1.2
theorem dX5_visits_5 : decode cX5_visits 5 = .ok (.invokevirtual 119, 3) := dbc_122.2.1.2.1
theorem dX5_visits_8 : decode cX5_visits 8 = .ok (.ifCond .eq 14, 3) := dbc_122.2.1.2.2
theorem dX5_visits_11 : decode cX5_visits 11 = .ok (.aload_n 0, 1) := dbc_122.2.2.1.1
theorem dX5_visits_12 : decode cX5_visits 12 = .ok (.getfield 12, 3) := dbc_122.2.2.1.2
theorem dX5_visits_15 : decode cX5_visits 15 = .ok (.iload_n 2, 1) := dbc_122.2.2.2.1
theorem dX5_visits_16 : decode cX5_visits 16 = .ok (.invokevirtual 90, 3) := dbc_122.2.2.2.2
theorem dbc_123 : (((((decode cX5_visits 19 = .ok (.ifCond .ne 9, 3)) ∧ (decode cX5_visits 22 = .ok (.aload_n 0, 1))) ∧ ((decode cX5_visits 23 = .ok (.iconst (-1), 1)) ∧ (decode cX5_visits 24 = .ok (.invokevirtual 65, 3)))) ∧ (((decode cX5_visits 27 = .ok (.ireturn, 1)) ∧ (decode cX5_visits 28 = .ok (.aload_n 0, 1))) ∧ ((decode cX5_visits 29 = .ok (.getfield 12, 3)) ∧ (decode cX5_visits 32 = .ok (.iload_n 1, 1))))) ∧ ((((decode cX5_visits 33 = .ok (.iload_n 2, 1)) ∧ (decode cX5_visits 34 = .ok (.invokevirtual 140, 3))) ∧ ((decode cX5_visits 37 = .ok (.ifCond .eq 24, 3)) ∧ (decode cX5_visits 40 = .ok (.aload_n 0, 1)))) ∧ (((decode cX5_visits 41 = .ok (.getfield 12, 3)) ∧ (decode cX5_visits 44 = .ok (.getfield 122, 3))) ∧ ((decode cX5_visits 47 = .ok (.iload_n 1, 1)) ∧ (decode cX5_visits 48 = .ok (.iaload, 1)))))) := by decide +kernel
theorem dX5_visits_19 : decode cX5_visits 19 = .ok (.ifCond .ne 9, 3) := dbc_123.1.1.1.1
theorem dX5_visits_22 : decode cX5_visits 22 = .ok (.aload_n 0, 1) := dbc_123.1.1.1.2
theorem dX5_visits_23 : decode cX5_visits 23 = .ok (.iconst (-1), 1) := dbc_123.1.1.2.1
theorem dX5_visits_24 : decode cX5_visits 24 = .ok (.invokevirtual 65, 3) := dbc_123.1.1.2.2
theorem dX5_visits_27 : decode cX5_visits 27 = .ok (.ireturn, 1) := dbc_123.1.2.1.1
theorem dX5_visits_28 : decode cX5_visits 28 = .ok (.aload_n 0, 1) := dbc_123.1.2.1.2
theorem dX5_visits_29 : decode cX5_visits 29 = .ok (.getfield 12, 3) := dbc_123.1.2.2.1
theorem dX5_visits_32 : decode cX5_visits 32 = .ok (.iload_n 1, 1) := dbc_123.1.2.2.2
theorem dX5_visits_33 : decode cX5_visits 33 = .ok (.iload_n 2, 1) := dbc_123.2.1.1.1
theorem dX5_visits_34 : decode cX5_visits 34 = .ok (.invokevirtual 140, 3) := dbc_123.2.1.1.2
theorem dX5_visits_37 : decode cX5_visits 37 = .ok (.ifCond .eq 24, 3) := dbc_123.2.1.2.1
theorem dX5_visits_40 : decode cX5_visits 40 = .ok (.aload_n 0, 1) := dbc_123.2.1.2.2
theorem dX5_visits_41 : decode cX5_visits 41 = .ok (.getfield 12, 3) := dbc_123.2.2.1.1
theorem dX5_visits_44 : decode cX5_visits 44 = .ok (.getfield 122, 3) := dbc_123.2.2.1.2
theorem dX5_visits_47 : decode cX5_visits 47 = .ok (.iload_n 1, 1) := dbc_123.2.2.2.1
theorem dX5_visits_48 : decode cX5_visits 48 = .ok (.iaload, 1) := dbc_123.2.2.2.2
theorem dbc_124 : (((((decode cX5_visits 49 = .ok (.aload_n 0, 1)) ∧ (decode cX5_visits 50 = .ok (.getfield 12, 3))) ∧ ((decode cX5_visits 53 = .ok (.getfield 100, 3)) ∧ (decode cX5_visits 56 = .ok (.iload_n 2, 1)))) ∧ (((decode cX5_visits 57 = .ok (.iaload, 1)) ∧ (decode cX5_visits 58 = .ok (.if_icmp .eq 10, 3))) ∧ ((decode cX5_visits 61 = .ok (.aload_n 0, 1)) ∧ (decode cX5_visits 62 = .ok (.bipush (-3), 2))))) ∧ ((((decode cX5_visits 64 = .ok (.invokevirtual 65, 3)) ∧ (decode cX5_visits 67 = .ok (.ireturn, 1))) ∧ ((decode cX5_visits 68 = .ok (.aload_n 0, 1)) ∧ (decode cX5_visits 69 = .ok (.getfield 12, 3)))) ∧ (((decode cX5_visits 72 = .ok (.iload_n 1, 1)) ∧ (decode cX5_visits 73 = .ok (.iload_n 2, 1))) ∧ ((decode cX5_visits 74 = .ok (.iconst 0, 1)) ∧ (decode cX5_visits 75 = .ok (.invokevirtual 173, 3)))))) := by decide +kernel
theorem dX5_visits_49 : decode cX5_visits 49 = .ok (.aload_n 0, 1) := dbc_124.1.1.1.1
theorem dX5_visits_50 : decode cX5_visits 50 = .ok (.getfield 12, 3) := dbc_124.1.1.1.2
theorem dX5_visits_53 : decode cX5_visits 53 = .ok (.getfield 100, 3) := dbc_124.1.1.2.1
theorem dX5_visits_56 : decode cX5_visits 56 = .ok (.iload_n 2, 1) := dbc_124.1.1.2.2
theorem dX5_visits_57 : decode cX5_visits 57 = .ok (.iaload, 1) := dbc_124.1.2.1.1
theorem dX5_visits_58 : decode cX5_visits 58 = .ok (.if_icmp .eq 10, 3) := dbc_124.1.2.1.2
theorem dX5_visits_61 : decode cX5_visits 61 = .ok (.aload_n 0, 1) := dbc_124.1.2.2.1
theorem dX5_visits_62 : decode cX5_visits 62 = .ok (.bipush (-3), 2) := dbc_124.1.2.2.2
theorem dX5_visits_64 : decode cX5_visits 64 = .ok (.invokevirtual 65, 3) := dbc_124.2.1.1.1
theorem dX5_visits_67 : decode cX5_visits 67 = .ok (.ireturn, 1) := dbc_124.2.1.1.2
theorem dX5_visits_68 : decode cX5_visits 68 = .ok (.aload_n 0, 1) := dbc_124.2.1.2.1
theorem dX5_visits_69 : decode cX5_visits 69 = .ok (.getfield 12, 3) := dbc_124.2.1.2.2
theorem dX5_visits_72 : decode cX5_visits 72 = .ok (.iload_n 1, 1) := dbc_124.2.2.1.1
theorem dX5_visits_73 : decode cX5_visits 73 = .ok (.iload_n 2, 1) := dbc_124.2.2.1.2
theorem dX5_visits_74 : decode cX5_visits 74 = .ok (.iconst 0, 1) := dbc_124.2.2.2.1
theorem dX5_visits_75 : decode cX5_visits 75 = .ok (.invokevirtual 173, 3) := dbc_124.2.2.2.2
theorem dbc_125 : (((((decode cX5_visits 78 = .ok (.istore_n 3, 1)) ∧ (decode cX5_visits 79 = .ok (.aload_n 0, 1))) ∧ ((decode cX5_visits 80 = .ok (.getfield 29, 3)) ∧ (decode cX5_visits 83 = .ok (.aload_n 0, 1)))) ∧ (((decode cX5_visits 84 = .ok (.getfield 12, 3)) ∧ (decode cX5_visits 87 = .ok (.invokevirtual 164, 3))) ∧ ((decode cX5_visits 90 = .ok (.aload_n 0, 1)) ∧ (decode cX5_visits 91 = .ok (.getfield 12, 3))))) ∧ ((((decode cX5_visits 94 = .ok (.iload_n 1, 1)) ∧ (decode cX5_visits 95 = .ok (.iload_n 2, 1))) ∧ ((decode cX5_visits 96 = .ok (.iconst (-1), 1)) ∧ (decode cX5_visits 97 = .ok (.invokevirtual 176, 3)))) ∧ (((decode cX5_visits 100 = .ok (.iload_n 3, 1)) ∧ (decode cX5_visits 101 = .ok (.ireturn, 1))) ∧ ((decode cX5_trades 0 = .ok (.aload_n 0, 1)) ∧ (decode cX5_trades 1 = .ok (.getfield 12, 3)))))) := by decide +kernel
theorem dX5_visits_78 : decode cX5_visits 78 = .ok (.istore_n 3, 1) := dbc_125.1.1.1.1
theorem dX5_visits_79 : decode cX5_visits 79 = .ok (.aload_n 0, 1) := dbc_125.1.1.1.2
theorem dX5_visits_80 : decode cX5_visits 80 = .ok (.getfield 29, 3) := dbc_125.1.1.2.1
theorem dX5_visits_83 : decode cX5_visits 83 = .ok (.aload_n 0, 1) := dbc_125.1.1.2.2
theorem dX5_visits_84 : decode cX5_visits 84 = .ok (.getfield 12, 3) := dbc_125.1.2.1.1
theorem dX5_visits_87 : decode cX5_visits 87 = .ok (.invokevirtual 164, 3) := dbc_125.1.2.1.2
theorem dX5_visits_90 : decode cX5_visits 90 = .ok (.aload_n 0, 1) := dbc_125.1.2.2.1
theorem dX5_visits_91 : decode cX5_visits 91 = .ok (.getfield 12, 3) := dbc_125.1.2.2.2
theorem dX5_visits_94 : decode cX5_visits 94 = .ok (.iload_n 1, 1) := dbc_125.2.1.1.1
theorem dX5_visits_95 : decode cX5_visits 95 = .ok (.iload_n 2, 1) := dbc_125.2.1.1.2
theorem dX5_visits_96 : decode cX5_visits 96 = .ok (.iconst (-1), 1) := dbc_125.2.1.2.1
theorem dX5_visits_97 : decode cX5_visits 97 = .ok (.invokevirtual 176, 3) := dbc_125.2.1.2.2
theorem dX5_visits_100 : decode cX5_visits 100 = .ok (.iload_n 3, 1) := dbc_125.2.2.1.1
theorem dX5_visits_101 : decode cX5_visits 101 = .ok (.ireturn, 1) := dbc_125.2.2.1.2
theorem dX5_trades_0 : decode cX5_trades 0 = .ok (.aload_n 0, 1) := dbc_125.2.2.2.1
theorem dX5_trades_1 : decode cX5_trades 1 = .ok (.getfield 12, 3) := dbc_125.2.2.2.2
theorem dbc_126 : (((((decode cX5_trades 4 = .ok (.iload_n 1, 1)) ∧ (decode cX5_trades 5 = .ok (.invokevirtual 90, 3))) ∧ ((decode cX5_trades 8 = .ok (.ifCond .eq 25, 3)) ∧ (decode cX5_trades 11 = .ok (.aload_n 0, 1)))) ∧ (((decode cX5_trades 12 = .ok (.getfield 12, 3)) ∧ (decode cX5_trades 15 = .ok (.iload_n 2, 1))) ∧ ((decode cX5_trades 16 = .ok (.invokevirtual 119, 3)) ∧ (decode cX5_trades 19 = .ok (.ifCond .eq 14, 3))))) ∧ ((((decode cX5_trades 22 = .ok (.aload_n 0, 1)) ∧ (decode cX5_trades 23 = .ok (.getfield 12, 3))) ∧ ((decode cX5_trades 26 = .ok (.iload_n 3, 1)) ∧ (decode cX5_trades 27 = .ok (.invokevirtual 119, 3)))) ∧ (((decode cX5_trades 30 = .ok (.ifCond .ne 9, 3)) ∧ (decode cX5_trades 33 = .ok (.aload_n 0, 1))) ∧ ((decode cX5_trades 34 = .ok (.iconst (-1), 1)) ∧ (decode cX5_trades 35 = .ok (.invokevirtual 65, 3)))))) := by decide +kernel
theorem dX5_trades_4 : decode cX5_trades 4 = .ok (.iload_n 1, 1) := dbc_126.1.1.1.1
theorem dX5_trades_5 : decode cX5_trades 5 = .ok (.invokevirtual 90, 3) := dbc_126.1.1.1.2
theorem dX5_trades_8 : decode cX5_trades 8 = .ok (.ifCond .eq 25, 3) := dbc_126.1.1.2.1
theorem dX5_trades_11 : decode cX5_trades 11 = .ok (.aload_n 0, 1) := dbc_126.1.1.2.2
theorem dX5_trades_12 : decode cX5_trades 12 = .ok (.getfield 12, 3) := dbc_126.1.2.1.1
theorem dX5_trades_15 : decode cX5_trades 15 = .ok (.iload_n 2, 1) := dbc_126.1.2.1.2
theorem dX5_trades_16 : decode cX5_trades 16 = .ok (.invokevirtual 119, 3) := dbc_126.1.2.2.1
theorem dX5_trades_19 : decode cX5_trades 19 = .ok (.ifCond .eq 14, 3) := dbc_126.1.2.2.2
theorem dX5_trades_22 : decode cX5_trades 22 = .ok (.aload_n 0, 1) := dbc_126.2.1.1.1
theorem dX5_trades_23 : decode cX5_trades 23 = .ok (.getfield 12, 3) := dbc_126.2.1.1.2
theorem dX5_trades_26 : decode cX5_trades 26 = .ok (.iload_n 3, 1) := dbc_126.2.1.2.1
theorem dX5_trades_27 : decode cX5_trades 27 = .ok (.invokevirtual 119, 3) := dbc_126.2.1.2.2
theorem dX5_trades_30 : decode cX5_trades 30 = .ok (.ifCond .ne 9, 3) := dbc_126.2.2.1.1
theorem dX5_trades_33 : decode cX5_trades 33 = .ok (.aload_n 0, 1) := dbc_126.2.2.1.2
theorem dX5_trades_34 : decode cX5_trades 34 = .ok (.iconst (-1), 1) := dbc_126.2.2.2.1
theorem dX5_trades_35 : decode cX5_trades 35 = .ok (.invokevirtual 65, 3) := dbc_126.2.2.2.2
theorem dbc_127 : (((((decode cX5_trades 38 = .ok (.ireturn, 1)) ∧ (decode cX5_trades 39 = .ok (.iload_n 2, 1))) ∧ ((decode cX5_trades 40 = .ok (.iload_n 3, 1)) ∧ (decode cX5_trades 41 = .ok (.if_icmp .ne 9, 3)))) ∧ (((decode cX5_trades 44 = .ok (.aload_n 0, 1)) ∧ (decode cX5_trades 45 = .ok (.iconst (-1), 1))) ∧ ((decode cX5_trades 46 = .ok (.invokevirtual 65, 3)) ∧ (decode cX5_trades 49 = .ok (.ireturn, 1))))) ∧ ((((decode cX5_trades 50 = .ok (.aload_n 0, 1)) ∧ (decode cX5_trades 51 = .ok (.getfield 12, 3))) ∧ ((decode cX5_trades 54 = .ok (.iload_n 2, 1)) ∧ (decode cX5_trades 55 = .ok (.iload_n 1, 1)))) ∧ (((decode cX5_trades 56 = .ok (.invokevirtual 140, 3)) ∧ (decode cX5_trades 59 = .ok (.ifCond .eq 15, 3))) ∧ ((decode cX5_trades 62 = .ok (.aload_n 0, 1)) ∧ (decode cX5_trades 63 = .ok (.getfield 12, 3)))))) := by decide +kernel
theorem dX5_trades_38 : decode cX5_trades 38 = .ok (.ireturn, 1) := dbc_127.1.1.1.1
theorem dX5_trades_39 : decode cX5_trades 39 = .ok (.iload_n 2, 1) := dbc_127.1.1.1.2
theorem dX5_trades_40 : decode cX5_trades 40 = .ok (.iload_n 3, 1) := dbc_127.1.1.2.1
theorem dX5_trades_41 : decode cX5_trades 41 = .ok (.if_icmp .ne 9, 3) := dbc_127.1.1.2.2
theorem dX5_trades_44 : decode cX5_trades 44 = .ok (.aload_n 0, 1) := dbc_127.1.2.1.1
theorem dX5_trades_45 : decode cX5_trades 45 = .ok (.iconst (-1), 1) := dbc_127.1.2.1.2
theorem dX5_trades_46 : decode cX5_trades 46 = .ok (.invokevirtual 65, 3) := dbc_127.1.2.2.1
theorem dX5_trades_49 : decode cX5_trades 49 = .ok (.ireturn, 1) := dbc_127.1.2.2.2
theorem dX5_trades_50 : decode cX5_trades 50 = .ok (.aload_n 0, 1) := dbc_127.2.1.1.1
theorem dX5_trades_51 : decode cX5_trades 51 = .ok (.getfield 12, 3) := dbc_127.2.1.1.2
theorem dX5_trades_54 : decode cX5_trades 54 = .ok (.iload_n 2, 1) := dbc_127.2.1.2.1
theorem dX5_trades_55 : decode cX5_trades 55 = .ok (.iload_n 1, 1) := dbc_127.2.1.2.2
theorem dX5_trades_56 : decode cX5_trades 56 = .ok (.invokevirtual 140, 3) := dbc_127.2.2.1.1
theorem dX5_trades_59 : decode cX5_trades 59 = .ok (.ifCond .eq 15, 3) := dbc_127.2.2.1.2
theorem dX5_trades_62 : decode cX5_trades 62 = .ok (.aload_n 0, 1) := dbc_127.2.2.2.1
theorem dX5_trades_63 : decode cX5_trades 63 = .ok (.getfield 12, 3) := dbc_127.2.2.2.2
theorem dbc_128 : (((((decode cX5_trades 66 = .ok (.iload_n 3, 1)) ∧ (decode cX5_trades 67 = .ok (.iload_n 1, 1))) ∧ ((decode cX5_trades 68 = .ok (.invokevirtual 140, 3)) ∧ (decode cX5_trades 71 = .ok (.ifCond .eq 10, 3)))) ∧ (((decode cX5_trades 74 = .ok (.aload_n 0, 1)) ∧ (decode cX5_trades 75 = .ok (.bipush (-3), 2))) ∧ ((decode cX5_trades 77 = .ok (.invokevirtual 65, 3)) ∧ (decode cX5_trades 80 = .ok (.ireturn, 1))))) ∧ ((((decode cX5_trades 81 = .ok (.aload_n 0, 1)) ∧ (decode cX5_trades 82 = .ok (.getfield 12, 3))) ∧ ((decode cX5_trades 85 = .ok (.iload_n 2, 1)) ∧ (decode cX5_trades 86 = .ok (.iload_n 1, 1)))) ∧ (((decode cX5_trades 87 = .ok (.iconst 0, 1)) ∧ (decode cX5_trades 88 = .ok (.invokevirtual 144, 3))) ∧ ((decode cX5_trades 91 = .ok (.istore 4, 2)) ∧ (decode cX5_trades 93 = .ok (.aload_n 0, 1)))))) := by decide +kernel
theorem dX5_trades_66 : decode cX5_trades 66 = .ok (.iload_n 3, 1) := dbc_128.1.1.1.1
theorem dX5_trades_67 : decode cX5_trades 67 = .ok (.iload_n 1, 1) := dbc_128.1.1.1.2
theorem dX5_trades_68 : decode cX5_trades 68 = .ok (.invokevirtual 140, 3) := dbc_128.1.1.2.1
theorem dX5_trades_71 : decode cX5_trades 71 = .ok (.ifCond .eq 10, 3) := dbc_128.1.1.2.2
theorem dX5_trades_74 : decode cX5_trades 74 = .ok (.aload_n 0, 1) := dbc_128.1.2.1.1
theorem dX5_trades_75 : decode cX5_trades 75 = .ok (.bipush (-3), 2) := dbc_128.1.2.1.2
theorem dX5_trades_77 : decode cX5_trades 77 = .ok (.invokevirtual 65, 3) := dbc_128.1.2.2.1
theorem dX5_trades_80 : decode cX5_trades 80 = .ok (.ireturn, 1) := dbc_128.1.2.2.2
theorem dX5_trades_81 : decode cX5_trades 81 = .ok (.aload_n 0, 1) := dbc_128.2.1.1.1
theorem dX5_trades_82 : decode cX5_trades 82 = .ok (.getfield 12, 3) := dbc_128.2.1.1.2
theorem dX5_trades_85 : decode cX5_trades 85 = .ok (.iload_n 2, 1) := dbc_128.2.1.2.1
theorem dX5_trades_86 : decode cX5_trades 86 = .ok (.iload_n 1, 1) := dbc_128.2.1.2.2
theorem dX5_trades_87 : decode cX5_trades 87 = .ok (.iconst 0, 1) := dbc_128.2.2.1.1
theorem dX5_trades_88 : decode cX5_trades 88 = .ok (.invokevirtual 144, 3) := dbc_128.2.2.1.2
theorem dX5_trades_91 : decode cX5_trades 91 = .ok (.istore 4, 2) := dbc_128.2.2.2.1
theorem dX5_trades_93 : decode cX5_trades 93 = .ok (.aload_n 0, 1) := dbc_128.2.2.2.2
theorem dbc_129 : (((((decode cX5_trades 94 = .ok (.getfield 29, 3)) ∧ (decode cX5_trades 97 = .ok (.aload_n 0, 1))) ∧ ((decode cX5_trades 98 = .ok (.getfield 12, 3)) ∧ (decode cX5_trades 101 = .ok (.invokevirtual 164, 3)))) ∧ (((decode cX5_trades 104 = .ok (.aload_n 0, 1)) ∧ (decode cX5_trades 105 = .ok (.getfield 12, 3))) ∧ ((decode cX5_trades 108 = .ok (.iload_n 2, 1)) ∧ (decode cX5_trades 109 = .ok (.iload_n 1, 1))))) ∧ ((((decode cX5_trades 110 = .ok (.iconst (-1), 1)) ∧ (decode cX5_trades 111 = .ok (.invokevirtual 176, 3))) ∧ ((decode cX5_trades 114 = .ok (.aload_n 0, 1)) ∧ (decode cX5_trades 115 = .ok (.getfield 12, 3)))) ∧ (((decode cX5_trades 118 = .ok (.iload_n 3, 1)) ∧ (decode cX5_trades 119 = .ok (.iload_n 1, 1))) ∧ ((decode cX5_trades 120 = .ok (.iload 4, 2)) ∧ (decode cX5_trades 122 = .ok (.invokevirtual 176, 3)))))) := by decide +kernel
theorem dX5_trades_94 : decode cX5_trades 94 = .ok (.getfield 29, 3) := dbc_129.1.1.1.1
theorem dX5_trades_97 : decode cX5_trades 97 = .ok (.aload_n 0, 1) := dbc_129.1.1.1.2
theorem dX5_trades_98 : decode cX5_trades 98 = .ok (.getfield 12, 3) := dbc_129.1.1.2.1
theorem dX5_trades_101 : decode cX5_trades 101 = .ok (.invokevirtual 164, 3) := dbc_129.1.1.2.2
theorem dX5_trades_104 : decode cX5_trades 104 = .ok (.aload_n 0, 1) := dbc_129.1.2.1.1
theorem dX5_trades_105 : decode cX5_trades 105 = .ok (.getfield 12, 3) := dbc_129.1.2.1.2
theorem dX5_trades_108 : decode cX5_trades 108 = .ok (.iload_n 2, 1) := dbc_129.1.2.2.1
theorem dX5_trades_109 : decode cX5_trades 109 = .ok (.iload_n 1, 1) := dbc_129.1.2.2.2
theorem dX5_trades_110 : decode cX5_trades 110 = .ok (.iconst (-1), 1) := dbc_129.2.1.1.1
theorem dX5_trades_111 : decode cX5_trades 111 = .ok (.invokevirtual 176, 3) := dbc_129.2.1.1.2
theorem dX5_trades_114 : decode cX5_trades 114 = .ok (.aload_n 0, 1) := dbc_129.2.1.2.1
theorem dX5_trades_115 : decode cX5_trades 115 = .ok (.getfield 12, 3) := dbc_129.2.1.2.2
theorem dX5_trades_118 : decode cX5_trades 118 = .ok (.iload_n 3, 1) := dbc_129.2.2.1.1
theorem dX5_trades_119 : decode cX5_trades 119 = .ok (.iload_n 1, 1) := dbc_129.2.2.1.2
theorem dX5_trades_120 : decode cX5_trades 120 = .ok (.iload 4, 2) := dbc_129.2.2.2.1
theorem dX5_trades_122 : decode cX5_trades 122 = .ok (.invokevirtual 176, 3) := dbc_129.2.2.2.2
theorem dbc_130 : (((((decode cX5_trades 125 = .ok (.iload 4, 2)) ∧ (decode cX5_trades 127 = .ok (.ireturn, 1))) ∧ ((decode cX5_evenings 0 = .ok (.iload_n 1, 1)) ∧ (decode cX5_evenings 1 = .ok (.iconst 1, 1)))) ∧ (((decode cX5_evenings 2 = .ok (.if_icmp .ge 10, 3)) ∧ (decode cX5_evenings 5 = .ok (.aload_n 0, 1))) ∧ ((decode cX5_evenings 6 = .ok (.bipush (-4), 2)) ∧ (decode cX5_evenings 8 = .ok (.invokevirtual 65, 3))))) ∧ ((((decode cX5_evenings 11 = .ok (.ireturn, 1)) ∧ (decode cX5_evenings 12 = .ok (.iload_n 1, 1))) ∧ ((decode cX5_evenings 13 = .ok (.bipush 60, 2)) ∧ (decode cX5_evenings 15 = .ok (.if_icmp .gt 18, 3)))) ∧ (((decode cX5_evenings 18 = .ok (.aload_n 0, 1)) ∧ (decode cX5_evenings 19 = .ok (.getfield 12, 3))) ∧ ((decode cX5_evenings 22 = .ok (.getfield 180, 3)) ∧ (decode cX5_evenings 25 = .ok (.iload_n 1, 1)))))) := by decide +kernel
theorem dX5_trades_125 : decode cX5_trades 125 = .ok (.iload 4, 2) := dbc_130.1.1.1.1
theorem dX5_trades_127 : decode cX5_trades 127 = .ok (.ireturn, 1) := dbc_130.1.1.1.2
theorem dX5_evenings_0 : decode cX5_evenings 0 = .ok (.iload_n 1, 1) := dbc_130.1.1.2.1
theorem dX5_evenings_1 : decode cX5_evenings 1 = .ok (.iconst 1, 1) := dbc_130.1.1.2.2
theorem dX5_evenings_2 : decode cX5_evenings 2 = .ok (.if_icmp .ge 10, 3) := dbc_130.1.2.1.1
theorem dX5_evenings_5 : decode cX5_evenings 5 = .ok (.aload_n 0, 1) := dbc_130.1.2.1.2
theorem dX5_evenings_6 : decode cX5_evenings 6 = .ok (.bipush (-4), 2) := dbc_130.1.2.2.1
theorem dX5_evenings_8 : decode cX5_evenings 8 = .ok (.invokevirtual 65, 3) := dbc_130.1.2.2.2
theorem dX5_evenings_11 : decode cX5_evenings 11 = .ok (.ireturn, 1) := dbc_130.2.1.1.1
theorem dX5_evenings_12 : decode cX5_evenings 12 = .ok (.iload_n 1, 1) := dbc_130.2.1.1.2
theorem dX5_evenings_13 : decode cX5_evenings 13 = .ok (.bipush 60, 2) := dbc_130.2.1.2.1
theorem dX5_evenings_15 : decode cX5_evenings 15 = .ok (.if_icmp .gt 18, 3) := dbc_130.2.1.2.2
theorem dX5_evenings_18 : decode cX5_evenings 18 = .ok (.aload_n 0, 1) := dbc_130.2.2.1.1
theorem dX5_evenings_19 : decode cX5_evenings 19 = .ok (.getfield 12, 3) := dbc_130.2.2.1.2
theorem dX5_evenings_22 : decode cX5_evenings 22 = .ok (.getfield 180, 3) := dbc_130.2.2.2.1
theorem dX5_evenings_25 : decode cX5_evenings 25 = .ok (.iload_n 1, 1) := dbc_130.2.2.2.2
theorem dbc_131 : (((((decode cX5_evenings 26 = .ok (.iadd, 1)) ∧ (decode cX5_evenings 27 = .ok (.sipush 999, 3))) ∧ ((decode cX5_evenings 30 = .ok (.if_icmp .le 10, 3)) ∧ (decode cX5_evenings 33 = .ok (.aload_n 0, 1)))) ∧ (((decode cX5_evenings 34 = .ok (.bipush (-6), 2)) ∧ (decode cX5_evenings 36 = .ok (.invokevirtual 65, 3))) ∧ ((decode cX5_evenings 39 = .ok (.ireturn, 1)) ∧ (decode cX5_evenings 40 = .ok (.aload_n 0, 1))))) ∧ ((((decode cX5_evenings 41 = .ok (.getfield 29, 3)) ∧ (decode cX5_evenings 44 = .ok (.aload_n 0, 1))) ∧ ((decode cX5_evenings 45 = .ok (.getfield 12, 3)) ∧ (decode cX5_evenings 48 = .ok (.invokevirtual 164, 3)))) ∧ (((decode cX5_evenings 51 = .ok (.aload_n 0, 1)) ∧ (decode cX5_evenings 52 = .ok (.getfield 12, 3))) ∧ ((decode cX5_evenings 55 = .ok (.iload_n 1, 1)) ∧ (decode cX5_evenings 56 = .ok (.invokevirtual 183, 3)))))) := by decide +kernel
theorem dX5_evenings_26 : decode cX5_evenings 26 = .ok (.iadd, 1) := dbc_131.1.1.1.1
theorem dX5_evenings_27 : decode cX5_evenings 27 = .ok (.sipush 999, 3) := dbc_131.1.1.1.2
theorem dX5_evenings_30 : decode cX5_evenings 30 = .ok (.if_icmp .le 10, 3) := dbc_131.1.1.2.1
theorem dX5_evenings_33 : decode cX5_evenings 33 = .ok (.aload_n 0, 1) := dbc_131.1.1.2.2
theorem dX5_evenings_34 : decode cX5_evenings 34 = .ok (.bipush (-6), 2) := dbc_131.1.2.1.1
theorem dX5_evenings_36 : decode cX5_evenings 36 = .ok (.invokevirtual 65, 3) := dbc_131.1.2.1.2
theorem dX5_evenings_39 : decode cX5_evenings 39 = .ok (.ireturn, 1) := dbc_131.1.2.2.1
theorem dX5_evenings_40 : decode cX5_evenings 40 = .ok (.aload_n 0, 1) := dbc_131.1.2.2.2
theorem dX5_evenings_41 : decode cX5_evenings 41 = .ok (.getfield 29, 3) := dbc_131.2.1.1.1
theorem dX5_evenings_44 : decode cX5_evenings 44 = .ok (.aload_n 0, 1) := dbc_131.2.1.1.2
theorem dX5_evenings_45 : decode cX5_evenings 45 = .ok (.getfield 12, 3) := dbc_131.2.1.2.1
theorem dX5_evenings_48 : decode cX5_evenings 48 = .ok (.invokevirtual 164, 3) := dbc_131.2.1.2.2
theorem dX5_evenings_51 : decode cX5_evenings 51 = .ok (.aload_n 0, 1) := dbc_131.2.2.1.1
theorem dX5_evenings_52 : decode cX5_evenings 52 = .ok (.getfield 12, 3) := dbc_131.2.2.1.2
theorem dX5_evenings_55 : decode cX5_evenings 55 = .ok (.iload_n 1, 1) := dbc_131.2.2.2.1
theorem dX5_evenings_56 : decode cX5_evenings 56 = .ok (.invokevirtual 183, 3) := dbc_131.2.2.2.2
theorem dbc_132 : (((((decode cX5_evenings 59 = .ok (.pop, 1)) ∧ (decode cX5_evenings 60 = .ok (.aload_n 0, 1))) ∧ ((decode cX5_evenings 61 = .ok (.getfield 12, 3)) ∧ (decode cX5_evenings 64 = .ok (.iconst 0, 1)))) ∧ (((decode cX5_evenings 65 = .ok (.invokevirtual 186, 3)) ∧ (decode cX5_evenings 68 = .ok (.ireturn, 1))) ∧ ((decode cX5_back 0 = .ok (.aload_n 0, 1)) ∧ (decode cX5_back 1 = .ok (.getfield 29, 3))))) ∧ ((((decode cX5_back 4 = .ok (.getfield 189, 3)) ∧ (decode cX5_back 7 = .ok (.ifCond .ne 10, 3))) ∧ ((decode cX5_back 10 = .ok (.aload_n 0, 1)) ∧ (decode cX5_back 11 = .ok (.bipush (-3), 2)))) ∧ (((decode cX5_back 13 = .ok (.invokevirtual 65, 3)) ∧ (decode cX5_back 16 = .ok (.ireturn, 1))) ∧ ((decode cX5_back 17 = .ok (.aload_n 0, 1)) ∧ (decode cX5_back 18 = .ok (.getfield 29, 3)))))) := by decide +kernel
theorem dX5_evenings_59 : decode cX5_evenings 59 = .ok (.pop, 1) := dbc_132.1.1.1.1
theorem dX5_evenings_60 : decode cX5_evenings 60 = .ok (.aload_n 0, 1) := dbc_132.1.1.1.2
theorem dX5_evenings_61 : decode cX5_evenings 61 = .ok (.getfield 12, 3) := dbc_132.1.1.2.1
theorem dX5_evenings_64 : decode cX5_evenings 64 = .ok (.iconst 0, 1) := dbc_132.1.1.2.2
theorem dX5_evenings_65 : decode cX5_evenings 65 = .ok (.invokevirtual 186, 3) := dbc_132.1.2.1.1
theorem dX5_evenings_68 : decode cX5_evenings 68 = .ok (.ireturn, 1) := dbc_132.1.2.1.2
theorem dX5_back_0 : decode cX5_back 0 = .ok (.aload_n 0, 1) := dbc_132.1.2.2.1
theorem dX5_back_1 : decode cX5_back 1 = .ok (.getfield 29, 3) := dbc_132.1.2.2.2
theorem dX5_back_4 : decode cX5_back 4 = .ok (.getfield 189, 3) := dbc_132.2.1.1.1
theorem dX5_back_7 : decode cX5_back 7 = .ok (.ifCond .ne 10, 3) := dbc_132.2.1.1.2
theorem dX5_back_10 : decode cX5_back 10 = .ok (.aload_n 0, 1) := dbc_132.2.1.2.1
theorem dX5_back_11 : decode cX5_back 11 = .ok (.bipush (-3), 2) := dbc_132.2.1.2.2
theorem dX5_back_13 : decode cX5_back 13 = .ok (.invokevirtual 65, 3) := dbc_132.2.2.1.1
theorem dX5_back_16 : decode cX5_back 16 = .ok (.ireturn, 1) := dbc_132.2.2.1.2
theorem dX5_back_17 : decode cX5_back 17 = .ok (.aload_n 0, 1) := dbc_132.2.2.2.1
theorem dX5_back_18 : decode cX5_back 18 = .ok (.getfield 29, 3) := dbc_132.2.2.2.2
theorem dbc_133 : (((((decode cX5_back 21 = .ok (.aload_n 0, 1)) ∧ (decode cX5_back 22 = .ok (.getfield 12, 3))) ∧ ((decode cX5_back 25 = .ok (.invokevirtual 192, 3)) ∧ (decode cX5_back 28 = .ok (.aload_n 0, 1)))) ∧ (((decode cX5_back 29 = .ok (.getfield 29, 3)) ∧ (decode cX5_back 32 = .ok (.getfield 189, 3))) ∧ ((decode cX5_back 35 = .ok (.ireturn, 1)) ∧ (decode cX5_walkerIn 0 = .ok (.aload_n 0, 1))))) ∧ ((((decode cX5_walkerIn 1 = .ok (.getfield 12, 3)) ∧ (decode cX5_walkerIn 4 = .ok (.iload_n 1, 1))) ∧ ((decode cX5_walkerIn 5 = .ok (.invokevirtual 119, 3)) ∧ (decode cX5_walkerIn 8 = .ok (.ifCond .ne 9, 3)))) ∧ (((decode cX5_walkerIn 11 = .ok (.aload_n 0, 1)) ∧ (decode cX5_walkerIn 12 = .ok (.iconst (-1), 1))) ∧ ((decode cX5_walkerIn 13 = .ok (.invokevirtual 65, 3)) ∧ (decode cX5_walkerIn 16 = .ok (.ireturn, 1)))))) := by decide +kernel
theorem dX5_back_21 : decode cX5_back 21 = .ok (.aload_n 0, 1) := dbc_133.1.1.1.1
theorem dX5_back_22 : decode cX5_back 22 = .ok (.getfield 12, 3) := dbc_133.1.1.1.2
theorem dX5_back_25 : decode cX5_back 25 = .ok (.invokevirtual 192, 3) := dbc_133.1.1.2.1
theorem dX5_back_28 : decode cX5_back 28 = .ok (.aload_n 0, 1) := dbc_133.1.1.2.2
theorem dX5_back_29 : decode cX5_back 29 = .ok (.getfield 29, 3) := dbc_133.1.2.1.1
theorem dX5_back_32 : decode cX5_back 32 = .ok (.getfield 189, 3) := dbc_133.1.2.1.2
theorem dX5_back_35 : decode cX5_back 35 = .ok (.ireturn, 1) := dbc_133.1.2.2.1
theorem dX5_walkerIn_0 : decode cX5_walkerIn 0 = .ok (.aload_n 0, 1) := dbc_133.1.2.2.2
theorem dX5_walkerIn_1 : decode cX5_walkerIn 1 = .ok (.getfield 12, 3) := dbc_133.2.1.1.1
theorem dX5_walkerIn_4 : decode cX5_walkerIn 4 = .ok (.iload_n 1, 1) := dbc_133.2.1.1.2
theorem dX5_walkerIn_5 : decode cX5_walkerIn 5 = .ok (.invokevirtual 119, 3) := dbc_133.2.1.2.1
theorem dX5_walkerIn_8 : decode cX5_walkerIn 8 = .ok (.ifCond .ne 9, 3) := dbc_133.2.1.2.2
theorem dX5_walkerIn_11 : decode cX5_walkerIn 11 = .ok (.aload_n 0, 1) := dbc_133.2.2.1.1
theorem dX5_walkerIn_12 : decode cX5_walkerIn 12 = .ok (.iconst (-1), 1) := dbc_133.2.2.1.2
theorem dX5_walkerIn_13 : decode cX5_walkerIn 13 = .ok (.invokevirtual 65, 3) := dbc_133.2.2.2.1
theorem dX5_walkerIn_16 : decode cX5_walkerIn 16 = .ok (.ireturn, 1) := dbc_133.2.2.2.2
theorem dbc_134 : (((((decode cX5_walkerIn 17 = .ok (.iload_n 2, 1)) ∧ (decode cX5_walkerIn 18 = .ok (.ifCond .ge 10, 3))) ∧ ((decode cX5_walkerIn 21 = .ok (.aload_n 0, 1)) ∧ (decode cX5_walkerIn 22 = .ok (.bipush (-4), 2)))) ∧ (((decode cX5_walkerIn 24 = .ok (.invokevirtual 65, 3)) ∧ (decode cX5_walkerIn 27 = .ok (.ireturn, 1))) ∧ ((decode cX5_walkerIn 28 = .ok (.iload_n 2, 1)) ∧ (decode cX5_walkerIn 29 = .ok (.bipush 60, 2))))) ∧ ((((decode cX5_walkerIn 31 = .ok (.if_icmp .le 10, 3)) ∧ (decode cX5_walkerIn 34 = .ok (.aload_n 0, 1))) ∧ ((decode cX5_walkerIn 35 = .ok (.bipush (-6), 2)) ∧ (decode cX5_walkerIn 37 = .ok (.invokevirtual 65, 3)))) ∧ (((decode cX5_walkerIn 40 = .ok (.ireturn, 1)) ∧ (decode cX5_walkerIn 41 = .ok (.iload_n 3, 1))) ∧ ((decode cX5_walkerIn 42 = .ok (.tableswitch 56 0 2 #[26, 36, 46], 26)) ∧ (decode cX5_walkerIn 68 = .ok (.aload_n 0, 1)))))) := by decide +kernel
theorem dX5_walkerIn_17 : decode cX5_walkerIn 17 = .ok (.iload_n 2, 1) := dbc_134.1.1.1.1
theorem dX5_walkerIn_18 : decode cX5_walkerIn 18 = .ok (.ifCond .ge 10, 3) := dbc_134.1.1.1.2
theorem dX5_walkerIn_21 : decode cX5_walkerIn 21 = .ok (.aload_n 0, 1) := dbc_134.1.1.2.1
theorem dX5_walkerIn_22 : decode cX5_walkerIn 22 = .ok (.bipush (-4), 2) := dbc_134.1.1.2.2
theorem dX5_walkerIn_24 : decode cX5_walkerIn 24 = .ok (.invokevirtual 65, 3) := dbc_134.1.2.1.1
theorem dX5_walkerIn_27 : decode cX5_walkerIn 27 = .ok (.ireturn, 1) := dbc_134.1.2.1.2
theorem dX5_walkerIn_28 : decode cX5_walkerIn 28 = .ok (.iload_n 2, 1) := dbc_134.1.2.2.1
theorem dX5_walkerIn_29 : decode cX5_walkerIn 29 = .ok (.bipush 60, 2) := dbc_134.1.2.2.2
theorem dX5_walkerIn_31 : decode cX5_walkerIn 31 = .ok (.if_icmp .le 10, 3) := dbc_134.2.1.1.1
theorem dX5_walkerIn_34 : decode cX5_walkerIn 34 = .ok (.aload_n 0, 1) := dbc_134.2.1.1.2
theorem dX5_walkerIn_35 : decode cX5_walkerIn 35 = .ok (.bipush (-6), 2) := dbc_134.2.1.2.1
theorem dX5_walkerIn_37 : decode cX5_walkerIn 37 = .ok (.invokevirtual 65, 3) := dbc_134.2.1.2.2
theorem dX5_walkerIn_40 : decode cX5_walkerIn 40 = .ok (.ireturn, 1) := dbc_134.2.2.1.1
theorem dX5_walkerIn_41 : decode cX5_walkerIn 41 = .ok (.iload_n 3, 1) := dbc_134.2.2.1.2
theorem dX5_walkerIn_42 : decode cX5_walkerIn 42 = .ok (.tableswitch 56 0 2 #[26, 36, 46], 26) := dbc_134.2.2.2.1
theorem dX5_walkerIn_68 : decode cX5_walkerIn 68 = .ok (.aload_n 0, 1) := dbc_134.2.2.2.2
theorem dbc_135 : (((((decode cX5_walkerIn 69 = .ok (.getfield 12, 3)) ∧ (decode cX5_walkerIn 72 = .ok (.iload_n 1, 1))) ∧ ((decode cX5_walkerIn 73 = .ok (.iload_n 2, 1)) ∧ (decode cX5_walkerIn 74 = .ok (.invokevirtual 195, 3)))) ∧ (((decode cX5_walkerIn 77 = .ok (.ireturn, 1)) ∧ (decode cX5_walkerIn 78 = .ok (.aload_n 0, 1))) ∧ ((decode cX5_walkerIn 79 = .ok (.getfield 12, 3)) ∧ (decode cX5_walkerIn 82 = .ok (.iload_n 1, 1))))) ∧ ((((decode cX5_walkerIn 83 = .ok (.iload_n 2, 1)) ∧ (decode cX5_walkerIn 84 = .ok (.invokevirtual 131, 3))) ∧ ((decode cX5_walkerIn 87 = .ok (.ireturn, 1)) ∧ (decode cX5_walkerIn 88 = .ok (.aload_n 0, 1)))) ∧ (((decode cX5_walkerIn 89 = .ok (.getfield 12, 3)) ∧ (decode cX5_walkerIn 92 = .ok (.iload_n 1, 1))) ∧ ((decode cX5_walkerIn 93 = .ok (.iload_n 2, 1)) ∧ (decode cX5_walkerIn 94 = .ok (.invokevirtual 137, 3)))))) := by decide +kernel
theorem dX5_walkerIn_69 : decode cX5_walkerIn 69 = .ok (.getfield 12, 3) := dbc_135.1.1.1.1
theorem dX5_walkerIn_72 : decode cX5_walkerIn 72 = .ok (.iload_n 1, 1) := dbc_135.1.1.1.2
theorem dX5_walkerIn_73 : decode cX5_walkerIn 73 = .ok (.iload_n 2, 1) := dbc_135.1.1.2.1
theorem dX5_walkerIn_74 : decode cX5_walkerIn 74 = .ok (.invokevirtual 195, 3) := dbc_135.1.1.2.2
theorem dX5_walkerIn_77 : decode cX5_walkerIn 77 = .ok (.ireturn, 1) := dbc_135.1.2.1.1
theorem dX5_walkerIn_78 : decode cX5_walkerIn 78 = .ok (.aload_n 0, 1) := dbc_135.1.2.1.2
theorem dX5_walkerIn_79 : decode cX5_walkerIn 79 = .ok (.getfield 12, 3) := dbc_135.1.2.2.1
theorem dX5_walkerIn_82 : decode cX5_walkerIn 82 = .ok (.iload_n 1, 1) := dbc_135.1.2.2.2
theorem dX5_walkerIn_83 : decode cX5_walkerIn 83 = .ok (.iload_n 2, 1) := dbc_135.2.1.1.1
theorem dX5_walkerIn_84 : decode cX5_walkerIn 84 = .ok (.invokevirtual 131, 3) := dbc_135.2.1.1.2
theorem dX5_walkerIn_87 : decode cX5_walkerIn 87 = .ok (.ireturn, 1) := dbc_135.2.1.2.1
theorem dX5_walkerIn_88 : decode cX5_walkerIn 88 = .ok (.aload_n 0, 1) := dbc_135.2.1.2.2
theorem dX5_walkerIn_89 : decode cX5_walkerIn 89 = .ok (.getfield 12, 3) := dbc_135.2.2.1.1
theorem dX5_walkerIn_92 : decode cX5_walkerIn 92 = .ok (.iload_n 1, 1) := dbc_135.2.2.1.2
theorem dX5_walkerIn_93 : decode cX5_walkerIn 93 = .ok (.iload_n 2, 1) := dbc_135.2.2.2.1
theorem dX5_walkerIn_94 : decode cX5_walkerIn 94 = .ok (.invokevirtual 137, 3) := dbc_135.2.2.2.2
theorem dbc_136 : (((((decode cX5_walkerIn 97 = .ok (.ireturn, 1)) ∧ (decode cX5_walkerIn 98 = .ok (.aload_n 0, 1))) ∧ ((decode cX5_walkerIn 99 = .ok (.bipush (-2), 2)) ∧ (decode cX5_walkerIn 101 = .ok (.invokevirtual 65, 3)))) ∧ (((decode cX5_walkerIn 104 = .ok (.ireturn, 1)) ∧ (decode cX5_prices 0 = .ok (.iload_n 1, 1))) ∧ ((decode cX5_prices 1 = .ok (.ifCond .ge 10, 3)) ∧ (decode cX5_prices 4 = .ok (.aload_n 0, 1))))) ∧ ((((decode cX5_prices 5 = .ok (.bipush (-4), 2)) ∧ (decode cX5_prices 7 = .ok (.invokevirtual 65, 3))) ∧ ((decode cX5_prices 10 = .ok (.ireturn, 1)) ∧ (decode cX5_prices 11 = .ok (.iload_n 1, 1)))) ∧ (((decode cX5_prices 12 = .ok (.bipush 60, 2)) ∧ (decode cX5_prices 14 = .ok (.if_icmp .le 10, 3))) ∧ ((decode cX5_prices 17 = .ok (.aload_n 0, 1)) ∧ (decode cX5_prices 18 = .ok (.bipush (-6), 2)))))) := by decide +kernel
theorem dX5_walkerIn_97 : decode cX5_walkerIn 97 = .ok (.ireturn, 1) := dbc_136.1.1.1.1
theorem dX5_walkerIn_98 : decode cX5_walkerIn 98 = .ok (.aload_n 0, 1) := dbc_136.1.1.1.2
theorem dX5_walkerIn_99 : decode cX5_walkerIn 99 = .ok (.bipush (-2), 2) := dbc_136.1.1.2.1
theorem dX5_walkerIn_101 : decode cX5_walkerIn 101 = .ok (.invokevirtual 65, 3) := dbc_136.1.1.2.2
theorem dX5_walkerIn_104 : decode cX5_walkerIn 104 = .ok (.ireturn, 1) := dbc_136.1.2.1.1
theorem dX5_prices_0 : decode cX5_prices 0 = .ok (.iload_n 1, 1) := dbc_136.1.2.1.2
theorem dX5_prices_1 : decode cX5_prices 1 = .ok (.ifCond .ge 10, 3) := dbc_136.1.2.2.1
theorem dX5_prices_4 : decode cX5_prices 4 = .ok (.aload_n 0, 1) := dbc_136.1.2.2.2
theorem dX5_prices_5 : decode cX5_prices 5 = .ok (.bipush (-4), 2) := dbc_136.2.1.1.1
theorem dX5_prices_7 : decode cX5_prices 7 = .ok (.invokevirtual 65, 3) := dbc_136.2.1.1.2
theorem dX5_prices_10 : decode cX5_prices 10 = .ok (.ireturn, 1) := dbc_136.2.1.2.1
theorem dX5_prices_11 : decode cX5_prices 11 = .ok (.iload_n 1, 1) := dbc_136.2.1.2.2
theorem dX5_prices_12 : decode cX5_prices 12 = .ok (.bipush 60, 2) := dbc_136.2.2.1.1
theorem dX5_prices_14 : decode cX5_prices 14 = .ok (.if_icmp .le 10, 3) := dbc_136.2.2.1.2
theorem dX5_prices_17 : decode cX5_prices 17 = .ok (.aload_n 0, 1) := dbc_136.2.2.2.1
theorem dX5_prices_18 : decode cX5_prices 18 = .ok (.bipush (-6), 2) := dbc_136.2.2.2.2
theorem dbc_137 : (((((decode cX5_prices 20 = .ok (.invokevirtual 65, 3)) ∧ (decode cX5_prices 23 = .ok (.ireturn, 1))) ∧ ((decode cX5_prices 24 = .ok (.aload_n 0, 1)) ∧ (decode cX5_prices 25 = .ok (.getfield 12, 3)))) ∧ (((decode cX5_prices 28 = .ok (.iload_n 1, 1)) ∧ (decode cX5_prices 29 = .ok (.invokevirtual 198, 3))) ∧ ((decode cX5_prices 32 = .ok (.ireturn, 1)) ∧ (decode cX5_owed 0 = .ok (.aload_n 0, 1))))) ∧ ((((decode cX5_owed 1 = .ok (.getfield 12, 3)) ∧ (decode cX5_owed 4 = .ok (.iload_n 1, 1))) ∧ ((decode cX5_owed 5 = .ok (.invokevirtual 119, 3)) ∧ (decode cX5_owed 8 = .ok (.ifCond .eq 14, 3)))) ∧ (((decode cX5_owed 11 = .ok (.aload_n 0, 1)) ∧ (decode cX5_owed 12 = .ok (.getfield 12, 3))) ∧ ((decode cX5_owed 15 = .ok (.iload_n 2, 1)) ∧ (decode cX5_owed 16 = .ok (.invokevirtual 90, 3)))))) := by decide +kernel
theorem dX5_prices_20 : decode cX5_prices 20 = .ok (.invokevirtual 65, 3) := dbc_137.1.1.1.1
theorem dX5_prices_23 : decode cX5_prices 23 = .ok (.ireturn, 1) := dbc_137.1.1.1.2
theorem dX5_prices_24 : decode cX5_prices 24 = .ok (.aload_n 0, 1) := dbc_137.1.1.2.1
theorem dX5_prices_25 : decode cX5_prices 25 = .ok (.getfield 12, 3) := dbc_137.1.1.2.2
theorem dX5_prices_28 : decode cX5_prices 28 = .ok (.iload_n 1, 1) := dbc_137.1.2.1.1
theorem dX5_prices_29 : decode cX5_prices 29 = .ok (.invokevirtual 198, 3) := dbc_137.1.2.1.2
theorem dX5_prices_32 : decode cX5_prices 32 = .ok (.ireturn, 1) := dbc_137.1.2.2.1
theorem dX5_owed_0 : decode cX5_owed 0 = .ok (.aload_n 0, 1) := dbc_137.1.2.2.2
theorem dX5_owed_1 : decode cX5_owed 1 = .ok (.getfield 12, 3) := dbc_137.2.1.1.1
theorem dX5_owed_4 : decode cX5_owed 4 = .ok (.iload_n 1, 1) := dbc_137.2.1.1.2
theorem dX5_owed_5 : decode cX5_owed 5 = .ok (.invokevirtual 119, 3) := dbc_137.2.1.2.1
theorem dX5_owed_8 : decode cX5_owed 8 = .ok (.ifCond .eq 14, 3) := dbc_137.2.1.2.2
theorem dX5_owed_11 : decode cX5_owed 11 = .ok (.aload_n 0, 1) := dbc_137.2.2.1.1
theorem dX5_owed_12 : decode cX5_owed 12 = .ok (.getfield 12, 3) := dbc_137.2.2.1.2
theorem dX5_owed_15 : decode cX5_owed 15 = .ok (.iload_n 2, 1) := dbc_137.2.2.2.1
theorem dX5_owed_16 : decode cX5_owed 16 = .ok (.invokevirtual 90, 3) := dbc_137.2.2.2.2
theorem dbc_138 : (((((decode cX5_owed 19 = .ok (.ifCond .ne 9, 3)) ∧ (decode cX5_owed 22 = .ok (.aload_n 0, 1))) ∧ ((decode cX5_owed 23 = .ok (.iconst (-1), 1)) ∧ (decode cX5_owed 24 = .ok (.invokevirtual 65, 3)))) ∧ (((decode cX5_owed 27 = .ok (.ireturn, 1)) ∧ (decode cX5_owed 28 = .ok (.aload_n 0, 1))) ∧ ((decode cX5_owed 29 = .ok (.getfield 12, 3)) ∧ (decode cX5_owed 32 = .ok (.iload_n 1, 1))))) ∧ ((((decode cX5_owed 33 = .ok (.iload_n 2, 1)) ∧ (decode cX5_owed 34 = .ok (.invokevirtual 140, 3))) ∧ ((decode cX5_owed 37 = .ok (.ifCond .eq 5, 3)) ∧ (decode cX5_owed 40 = .ok (.iconst 0, 1)))) ∧ (((decode cX5_owed 41 = .ok (.ireturn, 1)) ∧ (decode cX5_owed 42 = .ok (.aload_n 0, 1))) ∧ ((decode cX5_owed 43 = .ok (.getfield 12, 3)) ∧ (decode cX5_owed 46 = .ok (.iload_n 1, 1)))))) := by decide +kernel
theorem dX5_owed_19 : decode cX5_owed 19 = .ok (.ifCond .ne 9, 3) := dbc_138.1.1.1.1
theorem dX5_owed_22 : decode cX5_owed 22 = .ok (.aload_n 0, 1) := dbc_138.1.1.1.2
theorem dX5_owed_23 : decode cX5_owed 23 = .ok (.iconst (-1), 1) := dbc_138.1.1.2.1
theorem dX5_owed_24 : decode cX5_owed 24 = .ok (.invokevirtual 65, 3) := dbc_138.1.1.2.2
theorem dX5_owed_27 : decode cX5_owed 27 = .ok (.ireturn, 1) := dbc_138.1.2.1.1
theorem dX5_owed_28 : decode cX5_owed 28 = .ok (.aload_n 0, 1) := dbc_138.1.2.1.2
theorem dX5_owed_29 : decode cX5_owed 29 = .ok (.getfield 12, 3) := dbc_138.1.2.2.1
theorem dX5_owed_32 : decode cX5_owed 32 = .ok (.iload_n 1, 1) := dbc_138.1.2.2.2
theorem dX5_owed_33 : decode cX5_owed 33 = .ok (.iload_n 2, 1) := dbc_138.2.1.1.1
theorem dX5_owed_34 : decode cX5_owed 34 = .ok (.invokevirtual 140, 3) := dbc_138.2.1.1.2
theorem dX5_owed_37 : decode cX5_owed 37 = .ok (.ifCond .eq 5, 3) := dbc_138.2.1.2.1
theorem dX5_owed_40 : decode cX5_owed 40 = .ok (.iconst 0, 1) := dbc_138.2.1.2.2
theorem dX5_owed_41 : decode cX5_owed 41 = .ok (.ireturn, 1) := dbc_138.2.2.1.1
theorem dX5_owed_42 : decode cX5_owed 42 = .ok (.aload_n 0, 1) := dbc_138.2.2.1.2
theorem dX5_owed_43 : decode cX5_owed 43 = .ok (.getfield 12, 3) := dbc_138.2.2.2.1
theorem dX5_owed_46 : decode cX5_owed 46 = .ok (.iload_n 1, 1) := dbc_138.2.2.2.2
theorem dbc_139 : (((((decode cX5_owed 47 = .ok (.iload_n 2, 1)) ∧ (decode cX5_owed 48 = .ok (.bipush 60, 2))) ∧ ((decode cX5_owed 50 = .ok (.invokevirtual 201, 3)) ∧ (decode cX5_owed 53 = .ok (.ireturn, 1)))) ∧ (((decode cX5_home 0 = .ok (.aload_n 0, 1)) ∧ (decode cX5_home 1 = .ok (.getfield 12, 3))) ∧ ((decode cX5_home 4 = .ok (.iload_n 1, 1)) ∧ (decode cX5_home 5 = .ok (.invokevirtual 119, 3))))) ∧ ((((decode cX5_home 8 = .ok (.ifCond .ne 9, 3)) ∧ (decode cX5_home 11 = .ok (.aload_n 0, 1))) ∧ ((decode cX5_home 12 = .ok (.iconst (-1), 1)) ∧ (decode cX5_home 13 = .ok (.invokevirtual 65, 3)))) ∧ (((decode cX5_home 16 = .ok (.ireturn, 1)) ∧ (decode cX5_home 17 = .ok (.aload_n 0, 1))) ∧ ((decode cX5_home 18 = .ok (.getfield 12, 3)) ∧ (decode cX5_home 21 = .ok (.getfield 122, 3)))))) := by decide +kernel
theorem dX5_owed_47 : decode cX5_owed 47 = .ok (.iload_n 2, 1) := dbc_139.1.1.1.1
theorem dX5_owed_48 : decode cX5_owed 48 = .ok (.bipush 60, 2) := dbc_139.1.1.1.2
theorem dX5_owed_50 : decode cX5_owed 50 = .ok (.invokevirtual 201, 3) := dbc_139.1.1.2.1
theorem dX5_owed_53 : decode cX5_owed 53 = .ok (.ireturn, 1) := dbc_139.1.1.2.2
theorem dX5_home_0 : decode cX5_home 0 = .ok (.aload_n 0, 1) := dbc_139.1.2.1.1
theorem dX5_home_1 : decode cX5_home 1 = .ok (.getfield 12, 3) := dbc_139.1.2.1.2
theorem dX5_home_4 : decode cX5_home 4 = .ok (.iload_n 1, 1) := dbc_139.1.2.2.1
theorem dX5_home_5 : decode cX5_home 5 = .ok (.invokevirtual 119, 3) := dbc_139.1.2.2.2
theorem dX5_home_8 : decode cX5_home 8 = .ok (.ifCond .ne 9, 3) := dbc_139.2.1.1.1
theorem dX5_home_11 : decode cX5_home 11 = .ok (.aload_n 0, 1) := dbc_139.2.1.1.2
theorem dX5_home_12 : decode cX5_home 12 = .ok (.iconst (-1), 1) := dbc_139.2.1.2.1
theorem dX5_home_13 : decode cX5_home 13 = .ok (.invokevirtual 65, 3) := dbc_139.2.1.2.2
theorem dX5_home_16 : decode cX5_home 16 = .ok (.ireturn, 1) := dbc_139.2.2.1.1
theorem dX5_home_17 : decode cX5_home 17 = .ok (.aload_n 0, 1) := dbc_139.2.2.1.2
theorem dX5_home_18 : decode cX5_home 18 = .ok (.getfield 12, 3) := dbc_139.2.2.2.1
theorem dX5_home_21 : decode cX5_home 21 = .ok (.getfield 122, 3) := dbc_139.2.2.2.2
theorem dbc_140 : (((((decode cX5_home 24 = .ok (.iload_n 1, 1)) ∧ (decode cX5_home 25 = .ok (.iaload, 1))) ∧ ((decode cX5_home 26 = .ok (.aload_n 0, 1)) ∧ (decode cX5_home 27 = .ok (.getfield 12, 3)))) ∧ (((decode cX5_home 30 = .ok (.getfield 125, 3)) ∧ (decode cX5_home 33 = .ok (.iload_n 1, 1))) ∧ ((decode cX5_home 34 = .ok (.iaload, 1)) ∧ (decode cX5_home 35 = .ok (.invokestatic 204, 3))))) ∧ ((((decode cX5_home 38 = .ok (.ireturn, 1)) ∧ (decode cX5_richest 0 = .ok (.iload_n 1, 1))) ∧ ((decode cX5_richest 1 = .ok (.ifCond .eq 15, 3)) ∧ (decode cX5_richest 4 = .ok (.iload_n 1, 1)))) ∧ (((decode cX5_richest 5 = .ok (.iconst 1, 1)) ∧ (decode cX5_richest 6 = .ok (.if_icmp .eq 10, 3))) ∧ ((decode cX5_richest 9 = .ok (.aload_n 0, 1)) ∧ (decode cX5_richest 10 = .ok (.bipush (-2), 2)))))) := by decide +kernel
theorem dX5_home_24 : decode cX5_home 24 = .ok (.iload_n 1, 1) := dbc_140.1.1.1.1
theorem dX5_home_25 : decode cX5_home 25 = .ok (.iaload, 1) := dbc_140.1.1.1.2
theorem dX5_home_26 : decode cX5_home 26 = .ok (.aload_n 0, 1) := dbc_140.1.1.2.1
theorem dX5_home_27 : decode cX5_home 27 = .ok (.getfield 12, 3) := dbc_140.1.1.2.2
theorem dX5_home_30 : decode cX5_home 30 = .ok (.getfield 125, 3) := dbc_140.1.2.1.1
theorem dX5_home_33 : decode cX5_home 33 = .ok (.iload_n 1, 1) := dbc_140.1.2.1.2
theorem dX5_home_34 : decode cX5_home 34 = .ok (.iaload, 1) := dbc_140.1.2.2.1
theorem dX5_home_35 : decode cX5_home 35 = .ok (.invokestatic 204, 3) := dbc_140.1.2.2.2
theorem dX5_home_38 : decode cX5_home 38 = .ok (.ireturn, 1) := dbc_140.2.1.1.1
theorem dX5_richest_0 : decode cX5_richest 0 = .ok (.iload_n 1, 1) := dbc_140.2.1.1.2
theorem dX5_richest_1 : decode cX5_richest 1 = .ok (.ifCond .eq 15, 3) := dbc_140.2.1.2.1
theorem dX5_richest_4 : decode cX5_richest 4 = .ok (.iload_n 1, 1) := dbc_140.2.1.2.2
theorem dX5_richest_5 : decode cX5_richest 5 = .ok (.iconst 1, 1) := dbc_140.2.2.1.1
theorem dX5_richest_6 : decode cX5_richest 6 = .ok (.if_icmp .eq 10, 3) := dbc_140.2.2.1.2
theorem dX5_richest_9 : decode cX5_richest 9 = .ok (.aload_n 0, 1) := dbc_140.2.2.2.1
theorem dX5_richest_10 : decode cX5_richest 10 = .ok (.bipush (-2), 2) := dbc_140.2.2.2.2
theorem dbc_141 : (((((decode cX5_richest 12 = .ok (.invokevirtual 65, 3)) ∧ (decode cX5_richest 15 = .ok (.ireturn, 1))) ∧ ((decode cX5_richest 16 = .ok (.iload_n 1, 1)) ∧ (decode cX5_richest 17 = .ok (.ifCond .ne 10, 3)))) ∧ (((decode cX5_richest 20 = .ok (.aload_n 0, 1)) ∧ (decode cX5_richest 21 = .ok (.invokevirtual 207, 3))) ∧ ((decode cX5_richest 24 = .ok (.goto 7, 3)) ∧ (decode cX5_richest 27 = .ok (.aload_n 0, 1))))) ∧ ((((decode cX5_richest 28 = .ok (.invokevirtual 211, 3)) ∧ (decode cX5_richest 31 = .ok (.ireturn, 1))) ∧ ((decode cX5_way 0 = .ok (.aload_n 0, 1)) ∧ (decode cX5_way 1 = .ok (.getfield 12, 3)))) ∧ (((decode cX5_way 4 = .ok (.iload_n 1, 1)) ∧ (decode cX5_way 5 = .ok (.invokevirtual 119, 3))) ∧ ((decode cX5_way 8 = .ok (.ifCond .eq 10, 3)) ∧ (decode cX5_way 11 = .ok (.iload_n 2, 1)))))) := by decide +kernel
theorem dX5_richest_12 : decode cX5_richest 12 = .ok (.invokevirtual 65, 3) := dbc_141.1.1.1.1
theorem dX5_richest_15 : decode cX5_richest 15 = .ok (.ireturn, 1) := dbc_141.1.1.1.2
theorem dX5_richest_16 : decode cX5_richest 16 = .ok (.iload_n 1, 1) := dbc_141.1.1.2.1
theorem dX5_richest_17 : decode cX5_richest 17 = .ok (.ifCond .ne 10, 3) := dbc_141.1.1.2.2
theorem dX5_richest_20 : decode cX5_richest 20 = .ok (.aload_n 0, 1) := dbc_141.1.2.1.1
theorem dX5_richest_21 : decode cX5_richest 21 = .ok (.invokevirtual 207, 3) := dbc_141.1.2.1.2
theorem dX5_richest_24 : decode cX5_richest 24 = .ok (.goto 7, 3) := dbc_141.1.2.2.1
theorem dX5_richest_27 : decode cX5_richest 27 = .ok (.aload_n 0, 1) := dbc_141.1.2.2.2
theorem dX5_richest_28 : decode cX5_richest 28 = .ok (.invokevirtual 211, 3) := dbc_141.2.1.1.1
theorem dX5_richest_31 : decode cX5_richest 31 = .ok (.ireturn, 1) := dbc_141.2.1.1.2
theorem dX5_way_0 : decode cX5_way 0 = .ok (.aload_n 0, 1) := dbc_141.2.1.2.1
theorem dX5_way_1 : decode cX5_way 1 = .ok (.getfield 12, 3) := dbc_141.2.1.2.2
theorem dX5_way_4 : decode cX5_way 4 = .ok (.iload_n 1, 1) := dbc_141.2.2.1.1
theorem dX5_way_5 : decode cX5_way 5 = .ok (.invokevirtual 119, 3) := dbc_141.2.2.1.2
theorem dX5_way_8 : decode cX5_way 8 = .ok (.ifCond .eq 10, 3) := dbc_141.2.2.2.1
theorem dX5_way_11 : decode cX5_way 11 = .ok (.iload_n 2, 1) := dbc_141.2.2.2.2
theorem dbc_142 : (((((decode cX5_way 12 = .ok (.invokestatic 151, 3)) ∧ (decode cX5_way 15 = .ok (.ifCond .ne 9, 3))) ∧ ((decode cX5_way 18 = .ok (.aload_n 0, 1)) ∧ (decode cX5_way 19 = .ok (.iconst (-1), 1)))) ∧ (((decode cX5_way 20 = .ok (.invokevirtual 65, 3)) ∧ (decode cX5_way 23 = .ok (.ireturn, 1))) ∧ ((decode cX5_way 24 = .ok (.iload_n 3, 1)) ∧ (decode cX5_way 25 = .ok (.ifCond .eq 15, 3))))) ∧ ((((decode cX5_way 28 = .ok (.iload_n 3, 1)) ∧ (decode cX5_way 29 = .ok (.iconst 1, 1))) ∧ ((decode cX5_way 30 = .ok (.if_icmp .eq 10, 3)) ∧ (decode cX5_way 33 = .ok (.aload_n 0, 1)))) ∧ (((decode cX5_way 34 = .ok (.bipush (-2), 2)) ∧ (decode cX5_way 36 = .ok (.invokevirtual 65, 3))) ∧ ((decode cX5_way 39 = .ok (.ireturn, 1)) ∧ (decode cX5_way 40 = .ok (.aload_n 0, 1)))))) := by decide +kernel
theorem dX5_way_12 : decode cX5_way 12 = .ok (.invokestatic 151, 3) := dbc_142.1.1.1.1
theorem dX5_way_15 : decode cX5_way 15 = .ok (.ifCond .ne 9, 3) := dbc_142.1.1.1.2
theorem dX5_way_18 : decode cX5_way 18 = .ok (.aload_n 0, 1) := dbc_142.1.1.2.1
theorem dX5_way_19 : decode cX5_way 19 = .ok (.iconst (-1), 1) := dbc_142.1.1.2.2
theorem dX5_way_20 : decode cX5_way 20 = .ok (.invokevirtual 65, 3) := dbc_142.1.2.1.1
theorem dX5_way_23 : decode cX5_way 23 = .ok (.ireturn, 1) := dbc_142.1.2.1.2
theorem dX5_way_24 : decode cX5_way 24 = .ok (.iload_n 3, 1) := dbc_142.1.2.2.1
theorem dX5_way_25 : decode cX5_way 25 = .ok (.ifCond .eq 15, 3) := dbc_142.1.2.2.2
theorem dX5_way_28 : decode cX5_way 28 = .ok (.iload_n 3, 1) := dbc_142.2.1.1.1
theorem dX5_way_29 : decode cX5_way 29 = .ok (.iconst 1, 1) := dbc_142.2.1.1.2
theorem dX5_way_30 : decode cX5_way 30 = .ok (.if_icmp .eq 10, 3) := dbc_142.2.1.2.1
theorem dX5_way_33 : decode cX5_way 33 = .ok (.aload_n 0, 1) := dbc_142.2.1.2.2
theorem dX5_way_34 : decode cX5_way 34 = .ok (.bipush (-2), 2) := dbc_142.2.2.1.1
theorem dX5_way_36 : decode cX5_way 36 = .ok (.invokevirtual 65, 3) := dbc_142.2.2.1.2
theorem dX5_way_39 : decode cX5_way 39 = .ok (.ireturn, 1) := dbc_142.2.2.2.1
theorem dX5_way_40 : decode cX5_way 40 = .ok (.aload_n 0, 1) := dbc_142.2.2.2.2
theorem dbc_143 : (((((decode cX5_way 41 = .ok (.getfield 43, 3)) ∧ (decode cX5_way 44 = .ok (.aload_n 0, 1))) ∧ ((decode cX5_way 45 = .ok (.getfield 12, 3)) ∧ (decode cX5_way 48 = .ok (.iload_n 1, 1)))) ∧ (((decode cX5_way 49 = .ok (.iload_n 2, 1)) ∧ (decode cX5_way 50 = .ok (.invokevirtual 214, 3))) ∧ ((decode cX5_way 53 = .ok (.iload_n 3, 1)) ∧ (decode cX5_way 54 = .ok (.ifCond .ne 13, 3))))) ∧ ((((decode cX5_way 57 = .ok (.aload_n 0, 1)) ∧ (decode cX5_way 58 = .ok (.getfield 43, 3))) ∧ ((decode cX5_way 61 = .ok (.getfield 218, 3)) ∧ (decode cX5_way 64 = .ok (.goto 10, 3)))) ∧ (((decode cX5_way 67 = .ok (.aload_n 0, 1)) ∧ (decode cX5_way 68 = .ok (.getfield 43, 3))) ∧ ((decode cX5_way 71 = .ok (.getfield 221, 3)) ∧ (decode cX5_way 74 = .ok (.ireturn, 1)))))) := by decide +kernel
theorem dX5_way_41 : decode cX5_way 41 = .ok (.getfield 43, 3) := dbc_143.1.1.1.1
theorem dX5_way_44 : decode cX5_way 44 = .ok (.aload_n 0, 1) := dbc_143.1.1.1.2
theorem dX5_way_45 : decode cX5_way 45 = .ok (.getfield 12, 3) := dbc_143.1.1.2.1
theorem dX5_way_48 : decode cX5_way 48 = .ok (.iload_n 1, 1) := dbc_143.1.1.2.2
theorem dX5_way_49 : decode cX5_way 49 = .ok (.iload_n 2, 1) := dbc_143.1.2.1.1
theorem dX5_way_50 : decode cX5_way 50 = .ok (.invokevirtual 214, 3) := dbc_143.1.2.1.2
theorem dX5_way_53 : decode cX5_way 53 = .ok (.iload_n 3, 1) := dbc_143.1.2.2.1
theorem dX5_way_54 : decode cX5_way 54 = .ok (.ifCond .ne 13, 3) := dbc_143.1.2.2.2
theorem dX5_way_57 : decode cX5_way 57 = .ok (.aload_n 0, 1) := dbc_143.2.1.1.1
theorem dX5_way_58 : decode cX5_way 58 = .ok (.getfield 43, 3) := dbc_143.2.1.1.2
theorem dX5_way_61 : decode cX5_way 61 = .ok (.getfield 218, 3) := dbc_143.2.1.2.1
theorem dX5_way_64 : decode cX5_way 64 = .ok (.goto 10, 3) := dbc_143.2.1.2.2
theorem dX5_way_67 : decode cX5_way 67 = .ok (.aload_n 0, 1) := dbc_143.2.2.1.1
theorem dX5_way_68 : decode cX5_way 68 = .ok (.getfield 43, 3) := dbc_143.2.2.1.2
theorem dX5_way_71 : decode cX5_way 71 = .ok (.getfield 221, 3) := dbc_143.2.2.2.1
theorem dX5_way_74 : decode cX5_way 74 = .ok (.ireturn, 1) := dbc_143.2.2.2.2
theorem dbc_144 : (((((decode cX5_payAll 0 = .ok (.aload_n 0, 1)) ∧ (decode cX5_payAll 1 = .ok (.getfield 12, 3))) ∧ ((decode cX5_payAll 4 = .ok (.iload_n 1, 1)) ∧ (decode cX5_payAll 5 = .ok (.invokevirtual 119, 3)))) ∧ (((decode cX5_payAll 8 = .ok (.ifCond .ne 9, 3)) ∧ (decode cX5_payAll 11 = .ok (.aload_n 0, 1))) ∧ ((decode cX5_payAll 12 = .ok (.iconst (-1), 1)) ∧ (decode cX5_payAll 13 = .ok (.invokevirtual 65, 3))))) ∧ ((((decode cX5_payAll 16 = .ok (.ireturn, 1)) ∧ (decode cX5_payAll 17 = .ok (.iload_n 2, 1))) ∧ ((decode cX5_payAll 18 = .ok (.iconst (-1), 1)) ∧ (decode cX5_payAll 19 = .ok (.if_icmp .ge 10, 3)))) ∧ (((decode cX5_payAll 22 = .ok (.aload_n 0, 1)) ∧ (decode cX5_payAll 23 = .ok (.bipush (-4), 2))) ∧ ((decode cX5_payAll 25 = .ok (.invokevirtual 65, 3)) ∧ (decode cX5_payAll 28 = .ok (.ireturn, 1)))))) := by decide +kernel
theorem dX5_payAll_0 : decode cX5_payAll 0 = .ok (.aload_n 0, 1) := dbc_144.1.1.1.1
theorem dX5_payAll_1 : decode cX5_payAll 1 = .ok (.getfield 12, 3) := dbc_144.1.1.1.2
theorem dX5_payAll_4 : decode cX5_payAll 4 = .ok (.iload_n 1, 1) := dbc_144.1.1.2.1
theorem dX5_payAll_5 : decode cX5_payAll 5 = .ok (.invokevirtual 119, 3) := dbc_144.1.1.2.2
theorem dX5_payAll_8 : decode cX5_payAll 8 = .ok (.ifCond .ne 9, 3) := dbc_144.1.2.1.1
theorem dX5_payAll_11 : decode cX5_payAll 11 = .ok (.aload_n 0, 1) := dbc_144.1.2.1.2
theorem dX5_payAll_12 : decode cX5_payAll 12 = .ok (.iconst (-1), 1) := dbc_144.1.2.2.1
theorem dX5_payAll_13 : decode cX5_payAll 13 = .ok (.invokevirtual 65, 3) := dbc_144.1.2.2.2
theorem dX5_payAll_16 : decode cX5_payAll 16 = .ok (.ireturn, 1) := dbc_144.2.1.1.1
theorem dX5_payAll_17 : decode cX5_payAll 17 = .ok (.iload_n 2, 1) := dbc_144.2.1.1.2
theorem dX5_payAll_18 : decode cX5_payAll 18 = .ok (.iconst (-1), 1) := dbc_144.2.1.2.1
theorem dX5_payAll_19 : decode cX5_payAll 19 = .ok (.if_icmp .ge 10, 3) := dbc_144.2.1.2.2
theorem dX5_payAll_22 : decode cX5_payAll 22 = .ok (.aload_n 0, 1) := dbc_144.2.2.1.1
theorem dX5_payAll_23 : decode cX5_payAll 23 = .ok (.bipush (-4), 2) := dbc_144.2.2.1.2
theorem dX5_payAll_25 : decode cX5_payAll 25 = .ok (.invokevirtual 65, 3) := dbc_144.2.2.2.1
theorem dX5_payAll_28 : decode cX5_payAll 28 = .ok (.ireturn, 1) := dbc_144.2.2.2.2
theorem dbc_145 : (((((decode cX5_payAll 29 = .ok (.aload_n 0, 1)) ∧ (decode cX5_payAll 30 = .ok (.getfield 50, 3))) ∧ ((decode cX5_payAll 33 = .ok (.aload_n 0, 1)) ∧ (decode cX5_payAll 34 = .ok (.getfield 12, 3)))) ∧ (((decode cX5_payAll 37 = .ok (.iload_n 1, 1)) ∧ (decode cX5_payAll 38 = .ok (.invokevirtual 224, 3))) ∧ ((decode cX5_payAll 41 = .ok (.iload_n 2, 1)) ∧ (decode cX5_payAll 42 = .ok (.iconst (-1), 1))))) ∧ ((((decode cX5_payAll 43 = .ok (.if_icmp .ne 43, 3)) ∧ (decode cX5_payAll 46 = .ok (.aload_n 0, 1))) ∧ ((decode cX5_payAll 47 = .ok (.getfield 12, 3)) ∧ (decode cX5_payAll 50 = .ok (.iload_n 1, 1)))) ∧ (((decode cX5_payAll 51 = .ok (.iconst 0, 1)) ∧ (decode cX5_payAll 52 = .ok (.invokevirtual 137, 3))) ∧ ((decode cX5_payAll 55 = .ok (.iconst 3, 1)) ∧ (decode cX5_payAll 56 = .ok (.aload_n 0, 1)))))) := by decide +kernel
theorem dX5_payAll_29 : decode cX5_payAll 29 = .ok (.aload_n 0, 1) := dbc_145.1.1.1.1
theorem dX5_payAll_30 : decode cX5_payAll 30 = .ok (.getfield 50, 3) := dbc_145.1.1.1.2
theorem dX5_payAll_33 : decode cX5_payAll 33 = .ok (.aload_n 0, 1) := dbc_145.1.1.2.1
theorem dX5_payAll_34 : decode cX5_payAll 34 = .ok (.getfield 12, 3) := dbc_145.1.1.2.2
theorem dX5_payAll_37 : decode cX5_payAll 37 = .ok (.iload_n 1, 1) := dbc_145.1.2.1.1
theorem dX5_payAll_38 : decode cX5_payAll 38 = .ok (.invokevirtual 224, 3) := dbc_145.1.2.1.2
theorem dX5_payAll_41 : decode cX5_payAll 41 = .ok (.iload_n 2, 1) := dbc_145.1.2.2.1
theorem dX5_payAll_42 : decode cX5_payAll 42 = .ok (.iconst (-1), 1) := dbc_145.1.2.2.2
theorem dX5_payAll_43 : decode cX5_payAll 43 = .ok (.if_icmp .ne 43, 3) := dbc_145.2.1.1.1
theorem dX5_payAll_46 : decode cX5_payAll 46 = .ok (.aload_n 0, 1) := dbc_145.2.1.1.2
theorem dX5_payAll_47 : decode cX5_payAll 47 = .ok (.getfield 12, 3) := dbc_145.2.1.2.1
theorem dX5_payAll_50 : decode cX5_payAll 50 = .ok (.iload_n 1, 1) := dbc_145.2.1.2.2
theorem dX5_payAll_51 : decode cX5_payAll 51 = .ok (.iconst 0, 1) := dbc_145.2.2.1.1
theorem dX5_payAll_52 : decode cX5_payAll 52 = .ok (.invokevirtual 137, 3) := dbc_145.2.2.1.2
theorem dX5_payAll_55 : decode cX5_payAll 55 = .ok (.iconst 3, 1) := dbc_145.2.2.2.1
theorem dX5_payAll_56 : decode cX5_payAll 56 = .ok (.aload_n 0, 1) := dbc_145.2.2.2.2
theorem dbc_146 : (((((decode cX5_payAll 57 = .ok (.getfield 50, 3)) ∧ (decode cX5_payAll 60 = .ok (.aload_n 0, 1))) ∧ ((decode cX5_payAll 61 = .ok (.getfield 12, 3)) ∧ (decode cX5_payAll 64 = .ok (.aload_n 0, 1)))) ∧ (((decode cX5_payAll 65 = .ok (.getfield 12, 3)) ∧ (decode cX5_payAll 68 = .ok (.getfield 122, 3))) ∧ ((decode cX5_payAll 71 = .ok (.iload_n 1, 1)) ∧ (decode cX5_payAll 72 = .ok (.iaload, 1))))) ∧ ((((decode cX5_payAll 73 = .ok (.aload_n 0, 1)) ∧ (decode cX5_payAll 74 = .ok (.getfield 50, 3))) ∧ ((decode cX5_payAll 77 = .ok (.getfield 228, 3)) ∧ (decode cX5_payAll 80 = .ok (.invokevirtual 231, 3)))) ∧ (((decode cX5_payAll 83 = .ok (.imul, 1)) ∧ (decode cX5_payAll 84 = .ok (.iadd, 1))) ∧ ((decode cX5_payAll 85 = .ok (.ireturn, 1)) ∧ (decode cX5_payAll 86 = .ok (.aload_n 0, 1)))))) := by decide +kernel
theorem dX5_payAll_57 : decode cX5_payAll 57 = .ok (.getfield 50, 3) := dbc_146.1.1.1.1
theorem dX5_payAll_60 : decode cX5_payAll 60 = .ok (.aload_n 0, 1) := dbc_146.1.1.1.2
theorem dX5_payAll_61 : decode cX5_payAll 61 = .ok (.getfield 12, 3) := dbc_146.1.1.2.1
theorem dX5_payAll_64 : decode cX5_payAll 64 = .ok (.aload_n 0, 1) := dbc_146.1.1.2.2
theorem dX5_payAll_65 : decode cX5_payAll 65 = .ok (.getfield 12, 3) := dbc_146.1.2.1.1
theorem dX5_payAll_68 : decode cX5_payAll 68 = .ok (.getfield 122, 3) := dbc_146.1.2.1.2
theorem dX5_payAll_71 : decode cX5_payAll 71 = .ok (.iload_n 1, 1) := dbc_146.1.2.2.1
theorem dX5_payAll_72 : decode cX5_payAll 72 = .ok (.iaload, 1) := dbc_146.1.2.2.2
theorem dX5_payAll_73 : decode cX5_payAll 73 = .ok (.aload_n 0, 1) := dbc_146.2.1.1.1
theorem dX5_payAll_74 : decode cX5_payAll 74 = .ok (.getfield 50, 3) := dbc_146.2.1.1.2
theorem dX5_payAll_77 : decode cX5_payAll 77 = .ok (.getfield 228, 3) := dbc_146.2.1.2.1
theorem dX5_payAll_80 : decode cX5_payAll 80 = .ok (.invokevirtual 231, 3) := dbc_146.2.1.2.2
theorem dX5_payAll_83 : decode cX5_payAll 83 = .ok (.imul, 1) := dbc_146.2.2.1.1
theorem dX5_payAll_84 : decode cX5_payAll 84 = .ok (.iadd, 1) := dbc_146.2.2.1.2
theorem dX5_payAll_85 : decode cX5_payAll 85 = .ok (.ireturn, 1) := dbc_146.2.2.2.1
theorem dX5_payAll_86 : decode cX5_payAll 86 = .ok (.aload_n 0, 1) := dbc_146.2.2.2.2
theorem dbc_147 : (((((decode cX5_payAll 87 = .ok (.getfield 50, 3)) ∧ (decode cX5_payAll 90 = .ok (.aload_n 0, 1))) ∧ ((decode cX5_payAll 91 = .ok (.getfield 12, 3)) ∧ (decode cX5_payAll 94 = .ok (.aload_n 0, 1)))) ∧ (((decode cX5_payAll 95 = .ok (.getfield 12, 3)) ∧ (decode cX5_payAll 98 = .ok (.getfield 122, 3))) ∧ ((decode cX5_payAll 101 = .ok (.iload_n 1, 1)) ∧ (decode cX5_payAll 102 = .ok (.iaload, 1))))) ∧ ((((decode cX5_payAll 103 = .ok (.iload_n 2, 1)) ∧ (decode cX5_payAll 104 = .ok (.invokevirtual 235, 3))) ∧ ((decode cX5_payAll 107 = .ok (.ireturn, 1)) ∧ (decode cX5_clear 0 = .ok (.aload_n 0, 1)))) ∧ (((decode cX5_clear 1 = .ok (.getfield 12, 3)) ∧ (decode cX5_clear 4 = .ok (.iload_n 1, 1))) ∧ ((decode cX5_clear 5 = .ok (.invokevirtual 90, 3)) ∧ (decode cX5_clear 8 = .ok (.ifCond .eq 19, 3)))))) := by decide +kernel
theorem dX5_payAll_87 : decode cX5_payAll 87 = .ok (.getfield 50, 3) := dbc_147.1.1.1.1
theorem dX5_payAll_90 : decode cX5_payAll 90 = .ok (.aload_n 0, 1) := dbc_147.1.1.1.2
theorem dX5_payAll_91 : decode cX5_payAll 91 = .ok (.getfield 12, 3) := dbc_147.1.1.2.1
theorem dX5_payAll_94 : decode cX5_payAll 94 = .ok (.aload_n 0, 1) := dbc_147.1.1.2.2
theorem dX5_payAll_95 : decode cX5_payAll 95 = .ok (.getfield 12, 3) := dbc_147.1.2.1.1
theorem dX5_payAll_98 : decode cX5_payAll 98 = .ok (.getfield 122, 3) := dbc_147.1.2.1.2
theorem dX5_payAll_101 : decode cX5_payAll 101 = .ok (.iload_n 1, 1) := dbc_147.1.2.2.1
theorem dX5_payAll_102 : decode cX5_payAll 102 = .ok (.iaload, 1) := dbc_147.1.2.2.2
theorem dX5_payAll_103 : decode cX5_payAll 103 = .ok (.iload_n 2, 1) := dbc_147.2.1.1.1
theorem dX5_payAll_104 : decode cX5_payAll 104 = .ok (.invokevirtual 235, 3) := dbc_147.2.1.1.2
theorem dX5_payAll_107 : decode cX5_payAll 107 = .ok (.ireturn, 1) := dbc_147.2.1.2.1
theorem dX5_clear_0 : decode cX5_clear 0 = .ok (.aload_n 0, 1) := dbc_147.2.1.2.2
theorem dX5_clear_1 : decode cX5_clear 1 = .ok (.getfield 12, 3) := dbc_147.2.2.1.1
theorem dX5_clear_4 : decode cX5_clear 4 = .ok (.iload_n 1, 1) := dbc_147.2.2.1.2
theorem dX5_clear_5 : decode cX5_clear 5 = .ok (.invokevirtual 90, 3) := dbc_147.2.2.2.1
theorem dX5_clear_8 : decode cX5_clear 8 = .ok (.ifCond .eq 19, 3) := dbc_147.2.2.2.2
theorem dbc_148 : (((((decode cX5_clear 11 = .ok (.aload_n 0, 1)) ∧ (decode cX5_clear 12 = .ok (.getfield 12, 3))) ∧ ((decode cX5_clear 15 = .ok (.iload_n 2, 1)) ∧ (decode cX5_clear 16 = .ok (.invokevirtual 90, 3)))) ∧ (((decode cX5_clear 19 = .ok (.ifCond .eq 8, 3)) ∧ (decode cX5_clear 22 = .ok (.iload_n 1, 1))) ∧ ((decode cX5_clear 23 = .ok (.iload_n 2, 1)) ∧ (decode cX5_clear 24 = .ok (.if_icmp .ne 12, 3))))) ∧ ((((decode cX5_clear 27 = .ok (.ldc 238, 2)) ∧ (decode cX5_clear 29 = .ok (.aload_n 0, 1))) ∧ ((decode cX5_clear 30 = .ok (.iconst (-1), 1)) ∧ (decode cX5_clear 31 = .ok (.invokevirtual 65, 3)))) ∧ (((decode cX5_clear 34 = .ok (.isub, 1)) ∧ (decode cX5_clear 35 = .ok (.ireturn, 1))) ∧ ((decode cX5_clear 36 = .ok (.aload_n 0, 1)) ∧ (decode cX5_clear 37 = .ok (.getfield 12, 3)))))) := by decide +kernel
theorem dX5_clear_11 : decode cX5_clear 11 = .ok (.aload_n 0, 1) := dbc_148.1.1.1.1
theorem dX5_clear_12 : decode cX5_clear 12 = .ok (.getfield 12, 3) := dbc_148.1.1.1.2
theorem dX5_clear_15 : decode cX5_clear 15 = .ok (.iload_n 2, 1) := dbc_148.1.1.2.1
theorem dX5_clear_16 : decode cX5_clear 16 = .ok (.invokevirtual 90, 3) := dbc_148.1.1.2.2
theorem dX5_clear_19 : decode cX5_clear 19 = .ok (.ifCond .eq 8, 3) := dbc_148.1.2.1.1
theorem dX5_clear_22 : decode cX5_clear 22 = .ok (.iload_n 1, 1) := dbc_148.1.2.1.2
theorem dX5_clear_23 : decode cX5_clear 23 = .ok (.iload_n 2, 1) := dbc_148.1.2.2.1
theorem dX5_clear_24 : decode cX5_clear 24 = .ok (.if_icmp .ne 12, 3) := dbc_148.1.2.2.2
theorem dX5_clear_27 : decode cX5_clear 27 = .ok (.ldc 238, 2) := dbc_148.2.1.1.1
theorem dX5_clear_29 : decode cX5_clear 29 = .ok (.aload_n 0, 1) := dbc_148.2.1.1.2
theorem dX5_clear_30 : decode cX5_clear 30 = .ok (.iconst (-1), 1) := dbc_148.2.1.2.1
theorem dX5_clear_31 : decode cX5_clear 31 = .ok (.invokevirtual 65, 3) := dbc_148.2.1.2.2
theorem dX5_clear_34 : decode cX5_clear 34 = .ok (.isub, 1) := dbc_148.2.2.1.1
theorem dX5_clear_35 : decode cX5_clear 35 = .ok (.ireturn, 1) := dbc_148.2.2.1.2
theorem dX5_clear_36 : decode cX5_clear 36 = .ok (.aload_n 0, 1) := dbc_148.2.2.2.1
theorem dX5_clear_37 : decode cX5_clear 37 = .ok (.getfield 12, 3) := dbc_148.2.2.2.2
theorem dbc_149 : (((((decode cX5_clear 40 = .ok (.iload_n 1, 1)) ∧ (decode cX5_clear 41 = .ok (.iconst 0, 1))) ∧ ((decode cX5_clear 42 = .ok (.invokevirtual 113, 3)) ∧ (decode cX5_clear 45 = .ok (.istore_n 3, 1)))) ∧ (((decode cX5_clear 46 = .ok (.aload_n 0, 1)) ∧ (decode cX5_clear 47 = .ok (.getfield 12, 3))) ∧ ((decode cX5_clear 50 = .ok (.iload_n 2, 1)) ∧ (decode cX5_clear 51 = .ok (.iconst 0, 1))))) ∧ ((((decode cX5_clear 52 = .ok (.invokevirtual 113, 3)) ∧ (decode cX5_clear 55 = .ok (.istore 4, 2))) ∧ ((decode cX5_clear 57 = .ok (.iload_n 3, 1)) ∧ (decode cX5_clear 58 = .ok (.iload 4, 2)))) ∧ (((decode cX5_clear 60 = .ok (.iconst (-1), 1)) ∧ (decode cX5_clear 61 = .ok (.ixor, 1))) ∧ ((decode cX5_clear 62 = .ok (.iand, 1)) ∧ (decode cX5_clear 63 = .ok (.invokestatic 239, 3)))))) := by decide +kernel
theorem dX5_clear_40 : decode cX5_clear 40 = .ok (.iload_n 1, 1) := dbc_149.1.1.1.1
theorem dX5_clear_41 : decode cX5_clear 41 = .ok (.iconst 0, 1) := dbc_149.1.1.1.2
theorem dX5_clear_42 : decode cX5_clear 42 = .ok (.invokevirtual 113, 3) := dbc_149.1.1.2.1
theorem dX5_clear_45 : decode cX5_clear 45 = .ok (.istore_n 3, 1) := dbc_149.1.1.2.2
theorem dX5_clear_46 : decode cX5_clear 46 = .ok (.aload_n 0, 1) := dbc_149.1.2.1.1
theorem dX5_clear_47 : decode cX5_clear 47 = .ok (.getfield 12, 3) := dbc_149.1.2.1.2
theorem dX5_clear_50 : decode cX5_clear 50 = .ok (.iload_n 2, 1) := dbc_149.1.2.2.1
theorem dX5_clear_51 : decode cX5_clear 51 = .ok (.iconst 0, 1) := dbc_149.1.2.2.2
theorem dX5_clear_52 : decode cX5_clear 52 = .ok (.invokevirtual 113, 3) := dbc_149.2.1.1.1
theorem dX5_clear_55 : decode cX5_clear 55 = .ok (.istore 4, 2) := dbc_149.2.1.1.2
theorem dX5_clear_57 : decode cX5_clear 57 = .ok (.iload_n 3, 1) := dbc_149.2.1.2.1
theorem dX5_clear_58 : decode cX5_clear 58 = .ok (.iload 4, 2) := dbc_149.2.1.2.2
theorem dX5_clear_60 : decode cX5_clear 60 = .ok (.iconst (-1), 1) := dbc_149.2.2.1.1
theorem dX5_clear_61 : decode cX5_clear 61 = .ok (.ixor, 1) := dbc_149.2.2.1.2
theorem dX5_clear_62 : decode cX5_clear 62 = .ok (.iand, 1) := dbc_149.2.2.2.1
theorem dX5_clear_63 : decode cX5_clear 63 = .ok (.invokestatic 239, 3) := dbc_149.2.2.2.2
theorem dbc_150 : (((((decode cX5_clear 66 = .ok (.iload 4, 2)) ∧ (decode cX5_clear 68 = .ok (.iload_n 3, 1))) ∧ ((decode cX5_clear 69 = .ok (.iconst (-1), 1)) ∧ (decode cX5_clear 70 = .ok (.ixor, 1)))) ∧ (((decode cX5_clear 71 = .ok (.iand, 1)) ∧ (decode cX5_clear 72 = .ok (.invokestatic 239, 3))) ∧ ((decode cX5_clear 75 = .ok (.isub, 1)) ∧ (decode cX5_clear 76 = .ok (.ireturn, 1))))) ∧ ((((decode cX5_burn 0 = .ok (.iload_n 1, 1)) ∧ (decode cX5_burn 1 = .ok (.iconst 1, 1))) ∧ ((decode cX5_burn 2 = .ok (.if_icmp .ge 10, 3)) ∧ (decode cX5_burn 5 = .ok (.aload_n 0, 1)))) ∧ (((decode cX5_burn 6 = .ok (.bipush (-4), 2)) ∧ (decode cX5_burn 8 = .ok (.invokevirtual 65, 3))) ∧ ((decode cX5_burn 11 = .ok (.ireturn, 1)) ∧ (decode cX5_burn 12 = .ok (.iload_n 1, 1)))))) := by decide +kernel
theorem dX5_clear_66 : decode cX5_clear 66 = .ok (.iload 4, 2) := dbc_150.1.1.1.1
theorem dX5_clear_68 : decode cX5_clear 68 = .ok (.iload_n 3, 1) := dbc_150.1.1.1.2
theorem dX5_clear_69 : decode cX5_clear 69 = .ok (.iconst (-1), 1) := dbc_150.1.1.2.1
theorem dX5_clear_70 : decode cX5_clear 70 = .ok (.ixor, 1) := dbc_150.1.1.2.2
theorem dX5_clear_71 : decode cX5_clear 71 = .ok (.iand, 1) := dbc_150.1.2.1.1
theorem dX5_clear_72 : decode cX5_clear 72 = .ok (.invokestatic 239, 3) := dbc_150.1.2.1.2
theorem dX5_clear_75 : decode cX5_clear 75 = .ok (.isub, 1) := dbc_150.1.2.2.1
theorem dX5_clear_76 : decode cX5_clear 76 = .ok (.ireturn, 1) := dbc_150.1.2.2.2
theorem dX5_burn_0 : decode cX5_burn 0 = .ok (.iload_n 1, 1) := dbc_150.2.1.1.1
theorem dX5_burn_1 : decode cX5_burn 1 = .ok (.iconst 1, 1) := dbc_150.2.1.1.2
theorem dX5_burn_2 : decode cX5_burn 2 = .ok (.if_icmp .ge 10, 3) := dbc_150.2.1.2.1
theorem dX5_burn_5 : decode cX5_burn 5 = .ok (.aload_n 0, 1) := dbc_150.2.1.2.2
theorem dX5_burn_6 : decode cX5_burn 6 = .ok (.bipush (-4), 2) := dbc_150.2.2.1.1
theorem dX5_burn_8 : decode cX5_burn 8 = .ok (.invokevirtual 65, 3) := dbc_150.2.2.1.2
theorem dX5_burn_11 : decode cX5_burn 11 = .ok (.ireturn, 1) := dbc_150.2.2.2.1
theorem dX5_burn_12 : decode cX5_burn 12 = .ok (.iload_n 1, 1) := dbc_150.2.2.2.2
theorem dbc_151 : (((((decode cX5_burn 13 = .ok (.bipush 30, 2)) ∧ (decode cX5_burn 15 = .ok (.if_icmp .le 10, 3))) ∧ ((decode cX5_burn 18 = .ok (.aload_n 0, 1)) ∧ (decode cX5_burn 19 = .ok (.bipush (-6), 2)))) ∧ (((decode cX5_burn 21 = .ok (.invokevirtual 65, 3)) ∧ (decode cX5_burn 24 = .ok (.ireturn, 1))) ∧ ((decode cX5_burn 25 = .ok (.iload_n 2, 1)) ∧ (decode cX5_burn 26 = .ok (.ifCond .eq 15, 3))))) ∧ ((((decode cX5_burn 29 = .ok (.iload_n 2, 1)) ∧ (decode cX5_burn 30 = .ok (.iconst 1, 1))) ∧ ((decode cX5_burn 31 = .ok (.if_icmp .eq 10, 3)) ∧ (decode cX5_burn 34 = .ok (.aload_n 0, 1)))) ∧ (((decode cX5_burn 35 = .ok (.bipush (-2), 2)) ∧ (decode cX5_burn 37 = .ok (.invokevirtual 65, 3))) ∧ ((decode cX5_burn 40 = .ok (.ireturn, 1)) ∧ (decode cX5_burn 41 = .ok (.iconst 0, 1)))))) := by decide +kernel
theorem dX5_burn_13 : decode cX5_burn 13 = .ok (.bipush 30, 2) := dbc_151.1.1.1.1
theorem dX5_burn_15 : decode cX5_burn 15 = .ok (.if_icmp .le 10, 3) := dbc_151.1.1.1.2
theorem dX5_burn_18 : decode cX5_burn 18 = .ok (.aload_n 0, 1) := dbc_151.1.1.2.1
theorem dX5_burn_19 : decode cX5_burn 19 = .ok (.bipush (-6), 2) := dbc_151.1.1.2.2
theorem dX5_burn_21 : decode cX5_burn 21 = .ok (.invokevirtual 65, 3) := dbc_151.1.2.1.1
theorem dX5_burn_24 : decode cX5_burn 24 = .ok (.ireturn, 1) := dbc_151.1.2.1.2
theorem dX5_burn_25 : decode cX5_burn 25 = .ok (.iload_n 2, 1) := dbc_151.1.2.2.1
theorem dX5_burn_26 : decode cX5_burn 26 = .ok (.ifCond .eq 15, 3) := dbc_151.1.2.2.2
theorem dX5_burn_29 : decode cX5_burn 29 = .ok (.iload_n 2, 1) := dbc_151.2.1.1.1
theorem dX5_burn_30 : decode cX5_burn 30 = .ok (.iconst 1, 1) := dbc_151.2.1.1.2
theorem dX5_burn_31 : decode cX5_burn 31 = .ok (.if_icmp .eq 10, 3) := dbc_151.2.1.2.1
theorem dX5_burn_34 : decode cX5_burn 34 = .ok (.aload_n 0, 1) := dbc_151.2.1.2.2
theorem dX5_burn_35 : decode cX5_burn 35 = .ok (.bipush (-2), 2) := dbc_151.2.2.1.1
theorem dX5_burn_37 : decode cX5_burn 37 = .ok (.invokevirtual 65, 3) := dbc_151.2.2.1.2
theorem dX5_burn_40 : decode cX5_burn 40 = .ok (.ireturn, 1) := dbc_151.2.2.2.1
theorem dX5_burn_41 : decode cX5_burn 41 = .ok (.iconst 0, 1) := dbc_151.2.2.2.2
theorem dbc_152 : (((((decode cX5_burn 42 = .ok (.istore_n 3, 1)) ∧ (decode cX5_burn 43 = .ok (.iconst 0, 1))) ∧ ((decode cX5_burn 44 = .ok (.istore 4, 2)) ∧ (decode cX5_burn 46 = .ok (.aload_n 0, 1)))) ∧ (((decode cX5_burn 47 = .ok (.getfield 16, 3)) ∧ (decode cX5_burn 50 = .ok (.aload_n 0, 1))) ∧ ((decode cX5_burn 51 = .ok (.getfield 12, 3)) ∧ (decode cX5_burn 54 = .ok (.invokevirtual 76, 3))))) ∧ ((((decode cX5_burn 57 = .ok (.aload_n 0, 1)) ∧ (decode cX5_burn 58 = .ok (.getfield 16, 3))) ∧ ((decode cX5_burn 61 = .ok (.invokevirtual 244, 3)) ∧ (decode cX5_burn 64 = .ok (.istore 5, 2)))) ∧ (((decode cX5_burn 66 = .ok (.iconst 0, 1)) ∧ (decode cX5_burn 67 = .ok (.istore 6, 2))) ∧ ((decode cX5_burn 69 = .ok (.iload 6, 2)) ∧ (decode cX5_burn 71 = .ok (.bipush 49, 2)))))) := by decide +kernel
theorem dX5_burn_42 : decode cX5_burn 42 = .ok (.istore_n 3, 1) := dbc_152.1.1.1.1
theorem dX5_burn_43 : decode cX5_burn 43 = .ok (.iconst 0, 1) := dbc_152.1.1.1.2
theorem dX5_burn_44 : decode cX5_burn 44 = .ok (.istore 4, 2) := dbc_152.1.1.2.1
theorem dX5_burn_46 : decode cX5_burn 46 = .ok (.aload_n 0, 1) := dbc_152.1.1.2.2
theorem dX5_burn_47 : decode cX5_burn 47 = .ok (.getfield 16, 3) := dbc_152.1.2.1.1
theorem dX5_burn_50 : decode cX5_burn 50 = .ok (.aload_n 0, 1) := dbc_152.1.2.1.2
theorem dX5_burn_51 : decode cX5_burn 51 = .ok (.getfield 12, 3) := dbc_152.1.2.2.1
theorem dX5_burn_54 : decode cX5_burn 54 = .ok (.invokevirtual 76, 3) := dbc_152.1.2.2.2
theorem dX5_burn_57 : decode cX5_burn 57 = .ok (.aload_n 0, 1) := dbc_152.2.1.1.1
theorem dX5_burn_58 : decode cX5_burn 58 = .ok (.getfield 16, 3) := dbc_152.2.1.1.2
theorem dX5_burn_61 : decode cX5_burn 61 = .ok (.invokevirtual 244, 3) := dbc_152.2.1.2.1
theorem dX5_burn_64 : decode cX5_burn 64 = .ok (.istore 5, 2) := dbc_152.2.1.2.2
theorem dX5_burn_66 : decode cX5_burn 66 = .ok (.iconst 0, 1) := dbc_152.2.2.1.1
theorem dX5_burn_67 : decode cX5_burn 67 = .ok (.istore 6, 2) := dbc_152.2.2.1.2
theorem dX5_burn_69 : decode cX5_burn 69 = .ok (.iload 6, 2) := dbc_152.2.2.2.1
theorem dX5_burn_71 : decode cX5_burn 71 = .ok (.bipush 49, 2) := dbc_152.2.2.2.2
theorem dbc_153 : (((((decode cX5_burn 73 = .ok (.if_icmp .ge 50, 3)) ∧ (decode cX5_burn 76 = .ok (.aload_n 0, 1))) ∧ ((decode cX5_burn 77 = .ok (.getfield 16, 3)) ∧ (decode cX5_burn 80 = .ok (.getfield 100, 3)))) ∧ (((decode cX5_burn 83 = .ok (.iload 5, 2)) ∧ (decode cX5_burn 85 = .ok (.iload 6, 2))) ∧ ((decode cX5_burn 87 = .ok (.iastore, 1)) ∧ (decode cX5_burn 88 = .ok (.aload_n 0, 1))))) ∧ ((((decode cX5_burn 89 = .ok (.getfield 16, 3)) ∧ (decode cX5_burn 92 = .ok (.iload 5, 2))) ∧ ((decode cX5_burn 94 = .ok (.iload_n 1, 1)) ∧ (decode cX5_burn 95 = .ok (.invokevirtual 113, 3)))) ∧ (((decode cX5_burn 98 = .ok (.invokestatic 239, 3)) ∧ (decode cX5_burn 101 = .ok (.istore 7, 2))) ∧ ((decode cX5_burn 103 = .ok (.iload 7, 2)) ∧ (decode cX5_burn 105 = .ok (.iload 4, 2)))))) := by decide +kernel
theorem dX5_burn_73 : decode cX5_burn 73 = .ok (.if_icmp .ge 50, 3) := dbc_153.1.1.1.1
theorem dX5_burn_76 : decode cX5_burn 76 = .ok (.aload_n 0, 1) := dbc_153.1.1.1.2
theorem dX5_burn_77 : decode cX5_burn 77 = .ok (.getfield 16, 3) := dbc_153.1.1.2.1
theorem dX5_burn_80 : decode cX5_burn 80 = .ok (.getfield 100, 3) := dbc_153.1.1.2.2
theorem dX5_burn_83 : decode cX5_burn 83 = .ok (.iload 5, 2) := dbc_153.1.2.1.1
theorem dX5_burn_85 : decode cX5_burn 85 = .ok (.iload 6, 2) := dbc_153.1.2.1.2
theorem dX5_burn_87 : decode cX5_burn 87 = .ok (.iastore, 1) := dbc_153.1.2.2.1
theorem dX5_burn_88 : decode cX5_burn 88 = .ok (.aload_n 0, 1) := dbc_153.1.2.2.2
theorem dX5_burn_89 : decode cX5_burn 89 = .ok (.getfield 16, 3) := dbc_153.2.1.1.1
theorem dX5_burn_92 : decode cX5_burn 92 = .ok (.iload 5, 2) := dbc_153.2.1.1.2
theorem dX5_burn_94 : decode cX5_burn 94 = .ok (.iload_n 1, 1) := dbc_153.2.1.2.1
theorem dX5_burn_95 : decode cX5_burn 95 = .ok (.invokevirtual 113, 3) := dbc_153.2.1.2.2
theorem dX5_burn_98 : decode cX5_burn 98 = .ok (.invokestatic 239, 3) := dbc_153.2.2.1.1
theorem dX5_burn_101 : decode cX5_burn 101 = .ok (.istore 7, 2) := dbc_153.2.2.1.2
theorem dX5_burn_103 : decode cX5_burn 103 = .ok (.iload 7, 2) := dbc_153.2.2.2.1
theorem dX5_burn_105 : decode cX5_burn 105 = .ok (.iload 4, 2) := dbc_153.2.2.2.2
theorem dbc_154 : (((((decode cX5_burn 107 = .ok (.if_icmp .le 10, 3)) ∧ (decode cX5_burn 110 = .ok (.iload 7, 2))) ∧ ((decode cX5_burn 112 = .ok (.istore 4, 2)) ∧ (decode cX5_burn 114 = .ok (.iload 6, 2)))) ∧ (((decode cX5_burn 116 = .ok (.istore_n 3, 1)) ∧ (decode cX5_burn 117 = .ok (.iinc 6 1, 3))) ∧ ((decode cX5_burn 120 = .ok (.goto (-51), 3)) ∧ (decode cX5_burn 123 = .ok (.iload_n 2, 1))))) ∧ ((((decode cX5_burn 124 = .ok (.ifCond .ne 7, 3)) ∧ (decode cX5_burn 127 = .ok (.iload_n 3, 1))) ∧ ((decode cX5_burn 128 = .ok (.goto 5, 3)) ∧ (decode cX5_burn 131 = .ok (.iload 4, 2)))) ∧ (((decode cX5_burn 133 = .ok (.ireturn, 1)) ∧ (decode cX5_shut 0 = .ok (.iload_n 1, 1))) ∧ ((decode cX5_shut 1 = .ok (.ifCond .ge 10, 3)) ∧ (decode cX5_shut 4 = .ok (.aload_n 0, 1)))))) := by decide +kernel
theorem dX5_burn_107 : decode cX5_burn 107 = .ok (.if_icmp .le 10, 3) := dbc_154.1.1.1.1
theorem dX5_burn_110 : decode cX5_burn 110 = .ok (.iload 7, 2) := dbc_154.1.1.1.2
theorem dX5_burn_112 : decode cX5_burn 112 = .ok (.istore 4, 2) := dbc_154.1.1.2.1
theorem dX5_burn_114 : decode cX5_burn 114 = .ok (.iload 6, 2) := dbc_154.1.1.2.2
theorem dX5_burn_116 : decode cX5_burn 116 = .ok (.istore_n 3, 1) := dbc_154.1.2.1.1
theorem dX5_burn_117 : decode cX5_burn 117 = .ok (.iinc 6 1, 3) := dbc_154.1.2.1.2
theorem dX5_burn_120 : decode cX5_burn 120 = .ok (.goto (-51), 3) := dbc_154.1.2.2.1
theorem dX5_burn_123 : decode cX5_burn 123 = .ok (.iload_n 2, 1) := dbc_154.1.2.2.2
theorem dX5_burn_124 : decode cX5_burn 124 = .ok (.ifCond .ne 7, 3) := dbc_154.2.1.1.1
theorem dX5_burn_127 : decode cX5_burn 127 = .ok (.iload_n 3, 1) := dbc_154.2.1.1.2
theorem dX5_burn_128 : decode cX5_burn 128 = .ok (.goto 5, 3) := dbc_154.2.1.2.1
theorem dX5_burn_131 : decode cX5_burn 131 = .ok (.iload 4, 2) := dbc_154.2.1.2.2
theorem dX5_burn_133 : decode cX5_burn 133 = .ok (.ireturn, 1) := dbc_154.2.2.1.1
theorem dX5_shut_0 : decode cX5_shut 0 = .ok (.iload_n 1, 1) := dbc_154.2.2.1.2
theorem dX5_shut_1 : decode cX5_shut 1 = .ok (.ifCond .ge 10, 3) := dbc_154.2.2.2.1
theorem dX5_shut_4 : decode cX5_shut 4 = .ok (.aload_n 0, 1) := dbc_154.2.2.2.2
theorem dbc_155 : (((((decode cX5_shut 5 = .ok (.bipush (-4), 2)) ∧ (decode cX5_shut 7 = .ok (.invokevirtual 65, 3))) ∧ ((decode cX5_shut 10 = .ok (.ireturn, 1)) ∧ (decode cX5_shut 11 = .ok (.iload_n 1, 1)))) ∧ (((decode cX5_shut 12 = .ok (.bipush 60, 2)) ∧ (decode cX5_shut 14 = .ok (.if_icmp .le 10, 3))) ∧ ((decode cX5_shut 17 = .ok (.aload_n 0, 1)) ∧ (decode cX5_shut 18 = .ok (.bipush (-6), 2))))) ∧ ((((decode cX5_shut 20 = .ok (.invokevirtual 65, 3)) ∧ (decode cX5_shut 23 = .ok (.ireturn, 1))) ∧ ((decode cX5_shut 24 = .ok (.bipush (-9), 2)) ∧ (decode cX5_shut 26 = .ok (.istore_n 2, 1)))) ∧ (((decode cX5_shut 27 = .ok (.aload_n 0, 1)) ∧ (decode cX5_shut 28 = .ok (.getfield 12, 3))) ∧ ((decode cX5_shut 31 = .ok (.iload_n 1, 1)) ∧ (decode cX5_shut 32 = .ok (.invokevirtual 198, 3)))))) := by decide +kernel
theorem dX5_shut_5 : decode cX5_shut 5 = .ok (.bipush (-4), 2) := dbc_155.1.1.1.1
theorem dX5_shut_7 : decode cX5_shut 7 = .ok (.invokevirtual 65, 3) := dbc_155.1.1.1.2
theorem dX5_shut_10 : decode cX5_shut 10 = .ok (.ireturn, 1) := dbc_155.1.1.2.1
theorem dX5_shut_11 : decode cX5_shut 11 = .ok (.iload_n 1, 1) := dbc_155.1.1.2.2
theorem dX5_shut_12 : decode cX5_shut 12 = .ok (.bipush 60, 2) := dbc_155.1.2.1.1
theorem dX5_shut_14 : decode cX5_shut 14 = .ok (.if_icmp .le 10, 3) := dbc_155.1.2.1.2
theorem dX5_shut_17 : decode cX5_shut 17 = .ok (.aload_n 0, 1) := dbc_155.1.2.2.1
theorem dX5_shut_18 : decode cX5_shut 18 = .ok (.bipush (-6), 2) := dbc_155.1.2.2.2
theorem dX5_shut_20 : decode cX5_shut 20 = .ok (.invokevirtual 65, 3) := dbc_155.2.1.1.1
theorem dX5_shut_23 : decode cX5_shut 23 = .ok (.ireturn, 1) := dbc_155.2.1.1.2
theorem dX5_shut_24 : decode cX5_shut 24 = .ok (.bipush (-9), 2) := dbc_155.2.1.2.1
theorem dX5_shut_26 : decode cX5_shut 26 = .ok (.istore_n 2, 1) := dbc_155.2.1.2.2
theorem dX5_shut_27 : decode cX5_shut 27 = .ok (.aload_n 0, 1) := dbc_155.2.2.1.1
theorem dX5_shut_28 : decode cX5_shut 28 = .ok (.getfield 12, 3) := dbc_155.2.2.1.2
theorem dX5_shut_31 : decode cX5_shut 31 = .ok (.iload_n 1, 1) := dbc_155.2.2.2.1
theorem dX5_shut_32 : decode cX5_shut 32 = .ok (.invokevirtual 198, 3) := dbc_155.2.2.2.2
theorem dbc_156 : (((((decode cX5_shut 35 = .ok (.istore_n 3, 1)) ∧ (decode cX5_shut 36 = .ok (.iconst 0, 1))) ∧ ((decode cX5_shut 37 = .ok (.istore 4, 2)) ∧ (decode cX5_shut 39 = .ok (.iload 4, 2)))) ∧ (((decode cX5_shut 41 = .ok (.aload_n 0, 1)) ∧ (decode cX5_shut 42 = .ok (.getfield 12, 3))) ∧ ((decode cX5_shut 45 = .ok (.getfield 148, 3)) ∧ (decode cX5_shut 48 = .ok (.if_icmp .ge 67, 3))))) ∧ ((((decode cX5_shut 51 = .ok (.aload_n 0, 1)) ∧ (decode cX5_shut 52 = .ok (.getfield 12, 3))) ∧ ((decode cX5_shut 55 = .ok (.iload 4, 2)) ∧ (decode cX5_shut 57 = .ok (.invokevirtual 103, 3)))) ∧ (((decode cX5_shut 60 = .ok (.ifCond .ne 6, 3)) ∧ (decode cX5_shut 63 = .ok (.goto 46, 3))) ∧ ((decode cX5_shut 66 = .ok (.aload_n 0, 1)) ∧ (decode cX5_shut 67 = .ok (.getfield 16, 3)))))) := by decide +kernel
theorem dX5_shut_35 : decode cX5_shut 35 = .ok (.istore_n 3, 1) := dbc_156.1.1.1.1
theorem dX5_shut_36 : decode cX5_shut 36 = .ok (.iconst 0, 1) := dbc_156.1.1.1.2
theorem dX5_shut_37 : decode cX5_shut 37 = .ok (.istore 4, 2) := dbc_156.1.1.2.1
theorem dX5_shut_39 : decode cX5_shut 39 = .ok (.iload 4, 2) := dbc_156.1.1.2.2
theorem dX5_shut_41 : decode cX5_shut 41 = .ok (.aload_n 0, 1) := dbc_156.1.2.1.1
theorem dX5_shut_42 : decode cX5_shut 42 = .ok (.getfield 12, 3) := dbc_156.1.2.1.2
theorem dX5_shut_45 : decode cX5_shut 45 = .ok (.getfield 148, 3) := dbc_156.1.2.2.1
theorem dX5_shut_48 : decode cX5_shut 48 = .ok (.if_icmp .ge 67, 3) := dbc_156.1.2.2.2
theorem dX5_shut_51 : decode cX5_shut 51 = .ok (.aload_n 0, 1) := dbc_156.2.1.1.1
theorem dX5_shut_52 : decode cX5_shut 52 = .ok (.getfield 12, 3) := dbc_156.2.1.1.2
theorem dX5_shut_55 : decode cX5_shut 55 = .ok (.iload 4, 2) := dbc_156.2.1.2.1
theorem dX5_shut_57 : decode cX5_shut 57 = .ok (.invokevirtual 103, 3) := dbc_156.2.1.2.2
theorem dX5_shut_60 : decode cX5_shut 60 = .ok (.ifCond .ne 6, 3) := dbc_156.2.2.1.1
theorem dX5_shut_63 : decode cX5_shut 63 = .ok (.goto 46, 3) := dbc_156.2.2.1.2
theorem dX5_shut_66 : decode cX5_shut 66 = .ok (.aload_n 0, 1) := dbc_156.2.2.2.1
theorem dX5_shut_67 : decode cX5_shut 67 = .ok (.getfield 16, 3) := dbc_156.2.2.2.2
theorem dbc_157 : (((((decode cX5_shut 70 = .ok (.aload_n 0, 1)) ∧ (decode cX5_shut 71 = .ok (.getfield 12, 3))) ∧ ((decode cX5_shut 74 = .ok (.invokevirtual 76, 3)) ∧ (decode cX5_shut 77 = .ok (.aload_n 0, 1)))) ∧ (((decode cX5_shut 78 = .ok (.getfield 16, 3)) ∧ (decode cX5_shut 81 = .ok (.iload 4, 2))) ∧ ((decode cX5_shut 83 = .ok (.invokevirtual 167, 3)) ∧ (decode cX5_shut 86 = .ok (.pop, 1))))) ∧ ((((decode cX5_shut 87 = .ok (.aload_n 0, 1)) ∧ (decode cX5_shut 88 = .ok (.getfield 16, 3))) ∧ ((decode cX5_shut 91 = .ok (.iload_n 1, 1)) ∧ (decode cX5_shut 92 = .ok (.invokevirtual 198, 3)))) ∧ (((decode cX5_shut 95 = .ok (.istore 5, 2)) ∧ (decode cX5_shut 97 = .ok (.iload 5, 2))) ∧ ((decode cX5_shut 99 = .ok (.iload_n 3, 1)) ∧ (decode cX5_shut 100 = .ok (.if_icmp .ge 9, 3)))))) := by decide +kernel
theorem dX5_shut_70 : decode cX5_shut 70 = .ok (.aload_n 0, 1) := dbc_157.1.1.1.1
theorem dX5_shut_71 : decode cX5_shut 71 = .ok (.getfield 12, 3) := dbc_157.1.1.1.2
theorem dX5_shut_74 : decode cX5_shut 74 = .ok (.invokevirtual 76, 3) := dbc_157.1.1.2.1
theorem dX5_shut_77 : decode cX5_shut 77 = .ok (.aload_n 0, 1) := dbc_157.1.1.2.2
theorem dX5_shut_78 : decode cX5_shut 78 = .ok (.getfield 16, 3) := dbc_157.1.2.1.1
theorem dX5_shut_81 : decode cX5_shut 81 = .ok (.iload 4, 2) := dbc_157.1.2.1.2
theorem dX5_shut_83 : decode cX5_shut 83 = .ok (.invokevirtual 167, 3) := dbc_157.1.2.2.1
theorem dX5_shut_86 : decode cX5_shut 86 = .ok (.pop, 1) := dbc_157.1.2.2.2
theorem dX5_shut_87 : decode cX5_shut 87 = .ok (.aload_n 0, 1) := dbc_157.2.1.1.1
theorem dX5_shut_88 : decode cX5_shut 88 = .ok (.getfield 16, 3) := dbc_157.2.1.1.2
theorem dX5_shut_91 : decode cX5_shut 91 = .ok (.iload_n 1, 1) := dbc_157.2.1.2.1
theorem dX5_shut_92 : decode cX5_shut 92 = .ok (.invokevirtual 198, 3) := dbc_157.2.1.2.2
theorem dX5_shut_95 : decode cX5_shut 95 = .ok (.istore 5, 2) := dbc_157.2.2.1.1
theorem dX5_shut_97 : decode cX5_shut 97 = .ok (.iload 5, 2) := dbc_157.2.2.1.2
theorem dX5_shut_99 : decode cX5_shut 99 = .ok (.iload_n 3, 1) := dbc_157.2.2.2.1
theorem dX5_shut_100 : decode cX5_shut 100 = .ok (.if_icmp .ge 9, 3) := dbc_157.2.2.2.2
theorem dbc_158 : (((((decode cX5_shut 103 = .ok (.iload 5, 2)) ∧ (decode cX5_shut 105 = .ok (.istore_n 3, 1))) ∧ ((decode cX5_shut 106 = .ok (.iload 4, 2)) ∧ (decode cX5_shut 108 = .ok (.istore_n 2, 1)))) ∧ (((decode cX5_shut 109 = .ok (.iinc 4 1, 3)) ∧ (decode cX5_shut 112 = .ok (.goto (-73), 3))) ∧ ((decode cX5_shut 115 = .ok (.iload_n 2, 1)) ∧ (decode cX5_shut 116 = .ok (.ireturn, 1))))) ∧ ((((decode cX5_trade 0 = .ok (.aload_n 0, 1)) ∧ (decode cX5_trade 1 = .ok (.getfield 12, 3))) ∧ ((decode cX5_trade 4 = .ok (.iload_n 1, 1)) ∧ (decode cX5_trade 5 = .ok (.invokevirtual 119, 3)))) ∧ (((decode cX5_trade 8 = .ok (.ifCond .eq 14, 3)) ∧ (decode cX5_trade 11 = .ok (.aload_n 0, 1))) ∧ ((decode cX5_trade 12 = .ok (.getfield 12, 3)) ∧ (decode cX5_trade 15 = .ok (.iload_n 2, 1)))))) := by decide +kernel
theorem dX5_shut_103 : decode cX5_shut 103 = .ok (.iload 5, 2) := dbc_158.1.1.1.1
theorem dX5_shut_105 : decode cX5_shut 105 = .ok (.istore_n 3, 1) := dbc_158.1.1.1.2
theorem dX5_shut_106 : decode cX5_shut 106 = .ok (.iload 4, 2) := dbc_158.1.1.2.1
theorem dX5_shut_108 : decode cX5_shut 108 = .ok (.istore_n 2, 1) := dbc_158.1.1.2.2
theorem dX5_shut_109 : decode cX5_shut 109 = .ok (.iinc 4 1, 3) := dbc_158.1.2.1.1
theorem dX5_shut_112 : decode cX5_shut 112 = .ok (.goto (-73), 3) := dbc_158.1.2.1.2
theorem dX5_shut_115 : decode cX5_shut 115 = .ok (.iload_n 2, 1) := dbc_158.1.2.2.1
theorem dX5_shut_116 : decode cX5_shut 116 = .ok (.ireturn, 1) := dbc_158.1.2.2.2
theorem dX5_trade_0 : decode cX5_trade 0 = .ok (.aload_n 0, 1) := dbc_158.2.1.1.1
theorem dX5_trade_1 : decode cX5_trade 1 = .ok (.getfield 12, 3) := dbc_158.2.1.1.2
theorem dX5_trade_4 : decode cX5_trade 4 = .ok (.iload_n 1, 1) := dbc_158.2.1.2.1
theorem dX5_trade_5 : decode cX5_trade 5 = .ok (.invokevirtual 119, 3) := dbc_158.2.1.2.2
theorem dX5_trade_8 : decode cX5_trade 8 = .ok (.ifCond .eq 14, 3) := dbc_158.2.2.1.1
theorem dX5_trade_11 : decode cX5_trade 11 = .ok (.aload_n 0, 1) := dbc_158.2.2.1.2
theorem dX5_trade_12 : decode cX5_trade 12 = .ok (.getfield 12, 3) := dbc_158.2.2.2.1
theorem dX5_trade_15 : decode cX5_trade 15 = .ok (.iload_n 2, 1) := dbc_158.2.2.2.2
theorem dbc_159 : (((((decode cX5_trade 16 = .ok (.invokevirtual 90, 3)) ∧ (decode cX5_trade 19 = .ok (.ifCond .ne 9, 3))) ∧ ((decode cX5_trade 22 = .ok (.aload_n 0, 1)) ∧ (decode cX5_trade 23 = .ok (.iconst (-1), 1)))) ∧ (((decode cX5_trade 24 = .ok (.invokevirtual 65, 3)) ∧ (decode cX5_trade 27 = .ok (.ireturn, 1))) ∧ ((decode cX5_trade 28 = .ok (.aload_n 0, 1)) ∧ (decode cX5_trade 29 = .ok (.getfield 12, 3))))) ∧ ((((decode cX5_trade 32 = .ok (.iload_n 1, 1)) ∧ (decode cX5_trade 33 = .ok (.iload_n 2, 1))) ∧ ((decode cX5_trade 34 = .ok (.invokevirtual 140, 3)) ∧ (decode cX5_trade 37 = .ok (.ifCond .ne 10, 3)))) ∧ (((decode cX5_trade 40 = .ok (.aload_n 0, 1)) ∧ (decode cX5_trade 41 = .ok (.bipush (-3), 2))) ∧ ((decode cX5_trade 43 = .ok (.invokevirtual 65, 3)) ∧ (decode cX5_trade 46 = .ok (.ireturn, 1)))))) := by decide +kernel
theorem dX5_trade_16 : decode cX5_trade 16 = .ok (.invokevirtual 90, 3) := dbc_159.1.1.1.1
theorem dX5_trade_19 : decode cX5_trade 19 = .ok (.ifCond .ne 9, 3) := dbc_159.1.1.1.2
theorem dX5_trade_22 : decode cX5_trade 22 = .ok (.aload_n 0, 1) := dbc_159.1.1.2.1
theorem dX5_trade_23 : decode cX5_trade 23 = .ok (.iconst (-1), 1) := dbc_159.1.1.2.2
theorem dX5_trade_24 : decode cX5_trade 24 = .ok (.invokevirtual 65, 3) := dbc_159.1.2.1.1
theorem dX5_trade_27 : decode cX5_trade 27 = .ok (.ireturn, 1) := dbc_159.1.2.1.2
theorem dX5_trade_28 : decode cX5_trade 28 = .ok (.aload_n 0, 1) := dbc_159.1.2.2.1
theorem dX5_trade_29 : decode cX5_trade 29 = .ok (.getfield 12, 3) := dbc_159.1.2.2.2
theorem dX5_trade_32 : decode cX5_trade 32 = .ok (.iload_n 1, 1) := dbc_159.2.1.1.1
theorem dX5_trade_33 : decode cX5_trade 33 = .ok (.iload_n 2, 1) := dbc_159.2.1.1.2
theorem dX5_trade_34 : decode cX5_trade 34 = .ok (.invokevirtual 140, 3) := dbc_159.2.1.2.1
theorem dX5_trade_37 : decode cX5_trade 37 = .ok (.ifCond .ne 10, 3) := dbc_159.2.1.2.2
theorem dX5_trade_40 : decode cX5_trade 40 = .ok (.aload_n 0, 1) := dbc_159.2.2.1.1
theorem dX5_trade_41 : decode cX5_trade 41 = .ok (.bipush (-3), 2) := dbc_159.2.2.1.2
theorem dX5_trade_43 : decode cX5_trade 43 = .ok (.invokevirtual 65, 3) := dbc_159.2.2.2.1
theorem dX5_trade_46 : decode cX5_trade 46 = .ok (.ireturn, 1) := dbc_159.2.2.2.2
theorem dbc_160 : (((((decode cX5_trade 47 = .ok (.bipush (-9), 2)) ∧ (decode cX5_trade 49 = .ok (.istore_n 3, 1))) ∧ ((decode cX5_trade 50 = .ok (.aload_n 0, 1)) ∧ (decode cX5_trade 51 = .ok (.getfield 12, 3)))) ∧ (((decode cX5_trade 54 = .ok (.invokevirtual 247, 3)) ∧ (decode cX5_trade 57 = .ok (.istore 4, 2))) ∧ ((decode cX5_trade 59 = .ok (.iconst 0, 1)) ∧ (decode cX5_trade 60 = .ok (.istore 5, 2))))) ∧ ((((decode cX5_trade 62 = .ok (.iload 5, 2)) ∧ (decode cX5_trade 64 = .ok (.aload_n 0, 1))) ∧ ((decode cX5_trade 65 = .ok (.getfield 12, 3)) ∧ (decode cX5_trade 68 = .ok (.getfield 158, 3)))) ∧ (((decode cX5_trade 71 = .ok (.if_icmp .ge 89, 3)) ∧ (decode cX5_trade 74 = .ok (.aload_n 0, 1))) ∧ ((decode cX5_trade 75 = .ok (.getfield 12, 3)) ∧ (decode cX5_trade 78 = .ok (.iload 5, 2)))))) := by decide +kernel
theorem dX5_trade_47 : decode cX5_trade 47 = .ok (.bipush (-9), 2) := dbc_160.1.1.1.1
theorem dX5_trade_49 : decode cX5_trade 49 = .ok (.istore_n 3, 1) := dbc_160.1.1.1.2
theorem dX5_trade_50 : decode cX5_trade 50 = .ok (.aload_n 0, 1) := dbc_160.1.1.2.1
theorem dX5_trade_51 : decode cX5_trade 51 = .ok (.getfield 12, 3) := dbc_160.1.1.2.2
theorem dX5_trade_54 : decode cX5_trade 54 = .ok (.invokevirtual 247, 3) := dbc_160.1.2.1.1
theorem dX5_trade_57 : decode cX5_trade 57 = .ok (.istore 4, 2) := dbc_160.1.2.1.2
theorem dX5_trade_59 : decode cX5_trade 59 = .ok (.iconst 0, 1) := dbc_160.1.2.2.1
theorem dX5_trade_60 : decode cX5_trade 60 = .ok (.istore 5, 2) := dbc_160.1.2.2.2
theorem dX5_trade_62 : decode cX5_trade 62 = .ok (.iload 5, 2) := dbc_160.2.1.1.1
theorem dX5_trade_64 : decode cX5_trade 64 = .ok (.aload_n 0, 1) := dbc_160.2.1.1.2
theorem dX5_trade_65 : decode cX5_trade 65 = .ok (.getfield 12, 3) := dbc_160.2.1.2.1
theorem dX5_trade_68 : decode cX5_trade 68 = .ok (.getfield 158, 3) := dbc_160.2.1.2.2
theorem dX5_trade_71 : decode cX5_trade 71 = .ok (.if_icmp .ge 89, 3) := dbc_160.2.2.1.1
theorem dX5_trade_74 : decode cX5_trade 74 = .ok (.aload_n 0, 1) := dbc_160.2.2.1.2
theorem dX5_trade_75 : decode cX5_trade 75 = .ok (.getfield 12, 3) := dbc_160.2.2.2.1
theorem dX5_trade_78 : decode cX5_trade 78 = .ok (.iload 5, 2) := dbc_160.2.2.2.2
theorem dbc_161 : (((((decode cX5_trade 80 = .ok (.iload_n 2, 1)) ∧ (decode cX5_trade 81 = .ok (.invokevirtual 140, 3))) ∧ ((decode cX5_trade 84 = .ok (.ifCond .eq 6, 3)) ∧ (decode cX5_trade 87 = .ok (.goto 67, 3)))) ∧ (((decode cX5_trade 90 = .ok (.aload_n 0, 1)) ∧ (decode cX5_trade 91 = .ok (.getfield 16, 3))) ∧ ((decode cX5_trade 94 = .ok (.aload_n 0, 1)) ∧ (decode cX5_trade 95 = .ok (.getfield 12, 3))))) ∧ ((((decode cX5_trade 98 = .ok (.invokevirtual 76, 3)) ∧ (decode cX5_trade 101 = .ok (.aload_n 0, 1))) ∧ ((decode cX5_trade 102 = .ok (.getfield 16, 3)) ∧ (decode cX5_trade 105 = .ok (.iload_n 1, 1)))) ∧ (((decode cX5_trade 106 = .ok (.iload_n 2, 1)) ∧ (decode cX5_trade 107 = .ok (.iconst (-1), 1))) ∧ ((decode cX5_trade 108 = .ok (.invokevirtual 176, 3)) ∧ (decode cX5_trade 111 = .ok (.aload_n 0, 1)))))) := by decide +kernel
theorem dX5_trade_80 : decode cX5_trade 80 = .ok (.iload_n 2, 1) := dbc_161.1.1.1.1
theorem dX5_trade_81 : decode cX5_trade 81 = .ok (.invokevirtual 140, 3) := dbc_161.1.1.1.2
theorem dX5_trade_84 : decode cX5_trade 84 = .ok (.ifCond .eq 6, 3) := dbc_161.1.1.2.1
theorem dX5_trade_87 : decode cX5_trade 87 = .ok (.goto 67, 3) := dbc_161.1.1.2.2
theorem dX5_trade_90 : decode cX5_trade 90 = .ok (.aload_n 0, 1) := dbc_161.1.2.1.1
theorem dX5_trade_91 : decode cX5_trade 91 = .ok (.getfield 16, 3) := dbc_161.1.2.1.2
theorem dX5_trade_94 : decode cX5_trade 94 = .ok (.aload_n 0, 1) := dbc_161.1.2.2.1
theorem dX5_trade_95 : decode cX5_trade 95 = .ok (.getfield 12, 3) := dbc_161.1.2.2.2
theorem dX5_trade_98 : decode cX5_trade 98 = .ok (.invokevirtual 76, 3) := dbc_161.2.1.1.1
theorem dX5_trade_101 : decode cX5_trade 101 = .ok (.aload_n 0, 1) := dbc_161.2.1.1.2
theorem dX5_trade_102 : decode cX5_trade 102 = .ok (.getfield 16, 3) := dbc_161.2.1.2.1
theorem dX5_trade_105 : decode cX5_trade 105 = .ok (.iload_n 1, 1) := dbc_161.2.1.2.2
theorem dX5_trade_106 : decode cX5_trade 106 = .ok (.iload_n 2, 1) := dbc_161.2.2.1.1
theorem dX5_trade_107 : decode cX5_trade 107 = .ok (.iconst (-1), 1) := dbc_161.2.2.1.2
theorem dX5_trade_108 : decode cX5_trade 108 = .ok (.invokevirtual 176, 3) := dbc_161.2.2.2.1
theorem dX5_trade_111 : decode cX5_trade 111 = .ok (.aload_n 0, 1) := dbc_161.2.2.2.2
theorem dbc_162 : (((((decode cX5_trade 112 = .ok (.getfield 16, 3)) ∧ (decode cX5_trade 115 = .ok (.iload 5, 2))) ∧ ((decode cX5_trade 117 = .ok (.iload_n 2, 1)) ∧ (decode cX5_trade 118 = .ok (.aload_n 0, 1)))) ∧ (((decode cX5_trade 119 = .ok (.getfield 12, 3)) ∧ (decode cX5_trade 122 = .ok (.iload_n 1, 1))) ∧ ((decode cX5_trade 123 = .ok (.iload_n 2, 1)) ∧ (decode cX5_trade 124 = .ok (.iconst 0, 1))))) ∧ ((((decode cX5_trade 125 = .ok (.invokevirtual 144, 3)) ∧ (decode cX5_trade 128 = .ok (.invokevirtual 176, 3))) ∧ ((decode cX5_trade 131 = .ok (.aload_n 0, 1)) ∧ (decode cX5_trade 132 = .ok (.getfield 16, 3)))) ∧ (((decode cX5_trade 135 = .ok (.invokevirtual 247, 3)) ∧ (decode cX5_trade 138 = .ok (.istore 6, 2))) ∧ ((decode cX5_trade 140 = .ok (.iload 6, 2)) ∧ (decode cX5_trade 142 = .ok (.iload 4, 2)))))) := by decide +kernel
theorem dX5_trade_112 : decode cX5_trade 112 = .ok (.getfield 16, 3) := dbc_162.1.1.1.1
theorem dX5_trade_115 : decode cX5_trade 115 = .ok (.iload 5, 2) := dbc_162.1.1.1.2
theorem dX5_trade_117 : decode cX5_trade 117 = .ok (.iload_n 2, 1) := dbc_162.1.1.2.1
theorem dX5_trade_118 : decode cX5_trade 118 = .ok (.aload_n 0, 1) := dbc_162.1.1.2.2
theorem dX5_trade_119 : decode cX5_trade 119 = .ok (.getfield 12, 3) := dbc_162.1.2.1.1
theorem dX5_trade_122 : decode cX5_trade 122 = .ok (.iload_n 1, 1) := dbc_162.1.2.1.2
theorem dX5_trade_123 : decode cX5_trade 123 = .ok (.iload_n 2, 1) := dbc_162.1.2.2.1
theorem dX5_trade_124 : decode cX5_trade 124 = .ok (.iconst 0, 1) := dbc_162.1.2.2.2
theorem dX5_trade_125 : decode cX5_trade 125 = .ok (.invokevirtual 144, 3) := dbc_162.2.1.1.1
theorem dX5_trade_128 : decode cX5_trade 128 = .ok (.invokevirtual 176, 3) := dbc_162.2.1.1.2
theorem dX5_trade_131 : decode cX5_trade 131 = .ok (.aload_n 0, 1) := dbc_162.2.1.2.1
theorem dX5_trade_132 : decode cX5_trade 132 = .ok (.getfield 16, 3) := dbc_162.2.1.2.2
theorem dX5_trade_135 : decode cX5_trade 135 = .ok (.invokevirtual 247, 3) := dbc_162.2.2.1.1
theorem dX5_trade_138 : decode cX5_trade 138 = .ok (.istore 6, 2) := dbc_162.2.2.1.2
theorem dX5_trade_140 : decode cX5_trade 140 = .ok (.iload 6, 2) := dbc_162.2.2.2.1
theorem dX5_trade_142 : decode cX5_trade 142 = .ok (.iload 4, 2) := dbc_162.2.2.2.2
theorem dbc_163 : (((((decode cX5_trade 144 = .ok (.if_icmp .ge 10, 3)) ∧ (decode cX5_trade 147 = .ok (.iload 6, 2))) ∧ ((decode cX5_trade 149 = .ok (.istore 4, 2)) ∧ (decode cX5_trade 151 = .ok (.iload 5, 2)))) ∧ (((decode cX5_trade 153 = .ok (.istore_n 3, 1)) ∧ (decode cX5_trade 154 = .ok (.iinc 5 1, 3))) ∧ ((decode cX5_trade 157 = .ok (.goto (-95), 3)) ∧ (decode cX5_trade 160 = .ok (.iload_n 3, 1))))) ∧ ((((decode cX5_trade 161 = .ok (.ireturn, 1)) ∧ (decode cX5_whoWent 0 = .ok (.aload_n 0, 1))) ∧ ((decode cX5_whoWent 1 = .ok (.getfield 12, 3)) ∧ (decode cX5_whoWent 4 = .ok (.iload_n 1, 1)))) ∧ (((decode cX5_whoWent 5 = .ok (.invokevirtual 90, 3)) ∧ (decode cX5_whoWent 8 = .ok (.ifCond .ne 9, 3))) ∧ ((decode cX5_whoWent 11 = .ok (.aload_n 0, 1)) ∧ (decode cX5_whoWent 12 = .ok (.iconst (-1), 1)))))) := by decide +kernel
theorem dX5_trade_144 : decode cX5_trade 144 = .ok (.if_icmp .ge 10, 3) := dbc_163.1.1.1.1
theorem dX5_trade_147 : decode cX5_trade 147 = .ok (.iload 6, 2) := dbc_163.1.1.1.2
theorem dX5_trade_149 : decode cX5_trade 149 = .ok (.istore 4, 2) := dbc_163.1.1.2.1
theorem dX5_trade_151 : decode cX5_trade 151 = .ok (.iload 5, 2) := dbc_163.1.1.2.2
theorem dX5_trade_153 : decode cX5_trade 153 = .ok (.istore_n 3, 1) := dbc_163.1.2.1.1
theorem dX5_trade_154 : decode cX5_trade 154 = .ok (.iinc 5 1, 3) := dbc_163.1.2.1.2
theorem dX5_trade_157 : decode cX5_trade 157 = .ok (.goto (-95), 3) := dbc_163.1.2.2.1
theorem dX5_trade_160 : decode cX5_trade 160 = .ok (.iload_n 3, 1) := dbc_163.1.2.2.2
theorem dX5_trade_161 : decode cX5_trade 161 = .ok (.ireturn, 1) := dbc_163.2.1.1.1
theorem dX5_whoWent_0 : decode cX5_whoWent 0 = .ok (.aload_n 0, 1) := dbc_163.2.1.1.2
theorem dX5_whoWent_1 : decode cX5_whoWent 1 = .ok (.getfield 12, 3) := dbc_163.2.1.2.1
theorem dX5_whoWent_4 : decode cX5_whoWent 4 = .ok (.iload_n 1, 1) := dbc_163.2.1.2.2
theorem dX5_whoWent_5 : decode cX5_whoWent 5 = .ok (.invokevirtual 90, 3) := dbc_163.2.2.1.1
theorem dX5_whoWent_8 : decode cX5_whoWent 8 = .ok (.ifCond .ne 9, 3) := dbc_163.2.2.1.2
theorem dX5_whoWent_11 : decode cX5_whoWent 11 = .ok (.aload_n 0, 1) := dbc_163.2.2.2.1
theorem dX5_whoWent_12 : decode cX5_whoWent 12 = .ok (.iconst (-1), 1) := dbc_163.2.2.2.2
theorem dbc_164 : (((((decode cX5_whoWent 13 = .ok (.invokevirtual 65, 3)) ∧ (decode cX5_whoWent 16 = .ok (.ireturn, 1))) ∧ ((decode cX5_whoWent 17 = .ok (.iconst 0, 1)) ∧ (decode cX5_whoWent 18 = .ok (.istore_n 2, 1)))) ∧ (((decode cX5_whoWent 19 = .ok (.iconst 0, 1)) ∧ (decode cX5_whoWent 20 = .ok (.istore_n 3, 1))) ∧ ((decode cX5_whoWent 21 = .ok (.iload_n 3, 1)) ∧ (decode cX5_whoWent 22 = .ok (.aload_n 0, 1))))) ∧ ((((decode cX5_whoWent 23 = .ok (.getfield 12, 3)) ∧ (decode cX5_whoWent 26 = .ok (.getfield 158, 3))) ∧ ((decode cX5_whoWent 29 = .ok (.if_icmp .ge 48, 3)) ∧ (decode cX5_whoWent 32 = .ok (.aload_n 0, 1)))) ∧ (((decode cX5_whoWent 33 = .ok (.getfield 12, 3)) ∧ (decode cX5_whoWent 36 = .ok (.getfield 122, 3))) ∧ ((decode cX5_whoWent 39 = .ok (.iload_n 3, 1)) ∧ (decode cX5_whoWent 40 = .ok (.iaload, 1)))))) := by decide +kernel
theorem dX5_whoWent_13 : decode cX5_whoWent 13 = .ok (.invokevirtual 65, 3) := dbc_164.1.1.1.1
theorem dX5_whoWent_16 : decode cX5_whoWent 16 = .ok (.ireturn, 1) := dbc_164.1.1.1.2
theorem dX5_whoWent_17 : decode cX5_whoWent 17 = .ok (.iconst 0, 1) := dbc_164.1.1.2.1
theorem dX5_whoWent_18 : decode cX5_whoWent 18 = .ok (.istore_n 2, 1) := dbc_164.1.1.2.2
theorem dX5_whoWent_19 : decode cX5_whoWent 19 = .ok (.iconst 0, 1) := dbc_164.1.2.1.1
theorem dX5_whoWent_20 : decode cX5_whoWent 20 = .ok (.istore_n 3, 1) := dbc_164.1.2.1.2
theorem dX5_whoWent_21 : decode cX5_whoWent 21 = .ok (.iload_n 3, 1) := dbc_164.1.2.2.1
theorem dX5_whoWent_22 : decode cX5_whoWent 22 = .ok (.aload_n 0, 1) := dbc_164.1.2.2.2
theorem dX5_whoWent_23 : decode cX5_whoWent 23 = .ok (.getfield 12, 3) := dbc_164.2.1.1.1
theorem dX5_whoWent_26 : decode cX5_whoWent 26 = .ok (.getfield 158, 3) := dbc_164.2.1.1.2
theorem dX5_whoWent_29 : decode cX5_whoWent 29 = .ok (.if_icmp .ge 48, 3) := dbc_164.2.1.2.1
theorem dX5_whoWent_32 : decode cX5_whoWent 32 = .ok (.aload_n 0, 1) := dbc_164.2.1.2.2
theorem dX5_whoWent_33 : decode cX5_whoWent 33 = .ok (.getfield 12, 3) := dbc_164.2.2.1.1
theorem dX5_whoWent_36 : decode cX5_whoWent 36 = .ok (.getfield 122, 3) := dbc_164.2.2.1.2
theorem dX5_whoWent_39 : decode cX5_whoWent 39 = .ok (.iload_n 3, 1) := dbc_164.2.2.2.1
theorem dX5_whoWent_40 : decode cX5_whoWent 40 = .ok (.iaload, 1) := dbc_164.2.2.2.2
theorem dbc_165 : (((((decode cX5_whoWent 41 = .ok (.aload_n 0, 1)) ∧ (decode cX5_whoWent 42 = .ok (.getfield 12, 3))) ∧ ((decode cX5_whoWent 45 = .ok (.getfield 100, 3)) ∧ (decode cX5_whoWent 48 = .ok (.iload_n 1, 1)))) ∧ (((decode cX5_whoWent 49 = .ok (.iaload, 1)) ∧ (decode cX5_whoWent 50 = .ok (.if_icmp .ne 21, 3))) ∧ ((decode cX5_whoWent 53 = .ok (.aload_n 0, 1)) ∧ (decode cX5_whoWent 54 = .ok (.getfield 12, 3))))) ∧ ((((decode cX5_whoWent 57 = .ok (.iload_n 3, 1)) ∧ (decode cX5_whoWent 58 = .ok (.iload_n 1, 1))) ∧ ((decode cX5_whoWent 59 = .ok (.invokevirtual 140, 3)) ∧ (decode cX5_whoWent 62 = .ok (.ifCond .eq 9, 3)))) ∧ (((decode cX5_whoWent 65 = .ok (.iload_n 2, 1)) ∧ (decode cX5_whoWent 66 = .ok (.iconst 1, 1))) ∧ ((decode cX5_whoWent 67 = .ok (.iload_n 3, 1)) ∧ (decode cX5_whoWent 68 = .ok (.ishl, 1)))))) := by decide +kernel
theorem dX5_whoWent_41 : decode cX5_whoWent 41 = .ok (.aload_n 0, 1) := dbc_165.1.1.1.1
theorem dX5_whoWent_42 : decode cX5_whoWent 42 = .ok (.getfield 12, 3) := dbc_165.1.1.1.2
theorem dX5_whoWent_45 : decode cX5_whoWent 45 = .ok (.getfield 100, 3) := dbc_165.1.1.2.1
theorem dX5_whoWent_48 : decode cX5_whoWent 48 = .ok (.iload_n 1, 1) := dbc_165.1.1.2.2
theorem dX5_whoWent_49 : decode cX5_whoWent 49 = .ok (.iaload, 1) := dbc_165.1.2.1.1
theorem dX5_whoWent_50 : decode cX5_whoWent 50 = .ok (.if_icmp .ne 21, 3) := dbc_165.1.2.1.2
theorem dX5_whoWent_53 : decode cX5_whoWent 53 = .ok (.aload_n 0, 1) := dbc_165.1.2.2.1
theorem dX5_whoWent_54 : decode cX5_whoWent 54 = .ok (.getfield 12, 3) := dbc_165.1.2.2.2
theorem dX5_whoWent_57 : decode cX5_whoWent 57 = .ok (.iload_n 3, 1) := dbc_165.2.1.1.1
theorem dX5_whoWent_58 : decode cX5_whoWent 58 = .ok (.iload_n 1, 1) := dbc_165.2.1.1.2
theorem dX5_whoWent_59 : decode cX5_whoWent 59 = .ok (.invokevirtual 140, 3) := dbc_165.2.1.2.1
theorem dX5_whoWent_62 : decode cX5_whoWent 62 = .ok (.ifCond .eq 9, 3) := dbc_165.2.1.2.2
theorem dX5_whoWent_65 : decode cX5_whoWent 65 = .ok (.iload_n 2, 1) := dbc_165.2.2.1.1
theorem dX5_whoWent_66 : decode cX5_whoWent 66 = .ok (.iconst 1, 1) := dbc_165.2.2.1.2
theorem dX5_whoWent_67 : decode cX5_whoWent 67 = .ok (.iload_n 3, 1) := dbc_165.2.2.2.1
theorem dX5_whoWent_68 : decode cX5_whoWent 68 = .ok (.ishl, 1) := dbc_165.2.2.2.2
theorem dbc_166 : (((((decode cX5_whoWent 69 = .ok (.ior, 1)) ∧ (decode cX5_whoWent 70 = .ok (.istore_n 2, 1))) ∧ ((decode cX5_whoWent 71 = .ok (.iinc 3 1, 3)) ∧ (decode cX5_whoWent 74 = .ok (.goto (-53), 3)))) ∧ (((decode cX5_whoWent 77 = .ok (.iload_n 2, 1)) ∧ (decode cX5_whoWent 78 = .ok (.ireturn, 1))) ∧ ((decode cX5_spread 0 = .ok (.iload_n 1, 1)) ∧ (decode cX5_spread 1 = .ok (.ifCond .eq 15, 3))))) ∧ ((((decode cX5_spread 4 = .ok (.iload_n 1, 1)) ∧ (decode cX5_spread 5 = .ok (.iconst 1, 1))) ∧ ((decode cX5_spread 6 = .ok (.if_icmp .eq 10, 3)) ∧ (decode cX5_spread 9 = .ok (.aload_n 0, 1)))) ∧ (((decode cX5_spread 10 = .ok (.bipush (-2), 2)) ∧ (decode cX5_spread 12 = .ok (.invokevirtual 65, 3))) ∧ ((decode cX5_spread 15 = .ok (.ireturn, 1)) ∧ (decode cX5_spread 16 = .ok (.iload_n 1, 1)))))) := by decide +kernel
theorem dX5_whoWent_69 : decode cX5_whoWent 69 = .ok (.ior, 1) := dbc_166.1.1.1.1
theorem dX5_whoWent_70 : decode cX5_whoWent 70 = .ok (.istore_n 2, 1) := dbc_166.1.1.1.2
theorem dX5_whoWent_71 : decode cX5_whoWent 71 = .ok (.iinc 3 1, 3) := dbc_166.1.1.2.1
theorem dX5_whoWent_74 : decode cX5_whoWent 74 = .ok (.goto (-53), 3) := dbc_166.1.1.2.2
theorem dX5_whoWent_77 : decode cX5_whoWent 77 = .ok (.iload_n 2, 1) := dbc_166.1.2.1.1
theorem dX5_whoWent_78 : decode cX5_whoWent 78 = .ok (.ireturn, 1) := dbc_166.1.2.1.2
theorem dX5_spread_0 : decode cX5_spread 0 = .ok (.iload_n 1, 1) := dbc_166.1.2.2.1
theorem dX5_spread_1 : decode cX5_spread 1 = .ok (.ifCond .eq 15, 3) := dbc_166.1.2.2.2
theorem dX5_spread_4 : decode cX5_spread 4 = .ok (.iload_n 1, 1) := dbc_166.2.1.1.1
theorem dX5_spread_5 : decode cX5_spread 5 = .ok (.iconst 1, 1) := dbc_166.2.1.1.2
theorem dX5_spread_6 : decode cX5_spread 6 = .ok (.if_icmp .eq 10, 3) := dbc_166.2.1.2.1
theorem dX5_spread_9 : decode cX5_spread 9 = .ok (.aload_n 0, 1) := dbc_166.2.1.2.2
theorem dX5_spread_10 : decode cX5_spread 10 = .ok (.bipush (-2), 2) := dbc_166.2.2.1.1
theorem dX5_spread_12 : decode cX5_spread 12 = .ok (.invokevirtual 65, 3) := dbc_166.2.2.1.2
theorem dX5_spread_15 : decode cX5_spread 15 = .ok (.ireturn, 1) := dbc_166.2.2.2.1
theorem dX5_spread_16 : decode cX5_spread 16 = .ok (.iload_n 1, 1) := dbc_166.2.2.2.2
theorem dbc_167 : (((((decode cX5_spread 17 = .ok (.ifCond .ne 10, 3)) ∧ (decode cX5_spread 20 = .ok (.aload_n 0, 1))) ∧ ((decode cX5_spread 21 = .ok (.invokevirtual 250, 3)) ∧ (decode cX5_spread 24 = .ok (.goto 7, 3)))) ∧ (((decode cX5_spread 27 = .ok (.aload_n 0, 1)) ∧ (decode cX5_spread 28 = .ok (.invokevirtual 253, 3))) ∧ ((decode cX5_spread 31 = .ok (.ireturn, 1)) ∧ (decode cX5_whatKind 0 = .ok (.aload_n 0, 1))))) ∧ ((((decode cX5_whatKind 1 = .ok (.getfield 12, 3)) ∧ (decode cX5_whatKind 4 = .ok (.iload_n 1, 1))) ∧ ((decode cX5_whatKind 5 = .ok (.invokevirtual 119, 3)) ∧ (decode cX5_whatKind 8 = .ok (.ifCond .eq 14, 3)))) ∧ (((decode cX5_whatKind 11 = .ok (.aload_n 0, 1)) ∧ (decode cX5_whatKind 12 = .ok (.getfield 12, 3))) ∧ ((decode cX5_whatKind 15 = .ok (.iload_n 2, 1)) ∧ (decode cX5_whatKind 16 = .ok (.invokevirtual 90, 3)))))) := by decide +kernel
theorem dX5_spread_17 : decode cX5_spread 17 = .ok (.ifCond .ne 10, 3) := dbc_167.1.1.1.1
theorem dX5_spread_20 : decode cX5_spread 20 = .ok (.aload_n 0, 1) := dbc_167.1.1.1.2
theorem dX5_spread_21 : decode cX5_spread 21 = .ok (.invokevirtual 250, 3) := dbc_167.1.1.2.1
theorem dX5_spread_24 : decode cX5_spread 24 = .ok (.goto 7, 3) := dbc_167.1.1.2.2
theorem dX5_spread_27 : decode cX5_spread 27 = .ok (.aload_n 0, 1) := dbc_167.1.2.1.1
theorem dX5_spread_28 : decode cX5_spread 28 = .ok (.invokevirtual 253, 3) := dbc_167.1.2.1.2
theorem dX5_spread_31 : decode cX5_spread 31 = .ok (.ireturn, 1) := dbc_167.1.2.2.1
theorem dX5_whatKind_0 : decode cX5_whatKind 0 = .ok (.aload_n 0, 1) := dbc_167.1.2.2.2
theorem dX5_whatKind_1 : decode cX5_whatKind 1 = .ok (.getfield 12, 3) := dbc_167.2.1.1.1
theorem dX5_whatKind_4 : decode cX5_whatKind 4 = .ok (.iload_n 1, 1) := dbc_167.2.1.1.2
theorem dX5_whatKind_5 : decode cX5_whatKind 5 = .ok (.invokevirtual 119, 3) := dbc_167.2.1.2.1
theorem dX5_whatKind_8 : decode cX5_whatKind 8 = .ok (.ifCond .eq 14, 3) := dbc_167.2.1.2.2
theorem dX5_whatKind_11 : decode cX5_whatKind 11 = .ok (.aload_n 0, 1) := dbc_167.2.2.1.1
theorem dX5_whatKind_12 : decode cX5_whatKind 12 = .ok (.getfield 12, 3) := dbc_167.2.2.1.2
theorem dX5_whatKind_15 : decode cX5_whatKind 15 = .ok (.iload_n 2, 1) := dbc_167.2.2.2.1
theorem dX5_whatKind_16 : decode cX5_whatKind 16 = .ok (.invokevirtual 90, 3) := dbc_167.2.2.2.2
theorem dbc_168 : (((((decode cX5_whatKind 19 = .ok (.ifCond .ne 9, 3)) ∧ (decode cX5_whatKind 22 = .ok (.aload_n 0, 1))) ∧ ((decode cX5_whatKind 23 = .ok (.iconst (-1), 1)) ∧ (decode cX5_whatKind 24 = .ok (.invokevirtual 65, 3)))) ∧ (((decode cX5_whatKind 27 = .ok (.ireturn, 1)) ∧ (decode cX5_whatKind 28 = .ok (.iload_n 3, 1))) ∧ ((decode cX5_whatKind 29 = .ok (.ifCond .eq 15, 3)) ∧ (decode cX5_whatKind 32 = .ok (.iload_n 3, 1))))) ∧ ((((decode cX5_whatKind 33 = .ok (.iconst 1, 1)) ∧ (decode cX5_whatKind 34 = .ok (.if_icmp .eq 10, 3))) ∧ ((decode cX5_whatKind 37 = .ok (.aload_n 0, 1)) ∧ (decode cX5_whatKind 38 = .ok (.bipush (-2), 2)))) ∧ (((decode cX5_whatKind 40 = .ok (.invokevirtual 65, 3)) ∧ (decode cX5_whatKind 43 = .ok (.ireturn, 1))) ∧ ((decode cX5_whatKind 44 = .ok (.iload_n 3, 1)) ∧ (decode cX5_whatKind 45 = .ok (.ifCond .ne 12, 3)))))) := by decide +kernel
theorem dX5_whatKind_19 : decode cX5_whatKind 19 = .ok (.ifCond .ne 9, 3) := dbc_168.1.1.1.1
theorem dX5_whatKind_22 : decode cX5_whatKind 22 = .ok (.aload_n 0, 1) := dbc_168.1.1.1.2
theorem dX5_whatKind_23 : decode cX5_whatKind 23 = .ok (.iconst (-1), 1) := dbc_168.1.1.2.1
theorem dX5_whatKind_24 : decode cX5_whatKind 24 = .ok (.invokevirtual 65, 3) := dbc_168.1.1.2.2
theorem dX5_whatKind_27 : decode cX5_whatKind 27 = .ok (.ireturn, 1) := dbc_168.1.2.1.1
theorem dX5_whatKind_28 : decode cX5_whatKind 28 = .ok (.iload_n 3, 1) := dbc_168.1.2.1.2
theorem dX5_whatKind_29 : decode cX5_whatKind 29 = .ok (.ifCond .eq 15, 3) := dbc_168.1.2.2.1
theorem dX5_whatKind_32 : decode cX5_whatKind 32 = .ok (.iload_n 3, 1) := dbc_168.1.2.2.2
theorem dX5_whatKind_33 : decode cX5_whatKind 33 = .ok (.iconst 1, 1) := dbc_168.2.1.1.1
theorem dX5_whatKind_34 : decode cX5_whatKind 34 = .ok (.if_icmp .eq 10, 3) := dbc_168.2.1.1.2
theorem dX5_whatKind_37 : decode cX5_whatKind 37 = .ok (.aload_n 0, 1) := dbc_168.2.1.2.1
theorem dX5_whatKind_38 : decode cX5_whatKind 38 = .ok (.bipush (-2), 2) := dbc_168.2.1.2.2
theorem dX5_whatKind_40 : decode cX5_whatKind 40 = .ok (.invokevirtual 65, 3) := dbc_168.2.2.1.1
theorem dX5_whatKind_43 : decode cX5_whatKind 43 = .ok (.ireturn, 1) := dbc_168.2.2.1.2
theorem dX5_whatKind_44 : decode cX5_whatKind 44 = .ok (.iload_n 3, 1) := dbc_168.2.2.2.1
theorem dX5_whatKind_45 : decode cX5_whatKind 45 = .ok (.ifCond .ne 12, 3) := dbc_168.2.2.2.2
theorem dbc_169 : (((((decode cX5_whatKind 48 = .ok (.aload_n 0, 1)) ∧ (decode cX5_whatKind 49 = .ok (.iload_n 1, 1))) ∧ ((decode cX5_whatKind 50 = .ok (.iload_n 2, 1)) ∧ (decode cX5_whatKind 51 = .ok (.invokevirtual 256, 3)))) ∧ (((decode cX5_whatKind 54 = .ok (.goto 9, 3)) ∧ (decode cX5_whatKind 57 = .ok (.aload_n 0, 1))) ∧ ((decode cX5_whatKind 58 = .ok (.iload_n 1, 1)) ∧ (decode cX5_whatKind 59 = .ok (.iload_n 2, 1))))) ∧ ((((decode cX5_whatKind 60 = .ok (.invokevirtual 259, 3)) ∧ (decode cX5_whatKind 63 = .ok (.ireturn, 1))) ∧ ((decode cX5_two 0 = .ok (.aload_n 0, 1)) ∧ (decode cX5_two 1 = .ok (.getfield 12, 3)))) ∧ (((decode cX5_two 4 = .ok (.iload_n 1, 1)) ∧ (decode cX5_two 5 = .ok (.invokevirtual 90, 3))) ∧ ((decode cX5_two 8 = .ok (.ifCond .eq 19, 3)) ∧ (decode cX5_two 11 = .ok (.aload_n 0, 1)))))) := by decide +kernel
theorem dX5_whatKind_48 : decode cX5_whatKind 48 = .ok (.aload_n 0, 1) := dbc_169.1.1.1.1
theorem dX5_whatKind_49 : decode cX5_whatKind 49 = .ok (.iload_n 1, 1) := dbc_169.1.1.1.2
theorem dX5_whatKind_50 : decode cX5_whatKind 50 = .ok (.iload_n 2, 1) := dbc_169.1.1.2.1
theorem dX5_whatKind_51 : decode cX5_whatKind 51 = .ok (.invokevirtual 256, 3) := dbc_169.1.1.2.2
theorem dX5_whatKind_54 : decode cX5_whatKind 54 = .ok (.goto 9, 3) := dbc_169.1.2.1.1
theorem dX5_whatKind_57 : decode cX5_whatKind 57 = .ok (.aload_n 0, 1) := dbc_169.1.2.1.2
theorem dX5_whatKind_58 : decode cX5_whatKind 58 = .ok (.iload_n 1, 1) := dbc_169.1.2.2.1
theorem dX5_whatKind_59 : decode cX5_whatKind 59 = .ok (.iload_n 2, 1) := dbc_169.1.2.2.2
theorem dX5_whatKind_60 : decode cX5_whatKind 60 = .ok (.invokevirtual 259, 3) := dbc_169.2.1.1.1
theorem dX5_whatKind_63 : decode cX5_whatKind 63 = .ok (.ireturn, 1) := dbc_169.2.1.1.2
theorem dX5_two_0 : decode cX5_two 0 = .ok (.aload_n 0, 1) := dbc_169.2.1.2.1
theorem dX5_two_1 : decode cX5_two 1 = .ok (.getfield 12, 3) := dbc_169.2.1.2.2
theorem dX5_two_4 : decode cX5_two 4 = .ok (.iload_n 1, 1) := dbc_169.2.2.1.1
theorem dX5_two_5 : decode cX5_two 5 = .ok (.invokevirtual 90, 3) := dbc_169.2.2.1.2
theorem dX5_two_8 : decode cX5_two 8 = .ok (.ifCond .eq 19, 3) := dbc_169.2.2.2.1
theorem dX5_two_11 : decode cX5_two 11 = .ok (.aload_n 0, 1) := dbc_169.2.2.2.2
theorem dbc_170 : (((((decode cX5_two 12 = .ok (.getfield 12, 3)) ∧ (decode cX5_two 15 = .ok (.iload_n 2, 1))) ∧ ((decode cX5_two 16 = .ok (.invokevirtual 90, 3)) ∧ (decode cX5_two 19 = .ok (.ifCond .eq 8, 3)))) ∧ (((decode cX5_two 22 = .ok (.iload_n 1, 1)) ∧ (decode cX5_two 23 = .ok (.iload_n 2, 1))) ∧ ((decode cX5_two 24 = .ok (.if_icmp .ne 9, 3)) ∧ (decode cX5_two 27 = .ok (.aload_n 0, 1))))) ∧ ((((decode cX5_two 28 = .ok (.iconst (-1), 1)) ∧ (decode cX5_two 29 = .ok (.invokevirtual 65, 3))) ∧ ((decode cX5_two 32 = .ok (.ireturn, 1)) ∧ (decode cX5_two 33 = .ok (.iload_n 3, 1)))) ∧ (((decode cX5_two 34 = .ok (.ifCond .ge 10, 3)) ∧ (decode cX5_two 37 = .ok (.aload_n 0, 1))) ∧ ((decode cX5_two 38 = .ok (.bipush (-4), 2)) ∧ (decode cX5_two 40 = .ok (.invokevirtual 65, 3)))))) := by decide +kernel
theorem dX5_two_12 : decode cX5_two 12 = .ok (.getfield 12, 3) := dbc_170.1.1.1.1
theorem dX5_two_15 : decode cX5_two 15 = .ok (.iload_n 2, 1) := dbc_170.1.1.1.2
theorem dX5_two_16 : decode cX5_two 16 = .ok (.invokevirtual 90, 3) := dbc_170.1.1.2.1
theorem dX5_two_19 : decode cX5_two 19 = .ok (.ifCond .eq 8, 3) := dbc_170.1.1.2.2
theorem dX5_two_22 : decode cX5_two 22 = .ok (.iload_n 1, 1) := dbc_170.1.2.1.1
theorem dX5_two_23 : decode cX5_two 23 = .ok (.iload_n 2, 1) := dbc_170.1.2.1.2
theorem dX5_two_24 : decode cX5_two 24 = .ok (.if_icmp .ne 9, 3) := dbc_170.1.2.2.1
theorem dX5_two_27 : decode cX5_two 27 = .ok (.aload_n 0, 1) := dbc_170.1.2.2.2
theorem dX5_two_28 : decode cX5_two 28 = .ok (.iconst (-1), 1) := dbc_170.2.1.1.1
theorem dX5_two_29 : decode cX5_two 29 = .ok (.invokevirtual 65, 3) := dbc_170.2.1.1.2
theorem dX5_two_32 : decode cX5_two 32 = .ok (.ireturn, 1) := dbc_170.2.1.2.1
theorem dX5_two_33 : decode cX5_two 33 = .ok (.iload_n 3, 1) := dbc_170.2.1.2.2
theorem dX5_two_34 : decode cX5_two 34 = .ok (.ifCond .ge 10, 3) := dbc_170.2.2.1.1
theorem dX5_two_37 : decode cX5_two 37 = .ok (.aload_n 0, 1) := dbc_170.2.2.1.2
theorem dX5_two_38 : decode cX5_two 38 = .ok (.bipush (-4), 2) := dbc_170.2.2.2.1
theorem dX5_two_40 : decode cX5_two 40 = .ok (.invokevirtual 65, 3) := dbc_170.2.2.2.2
theorem dbc_171 : (((((decode cX5_two 43 = .ok (.ireturn, 1)) ∧ (decode cX5_two 44 = .ok (.iload_n 3, 1))) ∧ ((decode cX5_two 45 = .ok (.bipush 60, 2)) ∧ (decode cX5_two 47 = .ok (.if_icmp .le 10, 3)))) ∧ (((decode cX5_two 50 = .ok (.aload_n 0, 1)) ∧ (decode cX5_two 51 = .ok (.bipush (-6), 2))) ∧ ((decode cX5_two 53 = .ok (.invokevirtual 65, 3)) ∧ (decode cX5_two 56 = .ok (.ireturn, 1))))) ∧ ((((decode cX5_two 57 = .ok (.bipush 10, 2)) ∧ (decode cX5_two 59 = .ok (.aload_n 0, 1))) ∧ ((decode cX5_two 60 = .ok (.iload_n 1, 1)) ∧ (decode cX5_two 61 = .ok (.iload_n 3, 1)))) ∧ (((decode cX5_two 62 = .ok (.invokevirtual 262, 3)) ∧ (decode cX5_two 65 = .ok (.imul, 1))) ∧ ((decode cX5_two 66 = .ok (.aload_n 0, 1)) ∧ (decode cX5_two 67 = .ok (.iload_n 2, 1)))))) := by decide +kernel
theorem dX5_two_43 : decode cX5_two 43 = .ok (.ireturn, 1) := dbc_171.1.1.1.1
theorem dX5_two_44 : decode cX5_two 44 = .ok (.iload_n 3, 1) := dbc_171.1.1.1.2
theorem dX5_two_45 : decode cX5_two 45 = .ok (.bipush 60, 2) := dbc_171.1.1.2.1
theorem dX5_two_47 : decode cX5_two 47 = .ok (.if_icmp .le 10, 3) := dbc_171.1.1.2.2
theorem dX5_two_50 : decode cX5_two 50 = .ok (.aload_n 0, 1) := dbc_171.1.2.1.1
theorem dX5_two_51 : decode cX5_two 51 = .ok (.bipush (-6), 2) := dbc_171.1.2.1.2
theorem dX5_two_53 : decode cX5_two 53 = .ok (.invokevirtual 65, 3) := dbc_171.1.2.2.1
theorem dX5_two_56 : decode cX5_two 56 = .ok (.ireturn, 1) := dbc_171.1.2.2.2
theorem dX5_two_57 : decode cX5_two 57 = .ok (.bipush 10, 2) := dbc_171.2.1.1.1
theorem dX5_two_59 : decode cX5_two 59 = .ok (.aload_n 0, 1) := dbc_171.2.1.1.2
theorem dX5_two_60 : decode cX5_two 60 = .ok (.iload_n 1, 1) := dbc_171.2.1.2.1
theorem dX5_two_61 : decode cX5_two 61 = .ok (.iload_n 3, 1) := dbc_171.2.1.2.2
theorem dX5_two_62 : decode cX5_two 62 = .ok (.invokevirtual 262, 3) := dbc_171.2.2.1.1
theorem dX5_two_65 : decode cX5_two 65 = .ok (.imul, 1) := dbc_171.2.2.1.2
theorem dX5_two_66 : decode cX5_two 66 = .ok (.aload_n 0, 1) := dbc_171.2.2.2.1
theorem dX5_two_67 : decode cX5_two 67 = .ok (.iload_n 2, 1) := dbc_171.2.2.2.2
theorem dbc_172 : (((((decode cX5_two 68 = .ok (.iload_n 3, 1)) ∧ (decode cX5_two 69 = .ok (.invokevirtual 262, 3))) ∧ ((decode cX5_two 72 = .ok (.iadd, 1)) ∧ (decode cX5_two 73 = .ok (.ireturn, 1)))) ∧ (((decode cX5_mist 0 = .ok (.aload_n 0, 1)) ∧ (decode cX5_mist 1 = .ok (.getfield 12, 3))) ∧ ((decode cX5_mist 4 = .ok (.iload_n 1, 1)) ∧ (decode cX5_mist 5 = .ok (.invokevirtual 119, 3))))) ∧ ((((decode cX5_mist 8 = .ok (.ifCond .eq 14, 3)) ∧ (decode cX5_mist 11 = .ok (.aload_n 0, 1))) ∧ ((decode cX5_mist 12 = .ok (.getfield 12, 3)) ∧ (decode cX5_mist 15 = .ok (.iload_n 2, 1)))) ∧ (((decode cX5_mist 16 = .ok (.invokevirtual 90, 3)) ∧ (decode cX5_mist 19 = .ok (.ifCond .ne 9, 3))) ∧ ((decode cX5_mist 22 = .ok (.aload_n 0, 1)) ∧ (decode cX5_mist 23 = .ok (.iconst (-1), 1)))))) := by decide +kernel
theorem dX5_two_68 : decode cX5_two 68 = .ok (.iload_n 3, 1) := dbc_172.1.1.1.1
theorem dX5_two_69 : decode cX5_two 69 = .ok (.invokevirtual 262, 3) := dbc_172.1.1.1.2
theorem dX5_two_72 : decode cX5_two 72 = .ok (.iadd, 1) := dbc_172.1.1.2.1
theorem dX5_two_73 : decode cX5_two 73 = .ok (.ireturn, 1) := dbc_172.1.1.2.2
theorem dX5_mist_0 : decode cX5_mist 0 = .ok (.aload_n 0, 1) := dbc_172.1.2.1.1
theorem dX5_mist_1 : decode cX5_mist 1 = .ok (.getfield 12, 3) := dbc_172.1.2.1.2
theorem dX5_mist_4 : decode cX5_mist 4 = .ok (.iload_n 1, 1) := dbc_172.1.2.2.1
theorem dX5_mist_5 : decode cX5_mist 5 = .ok (.invokevirtual 119, 3) := dbc_172.1.2.2.2
theorem dX5_mist_8 : decode cX5_mist 8 = .ok (.ifCond .eq 14, 3) := dbc_172.2.1.1.1
theorem dX5_mist_11 : decode cX5_mist 11 = .ok (.aload_n 0, 1) := dbc_172.2.1.1.2
theorem dX5_mist_12 : decode cX5_mist 12 = .ok (.getfield 12, 3) := dbc_172.2.1.2.1
theorem dX5_mist_15 : decode cX5_mist 15 = .ok (.iload_n 2, 1) := dbc_172.2.1.2.2
theorem dX5_mist_16 : decode cX5_mist 16 = .ok (.invokevirtual 90, 3) := dbc_172.2.2.1.1
theorem dX5_mist_19 : decode cX5_mist 19 = .ok (.ifCond .ne 9, 3) := dbc_172.2.2.1.2
theorem dX5_mist_22 : decode cX5_mist 22 = .ok (.aload_n 0, 1) := dbc_172.2.2.2.1
theorem dX5_mist_23 : decode cX5_mist 23 = .ok (.iconst (-1), 1) := dbc_172.2.2.2.2
theorem dbc_173 : (((((decode cX5_mist 24 = .ok (.invokevirtual 265, 3)) ∧ (decode cX5_mist 27 = .ok (.lreturn, 1))) ∧ ((decode cX5_mist 28 = .ok (.iload_n 3, 1)) ∧ (decode cX5_mist 29 = .ok (.ifCond .lt 9, 3)))) ∧ (((decode cX5_mist 32 = .ok (.iload 4, 2)) ∧ (decode cX5_mist 34 = .ok (.iconst 2, 1))) ∧ ((decode cX5_mist 35 = .ok (.if_icmp .ge 10, 3)) ∧ (decode cX5_mist 38 = .ok (.aload_n 0, 1))))) ∧ ((((decode cX5_mist 39 = .ok (.bipush (-4), 2)) ∧ (decode cX5_mist 41 = .ok (.invokevirtual 265, 3))) ∧ ((decode cX5_mist 44 = .ok (.lreturn, 1)) ∧ (decode cX5_mist 45 = .ok (.iload_n 3, 1)))) ∧ (((decode cX5_mist 46 = .ok (.bipush 7, 2)) ∧ (decode cX5_mist 48 = .ok (.if_icmp .gt 10, 3))) ∧ ((decode cX5_mist 51 = .ok (.iload 4, 2)) ∧ (decode cX5_mist 53 = .ok (.bipush 20, 2)))))) := by decide +kernel
theorem dX5_mist_24 : decode cX5_mist 24 = .ok (.invokevirtual 265, 3) := dbc_173.1.1.1.1
theorem dX5_mist_27 : decode cX5_mist 27 = .ok (.lreturn, 1) := dbc_173.1.1.1.2
theorem dX5_mist_28 : decode cX5_mist 28 = .ok (.iload_n 3, 1) := dbc_173.1.1.2.1
theorem dX5_mist_29 : decode cX5_mist 29 = .ok (.ifCond .lt 9, 3) := dbc_173.1.1.2.2
theorem dX5_mist_32 : decode cX5_mist 32 = .ok (.iload 4, 2) := dbc_173.1.2.1.1
theorem dX5_mist_34 : decode cX5_mist 34 = .ok (.iconst 2, 1) := dbc_173.1.2.1.2
theorem dX5_mist_35 : decode cX5_mist 35 = .ok (.if_icmp .ge 10, 3) := dbc_173.1.2.2.1
theorem dX5_mist_38 : decode cX5_mist 38 = .ok (.aload_n 0, 1) := dbc_173.1.2.2.2
theorem dX5_mist_39 : decode cX5_mist 39 = .ok (.bipush (-4), 2) := dbc_173.2.1.1.1
theorem dX5_mist_41 : decode cX5_mist 41 = .ok (.invokevirtual 265, 3) := dbc_173.2.1.1.2
theorem dX5_mist_44 : decode cX5_mist 44 = .ok (.lreturn, 1) := dbc_173.2.1.2.1
theorem dX5_mist_45 : decode cX5_mist 45 = .ok (.iload_n 3, 1) := dbc_173.2.1.2.2
theorem dX5_mist_46 : decode cX5_mist 46 = .ok (.bipush 7, 2) := dbc_173.2.2.1.1
theorem dX5_mist_48 : decode cX5_mist 48 = .ok (.if_icmp .gt 10, 3) := dbc_173.2.2.1.2
theorem dX5_mist_51 : decode cX5_mist 51 = .ok (.iload 4, 2) := dbc_173.2.2.2.1
theorem dX5_mist_53 : decode cX5_mist 53 = .ok (.bipush 20, 2) := dbc_173.2.2.2.2
theorem dbc_174 : (((((decode cX5_mist 55 = .ok (.if_icmp .le 10, 3)) ∧ (decode cX5_mist 58 = .ok (.aload_n 0, 1))) ∧ ((decode cX5_mist 59 = .ok (.bipush (-6), 2)) ∧ (decode cX5_mist 61 = .ok (.invokevirtual 265, 3)))) ∧ (((decode cX5_mist 64 = .ok (.lreturn, 1)) ∧ (decode cX5_mist 65 = .ok (.iload 5, 2))) ∧ ((decode cX5_mist 67 = .ok (.ifCond .eq 16, 3)) ∧ (decode cX5_mist 70 = .ok (.iload 5, 2))))) ∧ ((((decode cX5_mist 72 = .ok (.iconst 1, 1)) ∧ (decode cX5_mist 73 = .ok (.if_icmp .eq 10, 3))) ∧ ((decode cX5_mist 76 = .ok (.aload_n 0, 1)) ∧ (decode cX5_mist 77 = .ok (.bipush (-2), 2)))) ∧ (((decode cX5_mist 79 = .ok (.invokevirtual 265, 3)) ∧ (decode cX5_mist 82 = .ok (.lreturn, 1))) ∧ ((decode cX5_mist 83 = .ok (.aload_n 0, 1)) ∧ (decode cX5_mist 84 = .ok (.getfield 12, 3)))))) := by decide +kernel
theorem dX5_mist_55 : decode cX5_mist 55 = .ok (.if_icmp .le 10, 3) := dbc_174.1.1.1.1
theorem dX5_mist_58 : decode cX5_mist 58 = .ok (.aload_n 0, 1) := dbc_174.1.1.1.2
theorem dX5_mist_59 : decode cX5_mist 59 = .ok (.bipush (-6), 2) := dbc_174.1.1.2.1
theorem dX5_mist_61 : decode cX5_mist 61 = .ok (.invokevirtual 265, 3) := dbc_174.1.1.2.2
theorem dX5_mist_64 : decode cX5_mist 64 = .ok (.lreturn, 1) := dbc_174.1.2.1.1
theorem dX5_mist_65 : decode cX5_mist 65 = .ok (.iload 5, 2) := dbc_174.1.2.1.2
theorem dX5_mist_67 : decode cX5_mist 67 = .ok (.ifCond .eq 16, 3) := dbc_174.1.2.2.1
theorem dX5_mist_70 : decode cX5_mist 70 = .ok (.iload 5, 2) := dbc_174.1.2.2.2
theorem dX5_mist_72 : decode cX5_mist 72 = .ok (.iconst 1, 1) := dbc_174.2.1.1.1
theorem dX5_mist_73 : decode cX5_mist 73 = .ok (.if_icmp .eq 10, 3) := dbc_174.2.1.1.2
theorem dX5_mist_76 : decode cX5_mist 76 = .ok (.aload_n 0, 1) := dbc_174.2.1.2.1
theorem dX5_mist_77 : decode cX5_mist 77 = .ok (.bipush (-2), 2) := dbc_174.2.1.2.2
theorem dX5_mist_79 : decode cX5_mist 79 = .ok (.invokevirtual 265, 3) := dbc_174.2.2.1.1
theorem dX5_mist_82 : decode cX5_mist 82 = .ok (.lreturn, 1) := dbc_174.2.2.1.2
theorem dX5_mist_83 : decode cX5_mist 83 = .ok (.aload_n 0, 1) := dbc_174.2.2.2.1
theorem dX5_mist_84 : decode cX5_mist 84 = .ok (.getfield 12, 3) := dbc_174.2.2.2.2
theorem dbc_175 : (((((decode cX5_mist 87 = .ok (.iload_n 1, 1)) ∧ (decode cX5_mist 88 = .ok (.iload_n 2, 1))) ∧ ((decode cX5_mist 89 = .ok (.invokevirtual 140, 3)) ∧ (decode cX5_mist 92 = .ok (.ifCond .eq 5, 3)))) ∧ (((decode cX5_mist 95 = .ok (.lconst 1, 1)) ∧ (decode cX5_mist 96 = .ok (.lreturn, 1))) ∧ ((decode cX5_mist 97 = .ok (.aload_n 0, 1)) ∧ (decode cX5_mist 98 = .ok (.getfield 12, 3))))) ∧ ((((decode cX5_mist 101 = .ok (.iload_n 1, 1)) ∧ (decode cX5_mist 102 = .ok (.iload_n 2, 1))) ∧ ((decode cX5_mist 103 = .ok (.iload_n 3, 1)) ∧ (decode cX5_mist 104 = .ok (.invokevirtual 269, 3)))) ∧ (((decode cX5_mist 107 = .ok (.istore 6, 2)) ∧ (decode cX5_mist 109 = .ok (.lconst 1, 1))) ∧ ((decode cX5_mist 110 = .ok (.lstore 7, 2)) ∧ (decode cX5_mist 112 = .ok (.iconst 0, 1)))))) := by decide +kernel
theorem dX5_mist_87 : decode cX5_mist 87 = .ok (.iload_n 1, 1) := dbc_175.1.1.1.1
theorem dX5_mist_88 : decode cX5_mist 88 = .ok (.iload_n 2, 1) := dbc_175.1.1.1.2
theorem dX5_mist_89 : decode cX5_mist 89 = .ok (.invokevirtual 140, 3) := dbc_175.1.1.2.1
theorem dX5_mist_92 : decode cX5_mist 92 = .ok (.ifCond .eq 5, 3) := dbc_175.1.1.2.2
theorem dX5_mist_95 : decode cX5_mist 95 = .ok (.lconst 1, 1) := dbc_175.1.2.1.1
theorem dX5_mist_96 : decode cX5_mist 96 = .ok (.lreturn, 1) := dbc_175.1.2.1.2
theorem dX5_mist_97 : decode cX5_mist 97 = .ok (.aload_n 0, 1) := dbc_175.1.2.2.1
theorem dX5_mist_98 : decode cX5_mist 98 = .ok (.getfield 12, 3) := dbc_175.1.2.2.2
theorem dX5_mist_101 : decode cX5_mist 101 = .ok (.iload_n 1, 1) := dbc_175.2.1.1.1
theorem dX5_mist_102 : decode cX5_mist 102 = .ok (.iload_n 2, 1) := dbc_175.2.1.1.2
theorem dX5_mist_103 : decode cX5_mist 103 = .ok (.iload_n 3, 1) := dbc_175.2.1.2.1
theorem dX5_mist_104 : decode cX5_mist 104 = .ok (.invokevirtual 269, 3) := dbc_175.2.1.2.2
theorem dX5_mist_107 : decode cX5_mist 107 = .ok (.istore 6, 2) := dbc_175.2.2.1.1
theorem dX5_mist_109 : decode cX5_mist 109 = .ok (.lconst 1, 1) := dbc_175.2.2.1.2
theorem dX5_mist_110 : decode cX5_mist 110 = .ok (.lstore 7, 2) := dbc_175.2.2.2.1
theorem dX5_mist_112 : decode cX5_mist 112 = .ok (.iconst 0, 1) := dbc_175.2.2.2.2
theorem dbc_176 : (((((decode cX5_mist 113 = .ok (.istore 9, 2)) ∧ (decode cX5_mist 115 = .ok (.iload 9, 2))) ∧ ((decode cX5_mist 117 = .ok (.iload 6, 2)) ∧ (decode cX5_mist 119 = .ok (.if_icmp .ge 17, 3)))) ∧ (((decode cX5_mist 122 = .ok (.lload 7, 2)) ∧ (decode cX5_mist 124 = .ok (.iload 4, 2))) ∧ ((decode cX5_mist 126 = .ok (.i2l, 1)) ∧ (decode cX5_mist 127 = .ok (.lmul, 1))))) ∧ ((((decode cX5_mist 128 = .ok (.lstore 7, 2)) ∧ (decode cX5_mist 130 = .ok (.iinc 9 1, 3))) ∧ ((decode cX5_mist 133 = .ok (.goto (-18), 3)) ∧ (decode cX5_mist 136 = .ok (.iload 5, 2)))) ∧ (((decode cX5_mist 138 = .ok (.ifCond .ne 10, 3)) ∧ (decode cX5_mist 141 = .ok (.lload 7, 2))) ∧ ((decode cX5_mist 143 = .ok (.lconst 1, 1)) ∧ (decode cX5_mist 144 = .ok (.lsub, 1)))))) := by decide +kernel
theorem dX5_mist_113 : decode cX5_mist 113 = .ok (.istore 9, 2) := dbc_176.1.1.1.1
theorem dX5_mist_115 : decode cX5_mist 115 = .ok (.iload 9, 2) := dbc_176.1.1.1.2
theorem dX5_mist_117 : decode cX5_mist 117 = .ok (.iload 6, 2) := dbc_176.1.1.2.1
theorem dX5_mist_119 : decode cX5_mist 119 = .ok (.if_icmp .ge 17, 3) := dbc_176.1.1.2.2
theorem dX5_mist_122 : decode cX5_mist 122 = .ok (.lload 7, 2) := dbc_176.1.2.1.1
theorem dX5_mist_124 : decode cX5_mist 124 = .ok (.iload 4, 2) := dbc_176.1.2.1.2
theorem dX5_mist_126 : decode cX5_mist 126 = .ok (.i2l, 1) := dbc_176.1.2.2.1
theorem dX5_mist_127 : decode cX5_mist 127 = .ok (.lmul, 1) := dbc_176.1.2.2.2
theorem dX5_mist_128 : decode cX5_mist 128 = .ok (.lstore 7, 2) := dbc_176.2.1.1.1
theorem dX5_mist_130 : decode cX5_mist 130 = .ok (.iinc 9 1, 3) := dbc_176.2.1.1.2
theorem dX5_mist_133 : decode cX5_mist 133 = .ok (.goto (-18), 3) := dbc_176.2.1.2.1
theorem dX5_mist_136 : decode cX5_mist 136 = .ok (.iload 5, 2) := dbc_176.2.1.2.2
theorem dX5_mist_138 : decode cX5_mist 138 = .ok (.ifCond .ne 10, 3) := dbc_176.2.2.1.1
theorem dX5_mist_141 : decode cX5_mist 141 = .ok (.lload 7, 2) := dbc_176.2.2.1.2
theorem dX5_mist_143 : decode cX5_mist 143 = .ok (.lconst 1, 1) := dbc_176.2.2.2.1
theorem dX5_mist_144 : decode cX5_mist 144 = .ok (.lsub, 1) := dbc_176.2.2.2.2
theorem dbc_177 : (((((decode cX5_mist 145 = .ok (.goto 5, 3)) ∧ (decode cX5_mist 148 = .ok (.lload 7, 2))) ∧ ((decode cX5_mist 150 = .ok (.lreturn, 1)) ∧ (decode cX5_oldest 0 = .ok (.iload_n 1, 1)))) ∧ (((decode cX5_oldest 1 = .ok (.tableswitch 72 0 3 #[31, 40, 45, 50], 31)) ∧ (decode cX5_oldest 32 = .ok (.iconst 0, 1))) ∧ ((decode cX5_oldest 33 = .ok (.aload_n 0, 1)) ∧ (decode cX5_oldest 34 = .ok (.invokevirtual 272, 3))))) ∧ ((((decode cX5_oldest 37 = .ok (.invokestatic 275, 3)) ∧ (decode cX5_oldest 40 = .ok (.ireturn, 1))) ∧ ((decode cX5_oldest 41 = .ok (.aload_n 0, 1)) ∧ (decode cX5_oldest 42 = .ok (.invokevirtual 280, 3)))) ∧ (((decode cX5_oldest 45 = .ok (.ireturn, 1)) ∧ (decode cX5_oldest 46 = .ok (.aload_n 0, 1))) ∧ ((decode cX5_oldest 47 = .ok (.invokevirtual 283, 3)) ∧ (decode cX5_oldest 50 = .ok (.ireturn, 1)))))) := by decide +kernel
theorem dX5_mist_145 : decode cX5_mist 145 = .ok (.goto 5, 3) := dbc_177.1.1.1.1
theorem dX5_mist_148 : decode cX5_mist 148 = .ok (.lload 7, 2) := dbc_177.1.1.1.2
theorem dX5_mist_150 : decode cX5_mist 150 = .ok (.lreturn, 1) := dbc_177.1.1.2.1
theorem dX5_oldest_0 : decode cX5_oldest 0 = .ok (.iload_n 1, 1) := dbc_177.1.1.2.2
theorem dX5_oldest_1 : decode cX5_oldest 1 = .ok (.tableswitch 72 0 3 #[31, 40, 45, 50], 31) := dbc_177.1.2.1.1
theorem dX5_oldest_32 : decode cX5_oldest 32 = .ok (.iconst 0, 1) := dbc_177.1.2.1.2
theorem dX5_oldest_33 : decode cX5_oldest 33 = .ok (.aload_n 0, 1) := dbc_177.1.2.2.1
theorem dX5_oldest_34 : decode cX5_oldest 34 = .ok (.invokevirtual 272, 3) := dbc_177.1.2.2.2
theorem dX5_oldest_37 : decode cX5_oldest 37 = .ok (.invokestatic 275, 3) := dbc_177.2.1.1.1
theorem dX5_oldest_40 : decode cX5_oldest 40 = .ok (.ireturn, 1) := dbc_177.2.1.1.2
theorem dX5_oldest_41 : decode cX5_oldest 41 = .ok (.aload_n 0, 1) := dbc_177.2.1.2.1
theorem dX5_oldest_42 : decode cX5_oldest 42 = .ok (.invokevirtual 280, 3) := dbc_177.2.1.2.2
theorem dX5_oldest_45 : decode cX5_oldest 45 = .ok (.ireturn, 1) := dbc_177.2.2.1.1
theorem dX5_oldest_46 : decode cX5_oldest 46 = .ok (.aload_n 0, 1) := dbc_177.2.2.1.2
theorem dX5_oldest_47 : decode cX5_oldest 47 = .ok (.invokevirtual 283, 3) := dbc_177.2.2.2.1
theorem dX5_oldest_50 : decode cX5_oldest 50 = .ok (.ireturn, 1) := dbc_177.2.2.2.2
theorem dbc_178 : (((((decode cX5_oldest 51 = .ok (.iconst 1, 1)) ∧ (decode cX5_oldest 52 = .ok (.aload_n 0, 1))) ∧ ((decode cX5_oldest 53 = .ok (.getfield 12, 3)) ∧ (decode cX5_oldest 56 = .ok (.getfield 148, 3)))) ∧ (((decode cX5_oldest 59 = .ok (.ishl, 1)) ∧ (decode cX5_oldest 60 = .ok (.iconst 1, 1))) ∧ ((decode cX5_oldest 61 = .ok (.isub, 1)) ∧ (decode cX5_oldest 62 = .ok (.aload_n 0, 1))))) ∧ ((((decode cX5_oldest 63 = .ok (.getfield 12, 3)) ∧ (decode cX5_oldest 66 = .ok (.getfield 286, 3))) ∧ ((decode cX5_oldest 69 = .ok (.iconst (-1), 1)) ∧ (decode cX5_oldest 70 = .ok (.ixor, 1)))) ∧ (((decode cX5_oldest 71 = .ok (.iand, 1)) ∧ (decode cX5_oldest 72 = .ok (.ireturn, 1))) ∧ ((decode cX5_oldest 73 = .ok (.aload_n 0, 1)) ∧ (decode cX5_oldest 74 = .ok (.bipush (-2), 2)))))) := by decide +kernel
theorem dX5_oldest_51 : decode cX5_oldest 51 = .ok (.iconst 1, 1) := dbc_178.1.1.1.1
theorem dX5_oldest_52 : decode cX5_oldest 52 = .ok (.aload_n 0, 1) := dbc_178.1.1.1.2
theorem dX5_oldest_53 : decode cX5_oldest 53 = .ok (.getfield 12, 3) := dbc_178.1.1.2.1
theorem dX5_oldest_56 : decode cX5_oldest 56 = .ok (.getfield 148, 3) := dbc_178.1.1.2.2
theorem dX5_oldest_59 : decode cX5_oldest 59 = .ok (.ishl, 1) := dbc_178.1.2.1.1
theorem dX5_oldest_60 : decode cX5_oldest 60 = .ok (.iconst 1, 1) := dbc_178.1.2.1.2
theorem dX5_oldest_61 : decode cX5_oldest 61 = .ok (.isub, 1) := dbc_178.1.2.2.1
theorem dX5_oldest_62 : decode cX5_oldest 62 = .ok (.aload_n 0, 1) := dbc_178.1.2.2.2
theorem dX5_oldest_63 : decode cX5_oldest 63 = .ok (.getfield 12, 3) := dbc_178.2.1.1.1
theorem dX5_oldest_66 : decode cX5_oldest 66 = .ok (.getfield 286, 3) := dbc_178.2.1.1.2
theorem dX5_oldest_69 : decode cX5_oldest 69 = .ok (.iconst (-1), 1) := dbc_178.2.1.2.1
theorem dX5_oldest_70 : decode cX5_oldest 70 = .ok (.ixor, 1) := dbc_178.2.1.2.2
theorem dX5_oldest_71 : decode cX5_oldest 71 = .ok (.iand, 1) := dbc_178.2.2.1.1
theorem dX5_oldest_72 : decode cX5_oldest 72 = .ok (.ireturn, 1) := dbc_178.2.2.1.2
theorem dX5_oldest_73 : decode cX5_oldest 73 = .ok (.aload_n 0, 1) := dbc_178.2.2.2.1
theorem dX5_oldest_74 : decode cX5_oldest 74 = .ok (.bipush (-2), 2) := dbc_178.2.2.2.2
theorem dbc_179 : (((((decode cX5_oldest 76 = .ok (.invokevirtual 65, 3)) ∧ (decode cX5_oldest 79 = .ok (.ireturn, 1))) ∧ ((decode cX5_mean 0 = .ok (.iload_n 1, 1)) ∧ (decode cX5_mean 1 = .ok (.ifCond .eq 15, 3)))) ∧ (((decode cX5_mean 4 = .ok (.iload_n 1, 1)) ∧ (decode cX5_mean 5 = .ok (.iconst 1, 1))) ∧ ((decode cX5_mean 6 = .ok (.if_icmp .eq 10, 3)) ∧ (decode cX5_mean 9 = .ok (.aload_n 0, 1))))) ∧ ((((decode cX5_mean 10 = .ok (.bipush (-2), 2)) ∧ (decode cX5_mean 12 = .ok (.invokevirtual 265, 3))) ∧ ((decode cX5_mean 15 = .ok (.lreturn, 1)) ∧ (decode cX5_mean 16 = .ok (.aload_n 0, 1)))) ∧ (((decode cX5_mean 17 = .ok (.getfield 12, 3)) ∧ (decode cX5_mean 20 = .ok (.iconst 0, 1))) ∧ ((decode cX5_mean 21 = .ok (.invokevirtual 198, 3)) ∧ (decode cX5_mean 24 = .ok (.istore_n 2, 1)))))) := by decide +kernel
theorem dX5_oldest_76 : decode cX5_oldest 76 = .ok (.invokevirtual 65, 3) := dbc_179.1.1.1.1
theorem dX5_oldest_79 : decode cX5_oldest 79 = .ok (.ireturn, 1) := dbc_179.1.1.1.2
theorem dX5_mean_0 : decode cX5_mean 0 = .ok (.iload_n 1, 1) := dbc_179.1.1.2.1
theorem dX5_mean_1 : decode cX5_mean 1 = .ok (.ifCond .eq 15, 3) := dbc_179.1.1.2.2
theorem dX5_mean_4 : decode cX5_mean 4 = .ok (.iload_n 1, 1) := dbc_179.1.2.1.1
theorem dX5_mean_5 : decode cX5_mean 5 = .ok (.iconst 1, 1) := dbc_179.1.2.1.2
theorem dX5_mean_6 : decode cX5_mean 6 = .ok (.if_icmp .eq 10, 3) := dbc_179.1.2.2.1
theorem dX5_mean_9 : decode cX5_mean 9 = .ok (.aload_n 0, 1) := dbc_179.1.2.2.2
theorem dX5_mean_10 : decode cX5_mean 10 = .ok (.bipush (-2), 2) := dbc_179.2.1.1.1
theorem dX5_mean_12 : decode cX5_mean 12 = .ok (.invokevirtual 265, 3) := dbc_179.2.1.1.2
theorem dX5_mean_15 : decode cX5_mean 15 = .ok (.lreturn, 1) := dbc_179.2.1.2.1
theorem dX5_mean_16 : decode cX5_mean 16 = .ok (.aload_n 0, 1) := dbc_179.2.1.2.2
theorem dX5_mean_17 : decode cX5_mean 17 = .ok (.getfield 12, 3) := dbc_179.2.2.1.1
theorem dX5_mean_20 : decode cX5_mean 20 = .ok (.iconst 0, 1) := dbc_179.2.2.1.2
theorem dX5_mean_21 : decode cX5_mean 21 = .ok (.invokevirtual 198, 3) := dbc_179.2.2.2.1
theorem dX5_mean_24 : decode cX5_mean 24 = .ok (.istore_n 2, 1) := dbc_179.2.2.2.2
theorem dbc_180 : (((((decode cX5_mean 25 = .ok (.iconst 1, 1)) ∧ (decode cX5_mean 26 = .ok (.istore_n 3, 1))) ∧ ((decode cX5_mean 27 = .ok (.iconst 2, 1)) ∧ (decode cX5_mean 28 = .ok (.istore 4, 2)))) ∧ (((decode cX5_mean 30 = .ok (.iload 4, 2)) ∧ (decode cX5_mean 32 = .ok (.aload_n 0, 1))) ∧ ((decode cX5_mean 33 = .ok (.getfield 12, 3)) ∧ (decode cX5_mean 36 = .ok (.getfield 158, 3))))) ∧ ((((decode cX5_mean 39 = .ok (.if_icmp .gt 32, 3)) ∧ (decode cX5_mean 42 = .ok (.iload_n 2, 1))) ∧ ((decode cX5_mean 43 = .ok (.iload 4, 2)) ∧ (decode cX5_mean 45 = .ok (.irem, 1)))) ∧ (((decode cX5_mean 46 = .ok (.ifCond .ne 19, 3)) ∧ (decode cX5_mean 49 = .ok (.aload_n 0, 1))) ∧ ((decode cX5_mean 50 = .ok (.getfield 12, 3)) ∧ (decode cX5_mean 53 = .ok (.getfield 158, 3)))))) := by decide +kernel
theorem dX5_mean_25 : decode cX5_mean 25 = .ok (.iconst 1, 1) := dbc_180.1.1.1.1
theorem dX5_mean_26 : decode cX5_mean 26 = .ok (.istore_n 3, 1) := dbc_180.1.1.1.2
theorem dX5_mean_27 : decode cX5_mean 27 = .ok (.iconst 2, 1) := dbc_180.1.1.2.1
theorem dX5_mean_28 : decode cX5_mean 28 = .ok (.istore 4, 2) := dbc_180.1.1.2.2
theorem dX5_mean_30 : decode cX5_mean 30 = .ok (.iload 4, 2) := dbc_180.1.2.1.1
theorem dX5_mean_32 : decode cX5_mean 32 = .ok (.aload_n 0, 1) := dbc_180.1.2.1.2
theorem dX5_mean_33 : decode cX5_mean 33 = .ok (.getfield 12, 3) := dbc_180.1.2.2.1
theorem dX5_mean_36 : decode cX5_mean 36 = .ok (.getfield 158, 3) := dbc_180.1.2.2.2
theorem dX5_mean_39 : decode cX5_mean 39 = .ok (.if_icmp .gt 32, 3) := dbc_180.2.1.1.1
theorem dX5_mean_42 : decode cX5_mean 42 = .ok (.iload_n 2, 1) := dbc_180.2.1.1.2
theorem dX5_mean_43 : decode cX5_mean 43 = .ok (.iload 4, 2) := dbc_180.2.1.2.1
theorem dX5_mean_45 : decode cX5_mean 45 = .ok (.irem, 1) := dbc_180.2.1.2.2
theorem dX5_mean_46 : decode cX5_mean 46 = .ok (.ifCond .ne 19, 3) := dbc_180.2.2.1.1
theorem dX5_mean_49 : decode cX5_mean 49 = .ok (.aload_n 0, 1) := dbc_180.2.2.1.2
theorem dX5_mean_50 : decode cX5_mean 50 = .ok (.getfield 12, 3) := dbc_180.2.2.2.1
theorem dX5_mean_53 : decode cX5_mean 53 = .ok (.getfield 158, 3) := dbc_180.2.2.2.2
theorem dbc_181 : (((((decode cX5_mean 56 = .ok (.iload 4, 2)) ∧ (decode cX5_mean 58 = .ok (.irem, 1))) ∧ ((decode cX5_mean 59 = .ok (.ifCond .ne 6, 3)) ∧ (decode cX5_mean 62 = .ok (.iload 4, 2)))) ∧ (((decode cX5_mean 64 = .ok (.istore_n 3, 1)) ∧ (decode cX5_mean 65 = .ok (.iinc 4 1, 3))) ∧ ((decode cX5_mean 68 = .ok (.goto (-38), 3)) ∧ (decode cX5_mean 71 = .ok (.iload_n 1, 1))))) ∧ ((((decode cX5_mean 72 = .ok (.ifCond .ne 10, 3)) ∧ (decode cX5_mean 75 = .ok (.iload_n 2, 1))) ∧ ((decode cX5_mean 76 = .ok (.iload_n 3, 1)) ∧ (decode cX5_mean 77 = .ok (.idiv, 1)))) ∧ (((decode cX5_mean 78 = .ok (.i2l, 1)) ∧ (decode cX5_mean 79 = .ok (.goto 17, 3))) ∧ ((decode cX5_mean 82 = .ok (.iconst 1, 1)) ∧ (decode cX5_mean 83 = .ok (.aload_n 0, 1)))))) := by decide +kernel
theorem dX5_mean_56 : decode cX5_mean 56 = .ok (.iload 4, 2) := dbc_181.1.1.1.1
theorem dX5_mean_58 : decode cX5_mean 58 = .ok (.irem, 1) := dbc_181.1.1.1.2
theorem dX5_mean_59 : decode cX5_mean 59 = .ok (.ifCond .ne 6, 3) := dbc_181.1.1.2.1
theorem dX5_mean_62 : decode cX5_mean 62 = .ok (.iload 4, 2) := dbc_181.1.1.2.2
theorem dX5_mean_64 : decode cX5_mean 64 = .ok (.istore_n 3, 1) := dbc_181.1.2.1.1
theorem dX5_mean_65 : decode cX5_mean 65 = .ok (.iinc 4 1, 3) := dbc_181.1.2.1.2
theorem dX5_mean_68 : decode cX5_mean 68 = .ok (.goto (-38), 3) := dbc_181.1.2.2.1
theorem dX5_mean_71 : decode cX5_mean 71 = .ok (.iload_n 1, 1) := dbc_181.1.2.2.2
theorem dX5_mean_72 : decode cX5_mean 72 = .ok (.ifCond .ne 10, 3) := dbc_181.2.1.1.1
theorem dX5_mean_75 : decode cX5_mean 75 = .ok (.iload_n 2, 1) := dbc_181.2.1.1.2
theorem dX5_mean_76 : decode cX5_mean 76 = .ok (.iload_n 3, 1) := dbc_181.2.1.2.1
theorem dX5_mean_77 : decode cX5_mean 77 = .ok (.idiv, 1) := dbc_181.2.1.2.2
theorem dX5_mean_78 : decode cX5_mean 78 = .ok (.i2l, 1) := dbc_181.2.2.1.1
theorem dX5_mean_79 : decode cX5_mean 79 = .ok (.goto 17, 3) := dbc_181.2.2.1.2
theorem dX5_mean_82 : decode cX5_mean 82 = .ok (.iconst 1, 1) := dbc_181.2.2.2.1
theorem dX5_mean_83 : decode cX5_mean 83 = .ok (.aload_n 0, 1) := dbc_181.2.2.2.2
theorem dbc_182 : (((((decode cX5_mean 84 = .ok (.getfield 12, 3)) ∧ (decode cX5_mean 87 = .ok (.getfield 158, 3))) ∧ ((decode cX5_mean 90 = .ok (.invokestatic 275, 3)) ∧ (decode cX5_mean 93 = .ok (.iload_n 3, 1)))) ∧ (((decode cX5_mean 94 = .ok (.idiv, 1)) ∧ (decode cX5_mean 95 = .ok (.i2l, 1))) ∧ ((decode cX5_mean 96 = .ok (.lreturn, 1)) ∧ (decode cX5_forgiven 0 = .ok (.iconst 0, 1))))) ∧ ((((decode cX5_forgiven 1 = .ok (.istore_n 1, 1)) ∧ (decode cX5_forgiven 2 = .ok (.iconst 0, 1))) ∧ ((decode cX5_forgiven 3 = .ok (.istore_n 2, 1)) ∧ (decode cX5_forgiven 4 = .ok (.iload_n 2, 1)))) ∧ (((decode cX5_forgiven 5 = .ok (.aload_n 0, 1)) ∧ (decode cX5_forgiven 6 = .ok (.getfield 12, 3))) ∧ ((decode cX5_forgiven 9 = .ok (.getfield 158, 3)) ∧ (decode cX5_forgiven 12 = .ok (.if_icmp .ge 66, 3)))))) := by decide +kernel
theorem dX5_mean_84 : decode cX5_mean 84 = .ok (.getfield 12, 3) := dbc_182.1.1.1.1
theorem dX5_mean_87 : decode cX5_mean 87 = .ok (.getfield 158, 3) := dbc_182.1.1.1.2
theorem dX5_mean_90 : decode cX5_mean 90 = .ok (.invokestatic 275, 3) := dbc_182.1.1.2.1
theorem dX5_mean_93 : decode cX5_mean 93 = .ok (.iload_n 3, 1) := dbc_182.1.1.2.2
theorem dX5_mean_94 : decode cX5_mean 94 = .ok (.idiv, 1) := dbc_182.1.2.1.1
theorem dX5_mean_95 : decode cX5_mean 95 = .ok (.i2l, 1) := dbc_182.1.2.1.2
theorem dX5_mean_96 : decode cX5_mean 96 = .ok (.lreturn, 1) := dbc_182.1.2.2.1
theorem dX5_forgiven_0 : decode cX5_forgiven 0 = .ok (.iconst 0, 1) := dbc_182.1.2.2.2
theorem dX5_forgiven_1 : decode cX5_forgiven 1 = .ok (.istore_n 1, 1) := dbc_182.2.1.1.1
theorem dX5_forgiven_2 : decode cX5_forgiven 2 = .ok (.iconst 0, 1) := dbc_182.2.1.1.2
theorem dX5_forgiven_3 : decode cX5_forgiven 3 = .ok (.istore_n 2, 1) := dbc_182.2.1.2.1
theorem dX5_forgiven_4 : decode cX5_forgiven 4 = .ok (.iload_n 2, 1) := dbc_182.2.1.2.2
theorem dX5_forgiven_5 : decode cX5_forgiven 5 = .ok (.aload_n 0, 1) := dbc_182.2.2.1.1
theorem dX5_forgiven_6 : decode cX5_forgiven 6 = .ok (.getfield 12, 3) := dbc_182.2.2.1.2
theorem dX5_forgiven_9 : decode cX5_forgiven 9 = .ok (.getfield 158, 3) := dbc_182.2.2.2.1
theorem dX5_forgiven_12 : decode cX5_forgiven 12 = .ok (.if_icmp .ge 66, 3) := dbc_182.2.2.2.2
theorem dbc_183 : (((((decode cX5_forgiven 15 = .ok (.iconst 0, 1)) ∧ (decode cX5_forgiven 16 = .ok (.istore_n 3, 1))) ∧ ((decode cX5_forgiven 17 = .ok (.iload_n 3, 1)) ∧ (decode cX5_forgiven 18 = .ok (.aload_n 0, 1)))) ∧ (((decode cX5_forgiven 19 = .ok (.getfield 12, 3)) ∧ (decode cX5_forgiven 22 = .ok (.getfield 148, 3))) ∧ ((decode cX5_forgiven 25 = .ok (.if_icmp .ge 47, 3)) ∧ (decode cX5_forgiven 28 = .ok (.aload_n 0, 1))))) ∧ ((((decode cX5_forgiven 29 = .ok (.getfield 12, 3)) ∧ (decode cX5_forgiven 32 = .ok (.iload_n 2, 1))) ∧ ((decode cX5_forgiven 33 = .ok (.iload_n 3, 1)) ∧ (decode cX5_forgiven 34 = .ok (.invokevirtual 140, 3)))) ∧ (((decode cX5_forgiven 37 = .ok (.ifCond .ne 6, 3)) ∧ (decode cX5_forgiven 40 = .ok (.goto 26, 3))) ∧ ((decode cX5_forgiven 43 = .ok (.iload_n 1, 1)) ∧ (decode cX5_forgiven 44 = .ok (.aload_n 0, 1)))))) := by decide +kernel
theorem dX5_forgiven_15 : decode cX5_forgiven 15 = .ok (.iconst 0, 1) := dbc_183.1.1.1.1
theorem dX5_forgiven_16 : decode cX5_forgiven 16 = .ok (.istore_n 3, 1) := dbc_183.1.1.1.2
theorem dX5_forgiven_17 : decode cX5_forgiven 17 = .ok (.iload_n 3, 1) := dbc_183.1.1.2.1
theorem dX5_forgiven_18 : decode cX5_forgiven 18 = .ok (.aload_n 0, 1) := dbc_183.1.1.2.2
theorem dX5_forgiven_19 : decode cX5_forgiven 19 = .ok (.getfield 12, 3) := dbc_183.1.2.1.1
theorem dX5_forgiven_22 : decode cX5_forgiven 22 = .ok (.getfield 148, 3) := dbc_183.1.2.1.2
theorem dX5_forgiven_25 : decode cX5_forgiven 25 = .ok (.if_icmp .ge 47, 3) := dbc_183.1.2.2.1
theorem dX5_forgiven_28 : decode cX5_forgiven 28 = .ok (.aload_n 0, 1) := dbc_183.1.2.2.2
theorem dX5_forgiven_29 : decode cX5_forgiven 29 = .ok (.getfield 12, 3) := dbc_183.2.1.1.1
theorem dX5_forgiven_32 : decode cX5_forgiven 32 = .ok (.iload_n 2, 1) := dbc_183.2.1.1.2
theorem dX5_forgiven_33 : decode cX5_forgiven 33 = .ok (.iload_n 3, 1) := dbc_183.2.1.2.1
theorem dX5_forgiven_34 : decode cX5_forgiven 34 = .ok (.invokevirtual 140, 3) := dbc_183.2.1.2.2
theorem dX5_forgiven_37 : decode cX5_forgiven 37 = .ok (.ifCond .ne 6, 3) := dbc_183.2.2.1.1
theorem dX5_forgiven_40 : decode cX5_forgiven 40 = .ok (.goto 26, 3) := dbc_183.2.2.1.2
theorem dX5_forgiven_43 : decode cX5_forgiven 43 = .ok (.iload_n 1, 1) := dbc_183.2.2.2.1
theorem dX5_forgiven_44 : decode cX5_forgiven 44 = .ok (.aload_n 0, 1) := dbc_183.2.2.2.2
theorem dbc_184 : (((((decode cX5_forgiven 45 = .ok (.getfield 12, 3)) ∧ (decode cX5_forgiven 48 = .ok (.iload_n 2, 1))) ∧ ((decode cX5_forgiven 49 = .ok (.iload_n 3, 1)) ∧ (decode cX5_forgiven 50 = .ok (.iconst 0, 1)))) ∧ (((decode cX5_forgiven 51 = .ok (.invokevirtual 173, 3)) ∧ (decode cX5_forgiven 54 = .ok (.aload_n 0, 1))) ∧ ((decode cX5_forgiven 55 = .ok (.getfield 12, 3)) ∧ (decode cX5_forgiven 58 = .ok (.iload_n 3, 1))))) ∧ ((((decode cX5_forgiven 59 = .ok (.iconst 0, 1)) ∧ (decode cX5_forgiven 60 = .ok (.invokevirtual 110, 3))) ∧ ((decode cX5_forgiven 63 = .ok (.isub, 1)) ∧ (decode cX5_forgiven 64 = .ok (.iadd, 1)))) ∧ (((decode cX5_forgiven 65 = .ok (.istore_n 1, 1)) ∧ (decode cX5_forgiven 66 = .ok (.iinc 3 1, 3))) ∧ ((decode cX5_forgiven 69 = .ok (.goto (-52), 3)) ∧ (decode cX5_forgiven 72 = .ok (.iinc 2 1, 3)))))) := by decide +kernel
theorem dX5_forgiven_45 : decode cX5_forgiven 45 = .ok (.getfield 12, 3) := dbc_184.1.1.1.1
theorem dX5_forgiven_48 : decode cX5_forgiven 48 = .ok (.iload_n 2, 1) := dbc_184.1.1.1.2
theorem dX5_forgiven_49 : decode cX5_forgiven 49 = .ok (.iload_n 3, 1) := dbc_184.1.1.2.1
theorem dX5_forgiven_50 : decode cX5_forgiven 50 = .ok (.iconst 0, 1) := dbc_184.1.1.2.2
theorem dX5_forgiven_51 : decode cX5_forgiven 51 = .ok (.invokevirtual 173, 3) := dbc_184.1.2.1.1
theorem dX5_forgiven_54 : decode cX5_forgiven 54 = .ok (.aload_n 0, 1) := dbc_184.1.2.1.2
theorem dX5_forgiven_55 : decode cX5_forgiven 55 = .ok (.getfield 12, 3) := dbc_184.1.2.2.1
theorem dX5_forgiven_58 : decode cX5_forgiven 58 = .ok (.iload_n 3, 1) := dbc_184.1.2.2.2
theorem dX5_forgiven_59 : decode cX5_forgiven 59 = .ok (.iconst 0, 1) := dbc_184.2.1.1.1
theorem dX5_forgiven_60 : decode cX5_forgiven 60 = .ok (.invokevirtual 110, 3) := dbc_184.2.1.1.2
theorem dX5_forgiven_63 : decode cX5_forgiven 63 = .ok (.isub, 1) := dbc_184.2.1.2.1
theorem dX5_forgiven_64 : decode cX5_forgiven 64 = .ok (.iadd, 1) := dbc_184.2.1.2.2
theorem dX5_forgiven_65 : decode cX5_forgiven 65 = .ok (.istore_n 1, 1) := dbc_184.2.2.1.1
theorem dX5_forgiven_66 : decode cX5_forgiven 66 = .ok (.iinc 3 1, 3) := dbc_184.2.2.1.2
theorem dX5_forgiven_69 : decode cX5_forgiven 69 = .ok (.goto (-52), 3) := dbc_184.2.2.2.1
theorem dX5_forgiven_72 : decode cX5_forgiven 72 = .ok (.iinc 2 1, 3) := dbc_184.2.2.2.2
theorem dbc_185 : (((((decode cX5_forgiven 75 = .ok (.goto (-71), 3)) ∧ (decode cX5_forgiven 78 = .ok (.iload_n 1, 1))) ∧ ((decode cX5_forgiven 79 = .ok (.ireturn, 1)) ∧ (decode cX5_nearest 0 = .ok (.aload_n 0, 1)))) ∧ (((decode cX5_nearest 1 = .ok (.getfield 12, 3)) ∧ (decode cX5_nearest 4 = .ok (.iload_n 1, 1))) ∧ ((decode cX5_nearest 5 = .ok (.invokevirtual 119, 3)) ∧ (decode cX5_nearest 8 = .ok (.ifCond .ne 9, 3))))) ∧ ((((decode cX5_nearest 11 = .ok (.aload_n 0, 1)) ∧ (decode cX5_nearest 12 = .ok (.iconst (-1), 1))) ∧ ((decode cX5_nearest 13 = .ok (.invokevirtual 65, 3)) ∧ (decode cX5_nearest 16 = .ok (.ireturn, 1)))) ∧ (((decode cX5_nearest 17 = .ok (.bipush (-9), 2)) ∧ (decode cX5_nearest 19 = .ok (.istore_n 2, 1))) ∧ ((decode cX5_nearest 20 = .ok (.bipush 49, 2)) ∧ (decode cX5_nearest 22 = .ok (.istore_n 3, 1)))))) := by decide +kernel
theorem dX5_forgiven_75 : decode cX5_forgiven 75 = .ok (.goto (-71), 3) := dbc_185.1.1.1.1
theorem dX5_forgiven_78 : decode cX5_forgiven 78 = .ok (.iload_n 1, 1) := dbc_185.1.1.1.2
theorem dX5_forgiven_79 : decode cX5_forgiven 79 = .ok (.ireturn, 1) := dbc_185.1.1.2.1
theorem dX5_nearest_0 : decode cX5_nearest 0 = .ok (.aload_n 0, 1) := dbc_185.1.1.2.2
theorem dX5_nearest_1 : decode cX5_nearest 1 = .ok (.getfield 12, 3) := dbc_185.1.2.1.1
theorem dX5_nearest_4 : decode cX5_nearest 4 = .ok (.iload_n 1, 1) := dbc_185.1.2.1.2
theorem dX5_nearest_5 : decode cX5_nearest 5 = .ok (.invokevirtual 119, 3) := dbc_185.1.2.2.1
theorem dX5_nearest_8 : decode cX5_nearest 8 = .ok (.ifCond .ne 9, 3) := dbc_185.1.2.2.2
theorem dX5_nearest_11 : decode cX5_nearest 11 = .ok (.aload_n 0, 1) := dbc_185.2.1.1.1
theorem dX5_nearest_12 : decode cX5_nearest 12 = .ok (.iconst (-1), 1) := dbc_185.2.1.1.2
theorem dX5_nearest_13 : decode cX5_nearest 13 = .ok (.invokevirtual 65, 3) := dbc_185.2.1.2.1
theorem dX5_nearest_16 : decode cX5_nearest 16 = .ok (.ireturn, 1) := dbc_185.2.1.2.2
theorem dX5_nearest_17 : decode cX5_nearest 17 = .ok (.bipush (-9), 2) := dbc_185.2.2.1.1
theorem dX5_nearest_19 : decode cX5_nearest 19 = .ok (.istore_n 2, 1) := dbc_185.2.2.1.2
theorem dX5_nearest_20 : decode cX5_nearest 20 = .ok (.bipush 49, 2) := dbc_185.2.2.2.1
theorem dX5_nearest_22 : decode cX5_nearest 22 = .ok (.istore_n 3, 1) := dbc_185.2.2.2.2
theorem dbc_186 : (((((decode cX5_nearest 23 = .ok (.iconst 0, 1)) ∧ (decode cX5_nearest 24 = .ok (.istore 4, 2))) ∧ ((decode cX5_nearest 26 = .ok (.iload 4, 2)) ∧ (decode cX5_nearest 28 = .ok (.aload_n 0, 1)))) ∧ (((decode cX5_nearest 29 = .ok (.getfield 12, 3)) ∧ (decode cX5_nearest 32 = .ok (.getfield 148, 3))) ∧ ((decode cX5_nearest 35 = .ok (.if_icmp .ge 58, 3)) ∧ (decode cX5_nearest 38 = .ok (.aload_n 0, 1))))) ∧ ((((decode cX5_nearest 39 = .ok (.getfield 12, 3)) ∧ (decode cX5_nearest 42 = .ok (.getfield 122, 3))) ∧ ((decode cX5_nearest 45 = .ok (.iload_n 1, 1)) ∧ (decode cX5_nearest 46 = .ok (.iaload, 1)))) ∧ (((decode cX5_nearest 47 = .ok (.aload_n 0, 1)) ∧ (decode cX5_nearest 48 = .ok (.getfield 12, 3))) ∧ ((decode cX5_nearest 51 = .ok (.getfield 100, 3)) ∧ (decode cX5_nearest 54 = .ok (.iload 4, 2)))))) := by decide +kernel
theorem dX5_nearest_23 : decode cX5_nearest 23 = .ok (.iconst 0, 1) := dbc_186.1.1.1.1
theorem dX5_nearest_24 : decode cX5_nearest 24 = .ok (.istore 4, 2) := dbc_186.1.1.1.2
theorem dX5_nearest_26 : decode cX5_nearest 26 = .ok (.iload 4, 2) := dbc_186.1.1.2.1
theorem dX5_nearest_28 : decode cX5_nearest 28 = .ok (.aload_n 0, 1) := dbc_186.1.1.2.2
theorem dX5_nearest_29 : decode cX5_nearest 29 = .ok (.getfield 12, 3) := dbc_186.1.2.1.1
theorem dX5_nearest_32 : decode cX5_nearest 32 = .ok (.getfield 148, 3) := dbc_186.1.2.1.2
theorem dX5_nearest_35 : decode cX5_nearest 35 = .ok (.if_icmp .ge 58, 3) := dbc_186.1.2.2.1
theorem dX5_nearest_38 : decode cX5_nearest 38 = .ok (.aload_n 0, 1) := dbc_186.1.2.2.2
theorem dX5_nearest_39 : decode cX5_nearest 39 = .ok (.getfield 12, 3) := dbc_186.2.1.1.1
theorem dX5_nearest_42 : decode cX5_nearest 42 = .ok (.getfield 122, 3) := dbc_186.2.1.1.2
theorem dX5_nearest_45 : decode cX5_nearest 45 = .ok (.iload_n 1, 1) := dbc_186.2.1.2.1
theorem dX5_nearest_46 : decode cX5_nearest 46 = .ok (.iaload, 1) := dbc_186.2.1.2.2
theorem dX5_nearest_47 : decode cX5_nearest 47 = .ok (.aload_n 0, 1) := dbc_186.2.2.1.1
theorem dX5_nearest_48 : decode cX5_nearest 48 = .ok (.getfield 12, 3) := dbc_186.2.2.1.2
theorem dX5_nearest_51 : decode cX5_nearest 51 = .ok (.getfield 100, 3) := dbc_186.2.2.2.1
theorem dX5_nearest_54 : decode cX5_nearest 54 = .ok (.iload 4, 2) := dbc_186.2.2.2.2
theorem dbc_187 : (((((decode cX5_nearest 56 = .ok (.iaload, 1)) ∧ (decode cX5_nearest 57 = .ok (.invokestatic 204, 3))) ∧ ((decode cX5_nearest 60 = .ok (.istore 5, 2)) ∧ (decode cX5_nearest 62 = .ok (.aload_n 0, 1)))) ∧ (((decode cX5_nearest 63 = .ok (.getfield 12, 3)) ∧ (decode cX5_nearest 66 = .ok (.iload_n 1, 1))) ∧ ((decode cX5_nearest 67 = .ok (.iload 4, 2)) ∧ (decode cX5_nearest 69 = .ok (.invokevirtual 140, 3))))) ∧ ((((decode cX5_nearest 72 = .ok (.ifCond .eq 15, 3)) ∧ (decode cX5_nearest 75 = .ok (.iload 5, 2))) ∧ ((decode cX5_nearest 77 = .ok (.iload_n 3, 1)) ∧ (decode cX5_nearest 78 = .ok (.if_icmp .ge 9, 3)))) ∧ (((decode cX5_nearest 81 = .ok (.iload 5, 2)) ∧ (decode cX5_nearest 83 = .ok (.istore_n 3, 1))) ∧ ((decode cX5_nearest 84 = .ok (.iload 4, 2)) ∧ (decode cX5_nearest 86 = .ok (.istore_n 2, 1)))))) := by decide +kernel
theorem dX5_nearest_56 : decode cX5_nearest 56 = .ok (.iaload, 1) := dbc_187.1.1.1.1
theorem dX5_nearest_57 : decode cX5_nearest 57 = .ok (.invokestatic 204, 3) := dbc_187.1.1.1.2
theorem dX5_nearest_60 : decode cX5_nearest 60 = .ok (.istore 5, 2) := dbc_187.1.1.2.1
theorem dX5_nearest_62 : decode cX5_nearest 62 = .ok (.aload_n 0, 1) := dbc_187.1.1.2.2
theorem dX5_nearest_63 : decode cX5_nearest 63 = .ok (.getfield 12, 3) := dbc_187.1.2.1.1
theorem dX5_nearest_66 : decode cX5_nearest 66 = .ok (.iload_n 1, 1) := dbc_187.1.2.1.2
theorem dX5_nearest_67 : decode cX5_nearest 67 = .ok (.iload 4, 2) := dbc_187.1.2.2.1
theorem dX5_nearest_69 : decode cX5_nearest 69 = .ok (.invokevirtual 140, 3) := dbc_187.1.2.2.2
theorem dX5_nearest_72 : decode cX5_nearest 72 = .ok (.ifCond .eq 15, 3) := dbc_187.2.1.1.1
theorem dX5_nearest_75 : decode cX5_nearest 75 = .ok (.iload 5, 2) := dbc_187.2.1.1.2
theorem dX5_nearest_77 : decode cX5_nearest 77 = .ok (.iload_n 3, 1) := dbc_187.2.1.2.1
theorem dX5_nearest_78 : decode cX5_nearest 78 = .ok (.if_icmp .ge 9, 3) := dbc_187.2.1.2.2
theorem dX5_nearest_81 : decode cX5_nearest 81 = .ok (.iload 5, 2) := dbc_187.2.2.1.1
theorem dX5_nearest_83 : decode cX5_nearest 83 = .ok (.istore_n 3, 1) := dbc_187.2.2.1.2
theorem dX5_nearest_84 : decode cX5_nearest 84 = .ok (.iload 4, 2) := dbc_187.2.2.2.1
theorem dX5_nearest_86 : decode cX5_nearest 86 = .ok (.istore_n 2, 1) := dbc_187.2.2.2.2
theorem dbc_188 : (((((decode cX5_nearest 87 = .ok (.iinc 4 1, 3)) ∧ (decode cX5_nearest 90 = .ok (.goto (-64), 3))) ∧ ((decode cX5_nearest 93 = .ok (.iload_n 2, 1)) ∧ (decode cX5_nearest 94 = .ok (.ireturn, 1)))) ∧ (((decode cX5_allSeen 0 = .ok (.aload_n 0, 1)) ∧ (decode cX5_allSeen 1 = .ok (.getfield 12, 3))) ∧ ((decode cX5_allSeen 4 = .ok (.iload_n 1, 1)) ∧ (decode cX5_allSeen 5 = .ok (.invokevirtual 90, 3))))) ∧ ((((decode cX5_allSeen 8 = .ok (.ifCond .ne 9, 3)) ∧ (decode cX5_allSeen 11 = .ok (.aload_n 0, 1))) ∧ ((decode cX5_allSeen 12 = .ok (.iconst (-1), 1)) ∧ (decode cX5_allSeen 13 = .ok (.invokevirtual 65, 3)))) ∧ (((decode cX5_allSeen 16 = .ok (.ireturn, 1)) ∧ (decode cX5_allSeen 17 = .ok (.aload_n 0, 1))) ∧ ((decode cX5_allSeen 18 = .ok (.getfield 12, 3)) ∧ (decode cX5_allSeen 21 = .ok (.getfield 94, 3)))))) := by decide +kernel
theorem dX5_nearest_87 : decode cX5_nearest 87 = .ok (.iinc 4 1, 3) := dbc_188.1.1.1.1
theorem dX5_nearest_90 : decode cX5_nearest 90 = .ok (.goto (-64), 3) := dbc_188.1.1.1.2
theorem dX5_nearest_93 : decode cX5_nearest 93 = .ok (.iload_n 2, 1) := dbc_188.1.1.2.1
theorem dX5_nearest_94 : decode cX5_nearest 94 = .ok (.ireturn, 1) := dbc_188.1.1.2.2
theorem dX5_allSeen_0 : decode cX5_allSeen 0 = .ok (.aload_n 0, 1) := dbc_188.1.2.1.1
theorem dX5_allSeen_1 : decode cX5_allSeen 1 = .ok (.getfield 12, 3) := dbc_188.1.2.1.2
theorem dX5_allSeen_4 : decode cX5_allSeen 4 = .ok (.iload_n 1, 1) := dbc_188.1.2.2.1
theorem dX5_allSeen_5 : decode cX5_allSeen 5 = .ok (.invokevirtual 90, 3) := dbc_188.1.2.2.2
theorem dX5_allSeen_8 : decode cX5_allSeen 8 = .ok (.ifCond .ne 9, 3) := dbc_188.2.1.1.1
theorem dX5_allSeen_11 : decode cX5_allSeen 11 = .ok (.aload_n 0, 1) := dbc_188.2.1.1.2
theorem dX5_allSeen_12 : decode cX5_allSeen 12 = .ok (.iconst (-1), 1) := dbc_188.2.1.2.1
theorem dX5_allSeen_13 : decode cX5_allSeen 13 = .ok (.invokevirtual 65, 3) := dbc_188.2.1.2.2
theorem dX5_allSeen_16 : decode cX5_allSeen 16 = .ok (.ireturn, 1) := dbc_188.2.2.1.1
theorem dX5_allSeen_17 : decode cX5_allSeen 17 = .ok (.aload_n 0, 1) := dbc_188.2.2.1.2
theorem dX5_allSeen_18 : decode cX5_allSeen 18 = .ok (.getfield 12, 3) := dbc_188.2.2.2.1
theorem dX5_allSeen_21 : decode cX5_allSeen 21 = .ok (.getfield 94, 3) := dbc_188.2.2.2.2
theorem dbc_189 : (((((decode cX5_allSeen 24 = .ok (.iload_n 1, 1)) ∧ (decode cX5_allSeen 25 = .ok (.iaload, 1))) ∧ ((decode cX5_allSeen 26 = .ok (.aload_n 0, 1)) ∧ (decode cX5_allSeen 27 = .ok (.getfield 12, 3)))) ∧ (((decode cX5_allSeen 30 = .ok (.getfield 97, 3)) ∧ (decode cX5_allSeen 33 = .ok (.iload_n 1, 1))) ∧ ((decode cX5_allSeen 34 = .ok (.iaload, 1)) ∧ (decode cX5_allSeen 35 = .ok (.invokestatic 106, 3))))) ∧ ((((decode cX5_allSeen 38 = .ok (.istore_n 2, 1)) ∧ (decode cX5_allSeen 39 = .ok (.iconst 0, 1))) ∧ ((decode cX5_allSeen 40 = .ok (.istore_n 3, 1)) ∧ (decode cX5_allSeen 41 = .ok (.iconst 0, 1)))) ∧ (((decode cX5_allSeen 42 = .ok (.istore 4, 2)) ∧ (decode cX5_allSeen 44 = .ok (.iload 4, 2))) ∧ ((decode cX5_allSeen 46 = .ok (.bipush 49, 2)) ∧ (decode cX5_allSeen 48 = .ok (.if_icmp .ge 30, 3)))))) := by decide +kernel
theorem dX5_allSeen_24 : decode cX5_allSeen 24 = .ok (.iload_n 1, 1) := dbc_189.1.1.1.1
theorem dX5_allSeen_25 : decode cX5_allSeen 25 = .ok (.iaload, 1) := dbc_189.1.1.1.2
theorem dX5_allSeen_26 : decode cX5_allSeen 26 = .ok (.aload_n 0, 1) := dbc_189.1.1.2.1
theorem dX5_allSeen_27 : decode cX5_allSeen 27 = .ok (.getfield 12, 3) := dbc_189.1.1.2.2
theorem dX5_allSeen_30 : decode cX5_allSeen 30 = .ok (.getfield 97, 3) := dbc_189.1.2.1.1
theorem dX5_allSeen_33 : decode cX5_allSeen 33 = .ok (.iload_n 1, 1) := dbc_189.1.2.1.2
theorem dX5_allSeen_34 : decode cX5_allSeen 34 = .ok (.iaload, 1) := dbc_189.1.2.2.1
theorem dX5_allSeen_35 : decode cX5_allSeen 35 = .ok (.invokestatic 106, 3) := dbc_189.1.2.2.2
theorem dX5_allSeen_38 : decode cX5_allSeen 38 = .ok (.istore_n 2, 1) := dbc_189.2.1.1.1
theorem dX5_allSeen_39 : decode cX5_allSeen 39 = .ok (.iconst 0, 1) := dbc_189.2.1.1.2
theorem dX5_allSeen_40 : decode cX5_allSeen 40 = .ok (.istore_n 3, 1) := dbc_189.2.1.2.1
theorem dX5_allSeen_41 : decode cX5_allSeen 41 = .ok (.iconst 0, 1) := dbc_189.2.1.2.2
theorem dX5_allSeen_42 : decode cX5_allSeen 42 = .ok (.istore 4, 2) := dbc_189.2.2.1.1
theorem dX5_allSeen_44 : decode cX5_allSeen 44 = .ok (.iload 4, 2) := dbc_189.2.2.1.2
theorem dX5_allSeen_46 : decode cX5_allSeen 46 = .ok (.bipush 49, 2) := dbc_189.2.2.2.1
theorem dX5_allSeen_48 : decode cX5_allSeen 48 = .ok (.if_icmp .ge 30, 3) := dbc_189.2.2.2.2
theorem dbc_190 : (((((decode cX5_allSeen 51 = .ok (.iload 4, 2)) ∧ (decode cX5_allSeen 53 = .ok (.aload_n 0, 1))) ∧ ((decode cX5_allSeen 54 = .ok (.getfield 12, 3)) ∧ (decode cX5_allSeen 57 = .ok (.getfield 100, 3)))) ∧ (((decode cX5_allSeen 60 = .ok (.iload_n 1, 1)) ∧ (decode cX5_allSeen 61 = .ok (.iaload, 1))) ∧ ((decode cX5_allSeen 62 = .ok (.invokestatic 204, 3)) ∧ (decode cX5_allSeen 65 = .ok (.iload_n 2, 1))))) ∧ ((((decode cX5_allSeen 66 = .ok (.if_icmp .gt 6, 3)) ∧ (decode cX5_allSeen 69 = .ok (.iinc 3 1, 3))) ∧ ((decode cX5_allSeen 72 = .ok (.iinc 4 1, 3)) ∧ (decode cX5_allSeen 75 = .ok (.goto (-31), 3)))) ∧ (((decode cX5_allSeen 78 = .ok (.iload_n 3, 1)) ∧ (decode cX5_allSeen 79 = .ok (.ireturn, 1))) ∧ ((decode cX5_gaps 0 = .ok (.aload_n 0, 1)) ∧ (decode cX5_gaps 1 = .ok (.invokevirtual 289, 3)))))) := by decide +kernel
theorem dX5_allSeen_51 : decode cX5_allSeen 51 = .ok (.iload 4, 2) := dbc_190.1.1.1.1
theorem dX5_allSeen_53 : decode cX5_allSeen 53 = .ok (.aload_n 0, 1) := dbc_190.1.1.1.2
theorem dX5_allSeen_54 : decode cX5_allSeen 54 = .ok (.getfield 12, 3) := dbc_190.1.1.2.1
theorem dX5_allSeen_57 : decode cX5_allSeen 57 = .ok (.getfield 100, 3) := dbc_190.1.1.2.2
theorem dX5_allSeen_60 : decode cX5_allSeen 60 = .ok (.iload_n 1, 1) := dbc_190.1.2.1.1
theorem dX5_allSeen_61 : decode cX5_allSeen 61 = .ok (.iaload, 1) := dbc_190.1.2.1.2
theorem dX5_allSeen_62 : decode cX5_allSeen 62 = .ok (.invokestatic 204, 3) := dbc_190.1.2.2.1
theorem dX5_allSeen_65 : decode cX5_allSeen 65 = .ok (.iload_n 2, 1) := dbc_190.1.2.2.2
theorem dX5_allSeen_66 : decode cX5_allSeen 66 = .ok (.if_icmp .gt 6, 3) := dbc_190.2.1.1.1
theorem dX5_allSeen_69 : decode cX5_allSeen 69 = .ok (.iinc 3 1, 3) := dbc_190.2.1.1.2
theorem dX5_allSeen_72 : decode cX5_allSeen 72 = .ok (.iinc 4 1, 3) := dbc_190.2.1.2.1
theorem dX5_allSeen_75 : decode cX5_allSeen 75 = .ok (.goto (-31), 3) := dbc_190.2.1.2.2
theorem dX5_allSeen_78 : decode cX5_allSeen 78 = .ok (.iload_n 3, 1) := dbc_190.2.2.1.1
theorem dX5_allSeen_79 : decode cX5_allSeen 79 = .ok (.ireturn, 1) := dbc_190.2.2.1.2
theorem dX5_gaps_0 : decode cX5_gaps 0 = .ok (.aload_n 0, 1) := dbc_190.2.2.2.1
theorem dX5_gaps_1 : decode cX5_gaps 1 = .ok (.invokevirtual 289, 3) := dbc_190.2.2.2.2
theorem dbc_191 : (((((decode cX5_gaps 4 = .ok (.lstore_n 1, 1)) ∧ (decode cX5_gaps 5 = .ok (.iconst 0, 1))) ∧ ((decode cX5_gaps 6 = .ok (.istore_n 3, 1)) ∧ (decode cX5_gaps 7 = .ok (.iload_n 3, 1)))) ∧ (((decode cX5_gaps 8 = .ok (.bipush 60, 2)) ∧ (decode cX5_gaps 10 = .ok (.if_icmp .gt 23, 3))) ∧ ((decode cX5_gaps 13 = .ok (.lload_n 1, 1)) ∧ (decode cX5_gaps 14 = .ok (.iload_n 3, 1))))) ∧ ((((decode cX5_gaps 15 = .ok (.iconst 1, 1)) ∧ (decode cX5_gaps 16 = .ok (.iadd, 1))) ∧ ((decode cX5_gaps 17 = .ok (.lshr, 1)) ∧ (decode cX5_gaps 18 = .ok (.lconst 1, 1)))) ∧ (((decode cX5_gaps 19 = .ok (.land, 1)) ∧ (decode cX5_gaps 20 = .ok (.lconst 0, 1))) ∧ ((decode cX5_gaps 21 = .ok (.lcmp, 1)) ∧ (decode cX5_gaps 22 = .ok (.ifCond .ne 5, 3)))))) := by decide +kernel
theorem dX5_gaps_4 : decode cX5_gaps 4 = .ok (.lstore_n 1, 1) := dbc_191.1.1.1.1
theorem dX5_gaps_5 : decode cX5_gaps 5 = .ok (.iconst 0, 1) := dbc_191.1.1.1.2
theorem dX5_gaps_6 : decode cX5_gaps 6 = .ok (.istore_n 3, 1) := dbc_191.1.1.2.1
theorem dX5_gaps_7 : decode cX5_gaps 7 = .ok (.iload_n 3, 1) := dbc_191.1.1.2.2
theorem dX5_gaps_8 : decode cX5_gaps 8 = .ok (.bipush 60, 2) := dbc_191.1.2.1.1
theorem dX5_gaps_10 : decode cX5_gaps 10 = .ok (.if_icmp .gt 23, 3) := dbc_191.1.2.1.2
theorem dX5_gaps_13 : decode cX5_gaps 13 = .ok (.lload_n 1, 1) := dbc_191.1.2.2.1
theorem dX5_gaps_14 : decode cX5_gaps 14 = .ok (.iload_n 3, 1) := dbc_191.1.2.2.2
theorem dX5_gaps_15 : decode cX5_gaps 15 = .ok (.iconst 1, 1) := dbc_191.2.1.1.1
theorem dX5_gaps_16 : decode cX5_gaps 16 = .ok (.iadd, 1) := dbc_191.2.1.1.2
theorem dX5_gaps_17 : decode cX5_gaps 17 = .ok (.lshr, 1) := dbc_191.2.1.2.1
theorem dX5_gaps_18 : decode cX5_gaps 18 = .ok (.lconst 1, 1) := dbc_191.2.1.2.2
theorem dX5_gaps_19 : decode cX5_gaps 19 = .ok (.land, 1) := dbc_191.2.2.1.1
theorem dX5_gaps_20 : decode cX5_gaps 20 = .ok (.lconst 0, 1) := dbc_191.2.2.1.2
theorem dX5_gaps_21 : decode cX5_gaps 21 = .ok (.lcmp, 1) := dbc_191.2.2.2.1
theorem dX5_gaps_22 : decode cX5_gaps 22 = .ok (.ifCond .ne 5, 3) := dbc_191.2.2.2.2
theorem dbc_192 : (((((decode cX5_gaps 25 = .ok (.iload_n 3, 1)) ∧ (decode cX5_gaps 26 = .ok (.ireturn, 1))) ∧ ((decode cX5_gaps 27 = .ok (.iinc 3 1, 3)) ∧ (decode cX5_gaps 30 = .ok (.goto (-23), 3)))) ∧ (((decode cX5_gaps 33 = .ok (.bipush (-9), 2)) ∧ (decode cX5_gaps 35 = .ok (.ireturn, 1))) ∧ ((decode cX5_blind 0 = .ok (.iconst 0, 1)) ∧ (decode cX5_blind 1 = .ok (.istore_n 1, 1))))) ∧ ((((decode cX5_blind 2 = .ok (.iconst 0, 1)) ∧ (decode cX5_blind 3 = .ok (.istore_n 2, 1))) ∧ ((decode cX5_blind 4 = .ok (.iload_n 2, 1)) ∧ (decode cX5_blind 5 = .ok (.aload_n 0, 1)))) ∧ (((decode cX5_blind 6 = .ok (.getfield 12, 3)) ∧ (decode cX5_blind 9 = .ok (.getfield 158, 3))) ∧ ((decode cX5_blind 12 = .ok (.if_icmp .ge 35, 3)) ∧ (decode cX5_blind 15 = .ok (.aload_n 0, 1)))))) := by decide +kernel
theorem dX5_gaps_25 : decode cX5_gaps 25 = .ok (.iload_n 3, 1) := dbc_192.1.1.1.1
theorem dX5_gaps_26 : decode cX5_gaps 26 = .ok (.ireturn, 1) := dbc_192.1.1.1.2
theorem dX5_gaps_27 : decode cX5_gaps 27 = .ok (.iinc 3 1, 3) := dbc_192.1.1.2.1
theorem dX5_gaps_30 : decode cX5_gaps 30 = .ok (.goto (-23), 3) := dbc_192.1.1.2.2
theorem dX5_gaps_33 : decode cX5_gaps 33 = .ok (.bipush (-9), 2) := dbc_192.1.2.1.1
theorem dX5_gaps_35 : decode cX5_gaps 35 = .ok (.ireturn, 1) := dbc_192.1.2.1.2
theorem dX5_blind_0 : decode cX5_blind 0 = .ok (.iconst 0, 1) := dbc_192.1.2.2.1
theorem dX5_blind_1 : decode cX5_blind 1 = .ok (.istore_n 1, 1) := dbc_192.1.2.2.2
theorem dX5_blind_2 : decode cX5_blind 2 = .ok (.iconst 0, 1) := dbc_192.2.1.1.1
theorem dX5_blind_3 : decode cX5_blind 3 = .ok (.istore_n 2, 1) := dbc_192.2.1.1.2
theorem dX5_blind_4 : decode cX5_blind 4 = .ok (.iload_n 2, 1) := dbc_192.2.1.2.1
theorem dX5_blind_5 : decode cX5_blind 5 = .ok (.aload_n 0, 1) := dbc_192.2.1.2.2
theorem dX5_blind_6 : decode cX5_blind 6 = .ok (.getfield 12, 3) := dbc_192.2.2.1.1
theorem dX5_blind_9 : decode cX5_blind 9 = .ok (.getfield 158, 3) := dbc_192.2.2.1.2
theorem dX5_blind_12 : decode cX5_blind 12 = .ok (.if_icmp .ge 35, 3) := dbc_192.2.2.2.1
theorem dX5_blind_15 : decode cX5_blind 15 = .ok (.aload_n 0, 1) := dbc_192.2.2.2.2
theorem dbc_193 : (((((decode cX5_blind 16 = .ok (.getfield 12, 3)) ∧ (decode cX5_blind 19 = .ok (.iload_n 2, 1))) ∧ ((decode cX5_blind 20 = .ok (.aload_n 0, 1)) ∧ (decode cX5_blind 21 = .ok (.getfield 12, 3)))) ∧ (((decode cX5_blind 24 = .ok (.getfield 122, 3)) ∧ (decode cX5_blind 27 = .ok (.iload_n 2, 1))) ∧ ((decode cX5_blind 28 = .ok (.iaload, 1)) ∧ (decode cX5_blind 29 = .ok (.invokevirtual 134, 3))))) ∧ ((((decode cX5_blind 32 = .ok (.ifCond .ne 9, 3)) ∧ (decode cX5_blind 35 = .ok (.iload_n 1, 1))) ∧ ((decode cX5_blind 36 = .ok (.iconst 1, 1)) ∧ (decode cX5_blind 37 = .ok (.iload_n 2, 1)))) ∧ (((decode cX5_blind 38 = .ok (.ishl, 1)) ∧ (decode cX5_blind 39 = .ok (.ior, 1))) ∧ ((decode cX5_blind 40 = .ok (.istore_n 1, 1)) ∧ (decode cX5_blind 41 = .ok (.iinc 2 1, 3)))))) := by decide +kernel
theorem dX5_blind_16 : decode cX5_blind 16 = .ok (.getfield 12, 3) := dbc_193.1.1.1.1
theorem dX5_blind_19 : decode cX5_blind 19 = .ok (.iload_n 2, 1) := dbc_193.1.1.1.2
theorem dX5_blind_20 : decode cX5_blind 20 = .ok (.aload_n 0, 1) := dbc_193.1.1.2.1
theorem dX5_blind_21 : decode cX5_blind 21 = .ok (.getfield 12, 3) := dbc_193.1.1.2.2
theorem dX5_blind_24 : decode cX5_blind 24 = .ok (.getfield 122, 3) := dbc_193.1.2.1.1
theorem dX5_blind_27 : decode cX5_blind 27 = .ok (.iload_n 2, 1) := dbc_193.1.2.1.2
theorem dX5_blind_28 : decode cX5_blind 28 = .ok (.iaload, 1) := dbc_193.1.2.2.1
theorem dX5_blind_29 : decode cX5_blind 29 = .ok (.invokevirtual 134, 3) := dbc_193.1.2.2.2
theorem dX5_blind_32 : decode cX5_blind 32 = .ok (.ifCond .ne 9, 3) := dbc_193.2.1.1.1
theorem dX5_blind_35 : decode cX5_blind 35 = .ok (.iload_n 1, 1) := dbc_193.2.1.1.2
theorem dX5_blind_36 : decode cX5_blind 36 = .ok (.iconst 1, 1) := dbc_193.2.1.2.1
theorem dX5_blind_37 : decode cX5_blind 37 = .ok (.iload_n 2, 1) := dbc_193.2.1.2.2
theorem dX5_blind_38 : decode cX5_blind 38 = .ok (.ishl, 1) := dbc_193.2.2.1.1
theorem dX5_blind_39 : decode cX5_blind 39 = .ok (.ior, 1) := dbc_193.2.2.1.2
theorem dX5_blind_40 : decode cX5_blind 40 = .ok (.istore_n 1, 1) := dbc_193.2.2.2.1
theorem dX5_blind_41 : decode cX5_blind 41 = .ok (.iinc 2 1, 3) := dbc_193.2.2.2.2
theorem dbc_194 : (((((decode cX5_blind 44 = .ok (.goto (-40), 3)) ∧ (decode cX5_blind 47 = .ok (.iload_n 1, 1))) ∧ ((decode cX5_blind 48 = .ok (.ireturn, 1)) ∧ (decode cX5_moved 0 = .ok (.aload_n 0, 1)))) ∧ (((decode cX5_moved 1 = .ok (.getfield 12, 3)) ∧ (decode cX5_moved 4 = .ok (.iload_n 1, 1))) ∧ ((decode cX5_moved 5 = .ok (.invokevirtual 119, 3)) ∧ (decode cX5_moved 8 = .ok (.ifCond .eq 10, 3))))) ∧ ((((decode cX5_moved 11 = .ok (.iload_n 2, 1)) ∧ (decode cX5_moved 12 = .ok (.invokestatic 151, 3))) ∧ ((decode cX5_moved 15 = .ok (.ifCond .ne 12, 3)) ∧ (decode cX5_moved 18 = .ok (.ldc 238, 2)))) ∧ (((decode cX5_moved 20 = .ok (.aload_n 0, 1)) ∧ (decode cX5_moved 21 = .ok (.iconst (-1), 1))) ∧ ((decode cX5_moved 22 = .ok (.invokevirtual 65, 3)) ∧ (decode cX5_moved 25 = .ok (.isub, 1)))))) := by decide +kernel
theorem dX5_blind_44 : decode cX5_blind 44 = .ok (.goto (-40), 3) := dbc_194.1.1.1.1
theorem dX5_blind_47 : decode cX5_blind 47 = .ok (.iload_n 1, 1) := dbc_194.1.1.1.2
theorem dX5_blind_48 : decode cX5_blind 48 = .ok (.ireturn, 1) := dbc_194.1.1.2.1
theorem dX5_moved_0 : decode cX5_moved 0 = .ok (.aload_n 0, 1) := dbc_194.1.1.2.2
theorem dX5_moved_1 : decode cX5_moved 1 = .ok (.getfield 12, 3) := dbc_194.1.2.1.1
theorem dX5_moved_4 : decode cX5_moved 4 = .ok (.iload_n 1, 1) := dbc_194.1.2.1.2
theorem dX5_moved_5 : decode cX5_moved 5 = .ok (.invokevirtual 119, 3) := dbc_194.1.2.2.1
theorem dX5_moved_8 : decode cX5_moved 8 = .ok (.ifCond .eq 10, 3) := dbc_194.1.2.2.2
theorem dX5_moved_11 : decode cX5_moved 11 = .ok (.iload_n 2, 1) := dbc_194.2.1.1.1
theorem dX5_moved_12 : decode cX5_moved 12 = .ok (.invokestatic 151, 3) := dbc_194.2.1.1.2
theorem dX5_moved_15 : decode cX5_moved 15 = .ok (.ifCond .ne 12, 3) := dbc_194.2.1.2.1
theorem dX5_moved_18 : decode cX5_moved 18 = .ok (.ldc 238, 2) := dbc_194.2.1.2.2
theorem dX5_moved_20 : decode cX5_moved 20 = .ok (.aload_n 0, 1) := dbc_194.2.2.1.1
theorem dX5_moved_21 : decode cX5_moved 21 = .ok (.iconst (-1), 1) := dbc_194.2.2.1.2
theorem dX5_moved_22 : decode cX5_moved 22 = .ok (.invokevirtual 65, 3) := dbc_194.2.2.2.1
theorem dX5_moved_25 : decode cX5_moved 25 = .ok (.isub, 1) := dbc_194.2.2.2.2
theorem dbc_195 : (((((decode cX5_moved 26 = .ok (.ireturn, 1)) ∧ (decode cX5_moved 27 = .ok (.iload_n 3, 1))) ∧ ((decode cX5_moved 28 = .ok (.ifCond .ge 13, 3)) ∧ (decode cX5_moved 31 = .ok (.ldc 238, 2)))) ∧ (((decode cX5_moved 33 = .ok (.aload_n 0, 1)) ∧ (decode cX5_moved 34 = .ok (.bipush (-4), 2))) ∧ ((decode cX5_moved 36 = .ok (.invokevirtual 65, 3)) ∧ (decode cX5_moved 39 = .ok (.isub, 1))))) ∧ ((((decode cX5_moved 40 = .ok (.ireturn, 1)) ∧ (decode cX5_moved 41 = .ok (.iload_n 3, 1))) ∧ ((decode cX5_moved 42 = .ok (.bipush 60, 2)) ∧ (decode cX5_moved 44 = .ok (.if_icmp .le 13, 3)))) ∧ (((decode cX5_moved 47 = .ok (.ldc 238, 2)) ∧ (decode cX5_moved 49 = .ok (.aload_n 0, 1))) ∧ ((decode cX5_moved 50 = .ok (.bipush (-6), 2)) ∧ (decode cX5_moved 52 = .ok (.invokevirtual 65, 3)))))) := by decide +kernel
theorem dX5_moved_26 : decode cX5_moved 26 = .ok (.ireturn, 1) := dbc_195.1.1.1.1
theorem dX5_moved_27 : decode cX5_moved 27 = .ok (.iload_n 3, 1) := dbc_195.1.1.1.2
theorem dX5_moved_28 : decode cX5_moved 28 = .ok (.ifCond .ge 13, 3) := dbc_195.1.1.2.1
theorem dX5_moved_31 : decode cX5_moved 31 = .ok (.ldc 238, 2) := dbc_195.1.1.2.2
theorem dX5_moved_33 : decode cX5_moved 33 = .ok (.aload_n 0, 1) := dbc_195.1.2.1.1
theorem dX5_moved_34 : decode cX5_moved 34 = .ok (.bipush (-4), 2) := dbc_195.1.2.1.2
theorem dX5_moved_36 : decode cX5_moved 36 = .ok (.invokevirtual 65, 3) := dbc_195.1.2.2.1
theorem dX5_moved_39 : decode cX5_moved 39 = .ok (.isub, 1) := dbc_195.1.2.2.2
theorem dX5_moved_40 : decode cX5_moved 40 = .ok (.ireturn, 1) := dbc_195.2.1.1.1
theorem dX5_moved_41 : decode cX5_moved 41 = .ok (.iload_n 3, 1) := dbc_195.2.1.1.2
theorem dX5_moved_42 : decode cX5_moved 42 = .ok (.bipush 60, 2) := dbc_195.2.1.2.1
theorem dX5_moved_44 : decode cX5_moved 44 = .ok (.if_icmp .le 13, 3) := dbc_195.2.1.2.2
theorem dX5_moved_47 : decode cX5_moved 47 = .ok (.ldc 238, 2) := dbc_195.2.2.1.1
theorem dX5_moved_49 : decode cX5_moved 49 = .ok (.aload_n 0, 1) := dbc_195.2.2.1.2
theorem dX5_moved_50 : decode cX5_moved 50 = .ok (.bipush (-6), 2) := dbc_195.2.2.2.1
theorem dX5_moved_52 : decode cX5_moved 52 = .ok (.invokevirtual 65, 3) := dbc_195.2.2.2.2
theorem dbc_196 : (((((decode cX5_moved 55 = .ok (.isub, 1)) ∧ (decode cX5_moved 56 = .ok (.ireturn, 1))) ∧ ((decode cX5_moved 57 = .ok (.aload_n 0, 1)) ∧ (decode cX5_moved 58 = .ok (.getfield 16, 3)))) ∧ (((decode cX5_moved 61 = .ok (.aload_n 0, 1)) ∧ (decode cX5_moved 62 = .ok (.getfield 12, 3))) ∧ ((decode cX5_moved 65 = .ok (.invokevirtual 76, 3)) ∧ (decode cX5_moved 68 = .ok (.aload_n 0, 1))))) ∧ ((((decode cX5_moved 69 = .ok (.getfield 16, 3)) ∧ (decode cX5_moved 72 = .ok (.iload_n 1, 1))) ∧ ((decode cX5_moved 73 = .ok (.iload_n 2, 1)) ∧ (decode cX5_moved 74 = .ok (.invokevirtual 170, 3)))) ∧ (((decode cX5_moved 77 = .ok (.pop, 1)) ∧ (decode cX5_moved 78 = .ok (.aload_n 0, 1))) ∧ ((decode cX5_moved 79 = .ok (.getfield 16, 3)) ∧ (decode cX5_moved 82 = .ok (.iload_n 1, 1)))))) := by decide +kernel
theorem dX5_moved_55 : decode cX5_moved 55 = .ok (.isub, 1) := dbc_196.1.1.1.1
theorem dX5_moved_56 : decode cX5_moved 56 = .ok (.ireturn, 1) := dbc_196.1.1.1.2
theorem dX5_moved_57 : decode cX5_moved 57 = .ok (.aload_n 0, 1) := dbc_196.1.1.2.1
theorem dX5_moved_58 : decode cX5_moved 58 = .ok (.getfield 16, 3) := dbc_196.1.1.2.2
theorem dX5_moved_61 : decode cX5_moved 61 = .ok (.aload_n 0, 1) := dbc_196.1.2.1.1
theorem dX5_moved_62 : decode cX5_moved 62 = .ok (.getfield 12, 3) := dbc_196.1.2.1.2
theorem dX5_moved_65 : decode cX5_moved 65 = .ok (.invokevirtual 76, 3) := dbc_196.1.2.2.1
theorem dX5_moved_68 : decode cX5_moved 68 = .ok (.aload_n 0, 1) := dbc_196.1.2.2.2
theorem dX5_moved_69 : decode cX5_moved 69 = .ok (.getfield 16, 3) := dbc_196.2.1.1.1
theorem dX5_moved_72 : decode cX5_moved 72 = .ok (.iload_n 1, 1) := dbc_196.2.1.1.2
theorem dX5_moved_73 : decode cX5_moved 73 = .ok (.iload_n 2, 1) := dbc_196.2.1.2.1
theorem dX5_moved_74 : decode cX5_moved 74 = .ok (.invokevirtual 170, 3) := dbc_196.2.1.2.2
theorem dX5_moved_77 : decode cX5_moved 77 = .ok (.pop, 1) := dbc_196.2.2.1.1
theorem dX5_moved_78 : decode cX5_moved 78 = .ok (.aload_n 0, 1) := dbc_196.2.2.1.2
theorem dX5_moved_79 : decode cX5_moved 79 = .ok (.getfield 16, 3) := dbc_196.2.2.2.1
theorem dX5_moved_82 : decode cX5_moved 82 = .ok (.iload_n 1, 1) := dbc_196.2.2.2.2
theorem dbc_197 : (((((decode cX5_moved 83 = .ok (.iload_n 3, 1)) ∧ (decode cX5_moved 84 = .ok (.invokevirtual 137, 3))) ∧ ((decode cX5_moved 87 = .ok (.aload_n 0, 1)) ∧ (decode cX5_moved 88 = .ok (.getfield 12, 3)))) ∧ (((decode cX5_moved 91 = .ok (.iload_n 1, 1)) ∧ (decode cX5_moved 92 = .ok (.iload_n 3, 1))) ∧ ((decode cX5_moved 93 = .ok (.invokevirtual 137, 3)) ∧ (decode cX5_moved 96 = .ok (.isub, 1))))) ∧ ((((decode cX5_moved 97 = .ok (.ireturn, 1)) ∧ (decode cX5_street 0 = .ok (.iload_n 1, 1))) ∧ ((decode cX5_street 1 = .ok (.ifCond .lt 9, 3)) ∧ (decode cX5_street 4 = .ok (.iload_n 1, 1)))) ∧ (((decode cX5_street 5 = .ok (.bipush 7, 2)) ∧ (decode cX5_street 7 = .ok (.if_icmp .lt 9, 3))) ∧ ((decode cX5_street 10 = .ok (.aload_n 0, 1)) ∧ (decode cX5_street 11 = .ok (.iconst (-1), 1)))))) := by decide +kernel
theorem dX5_moved_83 : decode cX5_moved 83 = .ok (.iload_n 3, 1) := dbc_197.1.1.1.1
theorem dX5_moved_84 : decode cX5_moved 84 = .ok (.invokevirtual 137, 3) := dbc_197.1.1.1.2
theorem dX5_moved_87 : decode cX5_moved 87 = .ok (.aload_n 0, 1) := dbc_197.1.1.2.1
theorem dX5_moved_88 : decode cX5_moved 88 = .ok (.getfield 12, 3) := dbc_197.1.1.2.2
theorem dX5_moved_91 : decode cX5_moved 91 = .ok (.iload_n 1, 1) := dbc_197.1.2.1.1
theorem dX5_moved_92 : decode cX5_moved 92 = .ok (.iload_n 3, 1) := dbc_197.1.2.1.2
theorem dX5_moved_93 : decode cX5_moved 93 = .ok (.invokevirtual 137, 3) := dbc_197.1.2.2.1
theorem dX5_moved_96 : decode cX5_moved 96 = .ok (.isub, 1) := dbc_197.1.2.2.2
theorem dX5_moved_97 : decode cX5_moved 97 = .ok (.ireturn, 1) := dbc_197.2.1.1.1
theorem dX5_street_0 : decode cX5_street 0 = .ok (.iload_n 1, 1) := dbc_197.2.1.1.2
theorem dX5_street_1 : decode cX5_street 1 = .ok (.ifCond .lt 9, 3) := dbc_197.2.1.2.1
theorem dX5_street_4 : decode cX5_street 4 = .ok (.iload_n 1, 1) := dbc_197.2.1.2.2
theorem dX5_street_5 : decode cX5_street 5 = .ok (.bipush 7, 2) := dbc_197.2.2.1.1
theorem dX5_street_7 : decode cX5_street 7 = .ok (.if_icmp .lt 9, 3) := dbc_197.2.2.1.2
theorem dX5_street_10 : decode cX5_street 10 = .ok (.aload_n 0, 1) := dbc_197.2.2.2.1
theorem dX5_street_11 : decode cX5_street 11 = .ok (.iconst (-1), 1) := dbc_197.2.2.2.2
theorem dbc_198 : (((((decode cX5_street 12 = .ok (.invokevirtual 65, 3)) ∧ (decode cX5_street 15 = .ok (.ireturn, 1))) ∧ ((decode cX5_street 16 = .ok (.iconst 0, 1)) ∧ (decode cX5_street 17 = .ok (.istore_n 2, 1)))) ∧ (((decode cX5_street 18 = .ok (.iconst 0, 1)) ∧ (decode cX5_street 19 = .ok (.istore_n 3, 1))) ∧ ((decode cX5_street 20 = .ok (.iload_n 3, 1)) ∧ (decode cX5_street 21 = .ok (.aload_n 0, 1))))) ∧ ((((decode cX5_street 22 = .ok (.getfield 12, 3)) ∧ (decode cX5_street 25 = .ok (.getfield 148, 3))) ∧ ((decode cX5_street 28 = .ok (.if_icmp .ge 63, 3)) ∧ (decode cX5_street 31 = .ok (.aload_n 0, 1)))) ∧ (((decode cX5_street 32 = .ok (.getfield 12, 3)) ∧ (decode cX5_street 35 = .ok (.getfield 100, 3))) ∧ ((decode cX5_street 38 = .ok (.iload_n 3, 1)) ∧ (decode cX5_street 39 = .ok (.iaload, 1)))))) := by decide +kernel
theorem dX5_street_12 : decode cX5_street 12 = .ok (.invokevirtual 65, 3) := dbc_198.1.1.1.1
theorem dX5_street_15 : decode cX5_street 15 = .ok (.ireturn, 1) := dbc_198.1.1.1.2
theorem dX5_street_16 : decode cX5_street 16 = .ok (.iconst 0, 1) := dbc_198.1.1.2.1
theorem dX5_street_17 : decode cX5_street 17 = .ok (.istore_n 2, 1) := dbc_198.1.1.2.2
theorem dX5_street_18 : decode cX5_street 18 = .ok (.iconst 0, 1) := dbc_198.1.2.1.1
theorem dX5_street_19 : decode cX5_street 19 = .ok (.istore_n 3, 1) := dbc_198.1.2.1.2
theorem dX5_street_20 : decode cX5_street 20 = .ok (.iload_n 3, 1) := dbc_198.1.2.2.1
theorem dX5_street_21 : decode cX5_street 21 = .ok (.aload_n 0, 1) := dbc_198.1.2.2.2
theorem dX5_street_22 : decode cX5_street 22 = .ok (.getfield 12, 3) := dbc_198.2.1.1.1
theorem dX5_street_25 : decode cX5_street 25 = .ok (.getfield 148, 3) := dbc_198.2.1.1.2
theorem dX5_street_28 : decode cX5_street 28 = .ok (.if_icmp .ge 63, 3) := dbc_198.2.1.2.1
theorem dX5_street_31 : decode cX5_street 31 = .ok (.aload_n 0, 1) := dbc_198.2.1.2.2
theorem dX5_street_32 : decode cX5_street 32 = .ok (.getfield 12, 3) := dbc_198.2.2.1.1
theorem dX5_street_35 : decode cX5_street 35 = .ok (.getfield 100, 3) := dbc_198.2.2.1.2
theorem dX5_street_38 : decode cX5_street 38 = .ok (.iload_n 3, 1) := dbc_198.2.2.2.1
theorem dX5_street_39 : decode cX5_street 39 = .ok (.iaload, 1) := dbc_198.2.2.2.2
theorem dbc_199 : (((((decode cX5_street 40 = .ok (.bipush 7, 2)) ∧ (decode cX5_street 42 = .ok (.idiv, 1))) ∧ ((decode cX5_street 43 = .ok (.iload_n 1, 1)) ∧ (decode cX5_street 44 = .ok (.if_icmp .eq 6, 3)))) ∧ (((decode cX5_street 47 = .ok (.goto 38, 3)) ∧ (decode cX5_street 50 = .ok (.iconst 0, 1))) ∧ ((decode cX5_street 51 = .ok (.istore 4, 2)) ∧ (decode cX5_street 53 = .ok (.iload 4, 2))))) ∧ ((((decode cX5_street 55 = .ok (.aload_n 0, 1)) ∧ (decode cX5_street 56 = .ok (.getfield 12, 3))) ∧ ((decode cX5_street 59 = .ok (.getfield 158, 3)) ∧ (decode cX5_street 62 = .ok (.if_icmp .ge 23, 3)))) ∧ (((decode cX5_street 65 = .ok (.iload_n 2, 1)) ∧ (decode cX5_street 66 = .ok (.aload_n 0, 1))) ∧ ((decode cX5_street 67 = .ok (.getfield 12, 3)) ∧ (decode cX5_street 70 = .ok (.iload 4, 2)))))) := by decide +kernel
theorem dX5_street_40 : decode cX5_street 40 = .ok (.bipush 7, 2) := dbc_199.1.1.1.1
theorem dX5_street_42 : decode cX5_street 42 = .ok (.idiv, 1) := dbc_199.1.1.1.2
theorem dX5_street_43 : decode cX5_street 43 = .ok (.iload_n 1, 1) := dbc_199.1.1.2.1
theorem dX5_street_44 : decode cX5_street 44 = .ok (.if_icmp .eq 6, 3) := dbc_199.1.1.2.2
theorem dX5_street_47 : decode cX5_street 47 = .ok (.goto 38, 3) := dbc_199.1.2.1.1
theorem dX5_street_50 : decode cX5_street 50 = .ok (.iconst 0, 1) := dbc_199.1.2.1.2
theorem dX5_street_51 : decode cX5_street 51 = .ok (.istore 4, 2) := dbc_199.1.2.2.1
theorem dX5_street_53 : decode cX5_street 53 = .ok (.iload 4, 2) := dbc_199.1.2.2.2
theorem dX5_street_55 : decode cX5_street 55 = .ok (.aload_n 0, 1) := dbc_199.2.1.1.1
theorem dX5_street_56 : decode cX5_street 56 = .ok (.getfield 12, 3) := dbc_199.2.1.1.2
theorem dX5_street_59 : decode cX5_street 59 = .ok (.getfield 158, 3) := dbc_199.2.1.2.1
theorem dX5_street_62 : decode cX5_street 62 = .ok (.if_icmp .ge 23, 3) := dbc_199.2.1.2.2
theorem dX5_street_65 : decode cX5_street 65 = .ok (.iload_n 2, 1) := dbc_199.2.2.1.1
theorem dX5_street_66 : decode cX5_street 66 = .ok (.aload_n 0, 1) := dbc_199.2.2.1.2
theorem dX5_street_67 : decode cX5_street 67 = .ok (.getfield 12, 3) := dbc_199.2.2.2.1
theorem dX5_street_70 : decode cX5_street 70 = .ok (.iload 4, 2) := dbc_199.2.2.2.2
theorem dbc_200 : (((((decode cX5_street 72 = .ok (.iload_n 3, 1)) ∧ (decode cX5_street 73 = .ok (.iconst 0, 1))) ∧ ((decode cX5_street 74 = .ok (.invokevirtual 173, 3)) ∧ (decode cX5_street 77 = .ok (.iadd, 1)))) ∧ (((decode cX5_street 78 = .ok (.istore_n 2, 1)) ∧ (decode cX5_street 79 = .ok (.iinc 4 1, 3))) ∧ ((decode cX5_street 82 = .ok (.goto (-29), 3)) ∧ (decode cX5_street 85 = .ok (.iinc 3 1, 3))))) ∧ ((((decode cX5_street 88 = .ok (.goto (-68), 3)) ∧ (decode cX5_street 91 = .ok (.iload_n 2, 1))) ∧ ((decode cX5_street 92 = .ok (.ireturn, 1)) ∧ (decode cX5_row 0 = .ok (.iload_n 1, 1)))) ∧ (((decode cX5_row 1 = .ok (.ifCond .ge 10, 3)) ∧ (decode cX5_row 4 = .ok (.aload_n 0, 1))) ∧ ((decode cX5_row 5 = .ok (.bipush (-4), 2)) ∧ (decode cX5_row 7 = .ok (.invokevirtual 65, 3)))))) := by decide +kernel
theorem dX5_street_72 : decode cX5_street 72 = .ok (.iload_n 3, 1) := dbc_200.1.1.1.1
theorem dX5_street_73 : decode cX5_street 73 = .ok (.iconst 0, 1) := dbc_200.1.1.1.2
theorem dX5_street_74 : decode cX5_street 74 = .ok (.invokevirtual 173, 3) := dbc_200.1.1.2.1
theorem dX5_street_77 : decode cX5_street 77 = .ok (.iadd, 1) := dbc_200.1.1.2.2
theorem dX5_street_78 : decode cX5_street 78 = .ok (.istore_n 2, 1) := dbc_200.1.2.1.1
theorem dX5_street_79 : decode cX5_street 79 = .ok (.iinc 4 1, 3) := dbc_200.1.2.1.2
theorem dX5_street_82 : decode cX5_street 82 = .ok (.goto (-29), 3) := dbc_200.1.2.2.1
theorem dX5_street_85 : decode cX5_street 85 = .ok (.iinc 3 1, 3) := dbc_200.1.2.2.2
theorem dX5_street_88 : decode cX5_street 88 = .ok (.goto (-68), 3) := dbc_200.2.1.1.1
theorem dX5_street_91 : decode cX5_street 91 = .ok (.iload_n 2, 1) := dbc_200.2.1.1.2
theorem dX5_street_92 : decode cX5_street 92 = .ok (.ireturn, 1) := dbc_200.2.1.2.1
theorem dX5_row_0 : decode cX5_row 0 = .ok (.iload_n 1, 1) := dbc_200.2.1.2.2
theorem dX5_row_1 : decode cX5_row 1 = .ok (.ifCond .ge 10, 3) := dbc_200.2.2.1.1
theorem dX5_row_4 : decode cX5_row 4 = .ok (.aload_n 0, 1) := dbc_200.2.2.1.2
theorem dX5_row_5 : decode cX5_row 5 = .ok (.bipush (-4), 2) := dbc_200.2.2.2.1
theorem dX5_row_7 : decode cX5_row 7 = .ok (.invokevirtual 65, 3) := dbc_200.2.2.2.2
theorem dbc_201 : (((((decode cX5_row 10 = .ok (.ireturn, 1)) ∧ (decode cX5_row 11 = .ok (.iload_n 1, 1))) ∧ ((decode cX5_row 12 = .ok (.bipush 99, 2)) ∧ (decode cX5_row 14 = .ok (.if_icmp .gt 12, 3)))) ∧ (((decode cX5_row 17 = .ok (.aload_n 0, 1)) ∧ (decode cX5_row 18 = .ok (.getfield 58, 3))) ∧ ((decode cX5_row 21 = .ok (.bipush 12, 2)) ∧ (decode cX5_row 23 = .ok (.if_icmp .lt 10, 3))))) ∧ ((((decode cX5_row 26 = .ok (.aload_n 0, 1)) ∧ (decode cX5_row 27 = .ok (.bipush (-6), 2))) ∧ ((decode cX5_row 29 = .ok (.invokevirtual 65, 3)) ∧ (decode cX5_row 32 = .ok (.ireturn, 1)))) ∧ (((decode cX5_row 33 = .ok (.aload_n 0, 1)) ∧ (decode cX5_row 34 = .ok (.getfield 54, 3))) ∧ ((decode cX5_row 37 = .ok (.aload_n 0, 1)) ∧ (decode cX5_row 38 = .ok (.getfield 58, 3)))))) := by decide +kernel
theorem dX5_row_10 : decode cX5_row 10 = .ok (.ireturn, 1) := dbc_201.1.1.1.1
theorem dX5_row_11 : decode cX5_row 11 = .ok (.iload_n 1, 1) := dbc_201.1.1.1.2
theorem dX5_row_12 : decode cX5_row 12 = .ok (.bipush 99, 2) := dbc_201.1.1.2.1
theorem dX5_row_14 : decode cX5_row 14 = .ok (.if_icmp .gt 12, 3) := dbc_201.1.1.2.2
theorem dX5_row_17 : decode cX5_row 17 = .ok (.aload_n 0, 1) := dbc_201.1.2.1.1
theorem dX5_row_18 : decode cX5_row 18 = .ok (.getfield 58, 3) := dbc_201.1.2.1.2
theorem dX5_row_21 : decode cX5_row 21 = .ok (.bipush 12, 2) := dbc_201.1.2.2.1
theorem dX5_row_23 : decode cX5_row 23 = .ok (.if_icmp .lt 10, 3) := dbc_201.1.2.2.2
theorem dX5_row_26 : decode cX5_row 26 = .ok (.aload_n 0, 1) := dbc_201.2.1.1.1
theorem dX5_row_27 : decode cX5_row 27 = .ok (.bipush (-6), 2) := dbc_201.2.1.1.2
theorem dX5_row_29 : decode cX5_row 29 = .ok (.invokevirtual 65, 3) := dbc_201.2.1.2.1
theorem dX5_row_32 : decode cX5_row 32 = .ok (.ireturn, 1) := dbc_201.2.1.2.2
theorem dX5_row_33 : decode cX5_row 33 = .ok (.aload_n 0, 1) := dbc_201.2.2.1.1
theorem dX5_row_34 : decode cX5_row 34 = .ok (.getfield 54, 3) := dbc_201.2.2.1.2
theorem dX5_row_37 : decode cX5_row 37 = .ok (.aload_n 0, 1) := dbc_201.2.2.2.1
theorem dX5_row_38 : decode cX5_row 38 = .ok (.getfield 58, 3) := dbc_201.2.2.2.2
theorem dbc_202 : (((((decode cX5_row 41 = .ok (.iload_n 1, 1)) ∧ (decode cX5_row 42 = .ok (.iastore, 1))) ∧ ((decode cX5_row 43 = .ok (.aload_n 0, 1)) ∧ (decode cX5_row 44 = .ok (.dup, 1)))) ∧ (((decode cX5_row 45 = .ok (.getfield 58, 3)) ∧ (decode cX5_row 48 = .ok (.iconst 1, 1))) ∧ ((decode cX5_row 49 = .ok (.iadd, 1)) ∧ (decode cX5_row 50 = .ok (.putfield 58, 3))))) ∧ ((((decode cX5_row 53 = .ok (.aload_n 0, 1)) ∧ (decode cX5_row 54 = .ok (.getfield 58, 3))) ∧ ((decode cX5_row 57 = .ok (.ireturn, 1)) ∧ (decode cX5_judge 0 = .ok (.aload_n 0, 1)))) ∧ (((decode cX5_judge 1 = .ok (.getfield 58, 3)) ∧ (decode cX5_judge 4 = .ok (.istore_n 1, 1))) ∧ ((decode cX5_judge 5 = .ok (.aload_n 0, 1)) ∧ (decode cX5_judge 6 = .ok (.iconst 0, 1)))))) := by decide +kernel
theorem dX5_row_41 : decode cX5_row 41 = .ok (.iload_n 1, 1) := dbc_202.1.1.1.1
theorem dX5_row_42 : decode cX5_row 42 = .ok (.iastore, 1) := dbc_202.1.1.1.2
theorem dX5_row_43 : decode cX5_row 43 = .ok (.aload_n 0, 1) := dbc_202.1.1.2.1
theorem dX5_row_44 : decode cX5_row 44 = .ok (.dup, 1) := dbc_202.1.1.2.2
theorem dX5_row_45 : decode cX5_row 45 = .ok (.getfield 58, 3) := dbc_202.1.2.1.1
theorem dX5_row_48 : decode cX5_row 48 = .ok (.iconst 1, 1) := dbc_202.1.2.1.2
theorem dX5_row_49 : decode cX5_row 49 = .ok (.iadd, 1) := dbc_202.1.2.2.1
theorem dX5_row_50 : decode cX5_row 50 = .ok (.putfield 58, 3) := dbc_202.1.2.2.2
theorem dX5_row_53 : decode cX5_row 53 = .ok (.aload_n 0, 1) := dbc_202.2.1.1.1
theorem dX5_row_54 : decode cX5_row 54 = .ok (.getfield 58, 3) := dbc_202.2.1.1.2
theorem dX5_row_57 : decode cX5_row 57 = .ok (.ireturn, 1) := dbc_202.2.1.2.1
theorem dX5_judge_0 : decode cX5_judge 0 = .ok (.aload_n 0, 1) := dbc_202.2.1.2.2
theorem dX5_judge_1 : decode cX5_judge 1 = .ok (.getfield 58, 3) := dbc_202.2.2.1.1
theorem dX5_judge_4 : decode cX5_judge 4 = .ok (.istore_n 1, 1) := dbc_202.2.2.1.2
theorem dX5_judge_5 : decode cX5_judge 5 = .ok (.aload_n 0, 1) := dbc_202.2.2.2.1
theorem dX5_judge_6 : decode cX5_judge 6 = .ok (.iconst 0, 1) := dbc_202.2.2.2.2
theorem dbc_203 : (((((decode cX5_judge 7 = .ok (.putfield 58, 3)) ∧ (decode cX5_judge 10 = .ok (.iconst 0, 1))) ∧ ((decode cX5_judge 11 = .ok (.istore_n 2, 1)) ∧ (decode cX5_judge 12 = .ok (.iload_n 2, 1)))) ∧ (((decode cX5_judge 13 = .ok (.iload_n 1, 1)) ∧ (decode cX5_judge 14 = .ok (.if_icmp .ge 45, 3))) ∧ ((decode cX5_judge 17 = .ok (.aload_n 0, 1)) ∧ (decode cX5_judge 18 = .ok (.getfield 12, 3))))) ∧ ((((decode cX5_judge 21 = .ok (.iload_n 2, 1)) ∧ (decode cX5_judge 22 = .ok (.invokevirtual 90, 3))) ∧ ((decode cX5_judge 25 = .ok (.ifCond .ne 5, 3)) ∧ (decode cX5_judge 28 = .ok (.iload_n 2, 1)))) ∧ (((decode cX5_judge 29 = .ok (.ireturn, 1)) ∧ (decode cX5_judge 30 = .ok (.aload_n 0, 1))) ∧ ((decode cX5_judge 31 = .ok (.getfield 12, 3)) ∧ (decode cX5_judge 34 = .ok (.iload_n 2, 1)))))) := by decide +kernel
theorem dX5_judge_7 : decode cX5_judge 7 = .ok (.putfield 58, 3) := dbc_203.1.1.1.1
theorem dX5_judge_10 : decode cX5_judge 10 = .ok (.iconst 0, 1) := dbc_203.1.1.1.2
theorem dX5_judge_11 : decode cX5_judge 11 = .ok (.istore_n 2, 1) := dbc_203.1.1.2.1
theorem dX5_judge_12 : decode cX5_judge 12 = .ok (.iload_n 2, 1) := dbc_203.1.1.2.2
theorem dX5_judge_13 : decode cX5_judge 13 = .ok (.iload_n 1, 1) := dbc_203.1.2.1.1
theorem dX5_judge_14 : decode cX5_judge 14 = .ok (.if_icmp .ge 45, 3) := dbc_203.1.2.1.2
theorem dX5_judge_17 : decode cX5_judge 17 = .ok (.aload_n 0, 1) := dbc_203.1.2.2.1
theorem dX5_judge_18 : decode cX5_judge 18 = .ok (.getfield 12, 3) := dbc_203.1.2.2.2
theorem dX5_judge_21 : decode cX5_judge 21 = .ok (.iload_n 2, 1) := dbc_203.2.1.1.1
theorem dX5_judge_22 : decode cX5_judge 22 = .ok (.invokevirtual 90, 3) := dbc_203.2.1.1.2
theorem dX5_judge_25 : decode cX5_judge 25 = .ok (.ifCond .ne 5, 3) := dbc_203.2.1.2.1
theorem dX5_judge_28 : decode cX5_judge 28 = .ok (.iload_n 2, 1) := dbc_203.2.1.2.2
theorem dX5_judge_29 : decode cX5_judge 29 = .ok (.ireturn, 1) := dbc_203.2.2.1.1
theorem dX5_judge_30 : decode cX5_judge 30 = .ok (.aload_n 0, 1) := dbc_203.2.2.1.2
theorem dX5_judge_31 : decode cX5_judge 31 = .ok (.getfield 12, 3) := dbc_203.2.2.2.1
theorem dX5_judge_34 : decode cX5_judge 34 = .ok (.iload_n 2, 1) := dbc_203.2.2.2.2
theorem dbc_204 : (((((decode cX5_judge 35 = .ok (.iconst 0, 1)) ∧ (decode cX5_judge 36 = .ok (.invokevirtual 113, 3))) ∧ ((decode cX5_judge 39 = .ok (.invokestatic 239, 3)) ∧ (decode cX5_judge 42 = .ok (.aload_n 0, 1)))) ∧ (((decode cX5_judge 43 = .ok (.getfield 54, 3)) ∧ (decode cX5_judge 46 = .ok (.iload_n 2, 1))) ∧ ((decode cX5_judge 47 = .ok (.iaload, 1)) ∧ (decode cX5_judge 48 = .ok (.if_icmp .eq 5, 3))))) ∧ ((((decode cX5_judge 51 = .ok (.iload_n 2, 1)) ∧ (decode cX5_judge 52 = .ok (.ireturn, 1))) ∧ ((decode cX5_judge 53 = .ok (.iinc 2 1, 3)) ∧ (decode cX5_judge 56 = .ok (.goto (-44), 3)))) ∧ (((decode cX5_judge 59 = .ok (.bipush (-9), 2)) ∧ (decode cX5_judge 61 = .ok (.ireturn, 1))) ∧ ((decode cX5_empties 0 = .ok (.aload_n 0, 1)) ∧ (decode cX5_empties 1 = .ok (.getfield 58, 3)))))) := by decide +kernel
theorem dX5_judge_35 : decode cX5_judge 35 = .ok (.iconst 0, 1) := dbc_204.1.1.1.1
theorem dX5_judge_36 : decode cX5_judge 36 = .ok (.invokevirtual 113, 3) := dbc_204.1.1.1.2
theorem dX5_judge_39 : decode cX5_judge 39 = .ok (.invokestatic 239, 3) := dbc_204.1.1.2.1
theorem dX5_judge_42 : decode cX5_judge 42 = .ok (.aload_n 0, 1) := dbc_204.1.1.2.2
theorem dX5_judge_43 : decode cX5_judge 43 = .ok (.getfield 54, 3) := dbc_204.1.2.1.1
theorem dX5_judge_46 : decode cX5_judge 46 = .ok (.iload_n 2, 1) := dbc_204.1.2.1.2
theorem dX5_judge_47 : decode cX5_judge 47 = .ok (.iaload, 1) := dbc_204.1.2.2.1
theorem dX5_judge_48 : decode cX5_judge 48 = .ok (.if_icmp .eq 5, 3) := dbc_204.1.2.2.2
theorem dX5_judge_51 : decode cX5_judge 51 = .ok (.iload_n 2, 1) := dbc_204.2.1.1.1
theorem dX5_judge_52 : decode cX5_judge 52 = .ok (.ireturn, 1) := dbc_204.2.1.1.2
theorem dX5_judge_53 : decode cX5_judge 53 = .ok (.iinc 2 1, 3) := dbc_204.2.1.2.1
theorem dX5_judge_56 : decode cX5_judge 56 = .ok (.goto (-44), 3) := dbc_204.2.1.2.2
theorem dX5_judge_59 : decode cX5_judge 59 = .ok (.bipush (-9), 2) := dbc_204.2.2.1.1
theorem dX5_judge_61 : decode cX5_judge 61 = .ok (.ireturn, 1) := dbc_204.2.2.1.2
theorem dX5_empties_0 : decode cX5_empties 0 = .ok (.aload_n 0, 1) := dbc_204.2.2.2.1
theorem dX5_empties_1 : decode cX5_empties 1 = .ok (.getfield 58, 3) := dbc_204.2.2.2.2
theorem dbc_205 : (((((decode cX5_empties 4 = .ok (.istore_n 1, 1)) ∧ (decode cX5_empties 5 = .ok (.aload_n 0, 1))) ∧ ((decode cX5_empties 6 = .ok (.iconst 0, 1)) ∧ (decode cX5_empties 7 = .ok (.putfield 58, 3)))) ∧ (((decode cX5_empties 10 = .ok (.iload_n 1, 1)) ∧ (decode cX5_empties 11 = .ok (.ireturn, 1))) ∧ ((decode cX5_lots 0 = .ok (.iload_n 1, 1)) ∧ (decode cX5_lots 1 = .ok (.iconst 1, 1))))) ∧ ((((decode cX5_lots 2 = .ok (.if_icmp .ge 10, 3)) ∧ (decode cX5_lots 5 = .ok (.aload_n 0, 1))) ∧ ((decode cX5_lots 6 = .ok (.bipush (-4), 2)) ∧ (decode cX5_lots 8 = .ok (.invokevirtual 65, 3)))) ∧ (((decode cX5_lots 11 = .ok (.ireturn, 1)) ∧ (decode cX5_lots 12 = .ok (.iload_n 1, 1))) ∧ ((decode cX5_lots 13 = .ok (.bipush 20, 2)) ∧ (decode cX5_lots 15 = .ok (.if_icmp .le 10, 3)))))) := by decide +kernel
theorem dX5_empties_4 : decode cX5_empties 4 = .ok (.istore_n 1, 1) := dbc_205.1.1.1.1
theorem dX5_empties_5 : decode cX5_empties 5 = .ok (.aload_n 0, 1) := dbc_205.1.1.1.2
theorem dX5_empties_6 : decode cX5_empties 6 = .ok (.iconst 0, 1) := dbc_205.1.1.2.1
theorem dX5_empties_7 : decode cX5_empties 7 = .ok (.putfield 58, 3) := dbc_205.1.1.2.2
theorem dX5_empties_10 : decode cX5_empties 10 = .ok (.iload_n 1, 1) := dbc_205.1.2.1.1
theorem dX5_empties_11 : decode cX5_empties 11 = .ok (.ireturn, 1) := dbc_205.1.2.1.2
theorem dX5_lots_0 : decode cX5_lots 0 = .ok (.iload_n 1, 1) := dbc_205.1.2.2.1
theorem dX5_lots_1 : decode cX5_lots 1 = .ok (.iconst 1, 1) := dbc_205.1.2.2.2
theorem dX5_lots_2 : decode cX5_lots 2 = .ok (.if_icmp .ge 10, 3) := dbc_205.2.1.1.1
theorem dX5_lots_5 : decode cX5_lots 5 = .ok (.aload_n 0, 1) := dbc_205.2.1.1.2
theorem dX5_lots_6 : decode cX5_lots 6 = .ok (.bipush (-4), 2) := dbc_205.2.1.2.1
theorem dX5_lots_8 : decode cX5_lots 8 = .ok (.invokevirtual 65, 3) := dbc_205.2.1.2.2
theorem dX5_lots_11 : decode cX5_lots 11 = .ok (.ireturn, 1) := dbc_205.2.2.1.1
theorem dX5_lots_12 : decode cX5_lots 12 = .ok (.iload_n 1, 1) := dbc_205.2.2.1.2
theorem dX5_lots_13 : decode cX5_lots 13 = .ok (.bipush 20, 2) := dbc_205.2.2.2.1
theorem dX5_lots_15 : decode cX5_lots 15 = .ok (.if_icmp .le 10, 3) := dbc_205.2.2.2.2
theorem dbc_206 : (((((decode cX5_lots 18 = .ok (.aload_n 0, 1)) ∧ (decode cX5_lots 19 = .ok (.bipush (-6), 2))) ∧ ((decode cX5_lots 21 = .ok (.invokevirtual 65, 3)) ∧ (decode cX5_lots 24 = .ok (.ireturn, 1)))) ∧ (((decode cX5_lots 25 = .ok (.iload_n 3, 1)) ∧ (decode cX5_lots 26 = .ok (.ifCond .eq 15, 3))) ∧ ((decode cX5_lots 29 = .ok (.iload_n 3, 1)) ∧ (decode cX5_lots 30 = .ok (.iconst 1, 1))))) ∧ ((((decode cX5_lots 31 = .ok (.if_icmp .eq 10, 3)) ∧ (decode cX5_lots 34 = .ok (.aload_n 0, 1))) ∧ ((decode cX5_lots 35 = .ok (.bipush (-2), 2)) ∧ (decode cX5_lots 37 = .ok (.invokevirtual 65, 3)))) ∧ (((decode cX5_lots 40 = .ok (.ireturn, 1)) ∧ (decode cX5_lots 41 = .ok (.iconst 0, 1))) ∧ ((decode cX5_lots 42 = .ok (.istore 4, 2)) ∧ (decode cX5_lots 44 = .ok (.iload_n 2, 1)))))) := by decide +kernel
theorem dX5_lots_18 : decode cX5_lots 18 = .ok (.aload_n 0, 1) := dbc_206.1.1.1.1
theorem dX5_lots_19 : decode cX5_lots 19 = .ok (.bipush (-6), 2) := dbc_206.1.1.1.2
theorem dX5_lots_21 : decode cX5_lots 21 = .ok (.invokevirtual 65, 3) := dbc_206.1.1.2.1
theorem dX5_lots_24 : decode cX5_lots 24 = .ok (.ireturn, 1) := dbc_206.1.1.2.2
theorem dX5_lots_25 : decode cX5_lots 25 = .ok (.iload_n 3, 1) := dbc_206.1.2.1.1
theorem dX5_lots_26 : decode cX5_lots 26 = .ok (.ifCond .eq 15, 3) := dbc_206.1.2.1.2
theorem dX5_lots_29 : decode cX5_lots 29 = .ok (.iload_n 3, 1) := dbc_206.1.2.2.1
theorem dX5_lots_30 : decode cX5_lots 30 = .ok (.iconst 1, 1) := dbc_206.1.2.2.2
theorem dX5_lots_31 : decode cX5_lots 31 = .ok (.if_icmp .eq 10, 3) := dbc_206.2.1.1.1
theorem dX5_lots_34 : decode cX5_lots 34 = .ok (.aload_n 0, 1) := dbc_206.2.1.1.2
theorem dX5_lots_35 : decode cX5_lots 35 = .ok (.bipush (-2), 2) := dbc_206.2.1.2.1
theorem dX5_lots_37 : decode cX5_lots 37 = .ok (.invokevirtual 65, 3) := dbc_206.2.1.2.2
theorem dX5_lots_40 : decode cX5_lots 40 = .ok (.ireturn, 1) := dbc_206.2.2.1.1
theorem dX5_lots_41 : decode cX5_lots 41 = .ok (.iconst 0, 1) := dbc_206.2.2.1.2
theorem dX5_lots_42 : decode cX5_lots 42 = .ok (.istore 4, 2) := dbc_206.2.2.2.1
theorem dX5_lots_44 : decode cX5_lots 44 = .ok (.iload_n 2, 1) := dbc_206.2.2.2.2
theorem dbc_207 : (((((decode cX5_lots 45 = .ok (.istore 5, 2)) ∧ (decode cX5_lots 47 = .ok (.aload_n 0, 1))) ∧ ((decode cX5_lots 48 = .ok (.getfield 16, 3)) ∧ (decode cX5_lots 51 = .ok (.aload_n 0, 1)))) ∧ (((decode cX5_lots 52 = .ok (.getfield 12, 3)) ∧ (decode cX5_lots 55 = .ok (.invokevirtual 76, 3))) ∧ ((decode cX5_lots 58 = .ok (.iconst 0, 1)) ∧ (decode cX5_lots 59 = .ok (.istore 6, 2))))) ∧ ((((decode cX5_lots 61 = .ok (.iload 6, 2)) ∧ (decode cX5_lots 63 = .ok (.iload_n 1, 1))) ∧ ((decode cX5_lots 64 = .ok (.if_icmp .ge 104, 3)) ∧ (decode cX5_lots 67 = .ok (.iconst 0, 1)))) ∧ (((decode cX5_lots 68 = .ok (.istore 7, 2)) ∧ (decode cX5_lots 70 = .ok (.iload 7, 2))) ∧ ((decode cX5_lots 72 = .ok (.aload_n 0, 1)) ∧ (decode cX5_lots 73 = .ok (.getfield 16, 3)))))) := by decide +kernel
theorem dX5_lots_45 : decode cX5_lots 45 = .ok (.istore 5, 2) := dbc_207.1.1.1.1
theorem dX5_lots_47 : decode cX5_lots 47 = .ok (.aload_n 0, 1) := dbc_207.1.1.1.2
theorem dX5_lots_48 : decode cX5_lots 48 = .ok (.getfield 16, 3) := dbc_207.1.1.2.1
theorem dX5_lots_51 : decode cX5_lots 51 = .ok (.aload_n 0, 1) := dbc_207.1.1.2.2
theorem dX5_lots_52 : decode cX5_lots 52 = .ok (.getfield 12, 3) := dbc_207.1.2.1.1
theorem dX5_lots_55 : decode cX5_lots 55 = .ok (.invokevirtual 76, 3) := dbc_207.1.2.1.2
theorem dX5_lots_58 : decode cX5_lots 58 = .ok (.iconst 0, 1) := dbc_207.1.2.2.1
theorem dX5_lots_59 : decode cX5_lots 59 = .ok (.istore 6, 2) := dbc_207.1.2.2.2
theorem dX5_lots_61 : decode cX5_lots 61 = .ok (.iload 6, 2) := dbc_207.2.1.1.1
theorem dX5_lots_63 : decode cX5_lots 63 = .ok (.iload_n 1, 1) := dbc_207.2.1.1.2
theorem dX5_lots_64 : decode cX5_lots 64 = .ok (.if_icmp .ge 104, 3) := dbc_207.2.1.2.1
theorem dX5_lots_67 : decode cX5_lots 67 = .ok (.iconst 0, 1) := dbc_207.2.1.2.2
theorem dX5_lots_68 : decode cX5_lots 68 = .ok (.istore 7, 2) := dbc_207.2.2.1.1
theorem dX5_lots_70 : decode cX5_lots 70 = .ok (.iload 7, 2) := dbc_207.2.2.1.2
theorem dX5_lots_72 : decode cX5_lots 72 = .ok (.aload_n 0, 1) := dbc_207.2.2.2.1
theorem dX5_lots_73 : decode cX5_lots 73 = .ok (.getfield 16, 3) := dbc_207.2.2.2.2
theorem dbc_208 : (((((decode cX5_lots 76 = .ok (.getfield 158, 3)) ∧ (decode cX5_lots 79 = .ok (.if_icmp .ge 53, 3))) ∧ ((decode cX5_lots 82 = .ok (.iload 5, 2)) ∧ (decode cX5_lots 84 = .ok (.invokestatic 293, 3)))) ∧ (((decode cX5_lots 87 = .ok (.istore 5, 2)) ∧ (decode cX5_lots 89 = .ok (.aload_n 0, 1))) ∧ ((decode cX5_lots 90 = .ok (.getfield 16, 3)) ∧ (decode cX5_lots 93 = .ok (.getfield 122, 3))))) ∧ ((((decode cX5_lots 96 = .ok (.iload 7, 2)) ∧ (decode cX5_lots 98 = .ok (.iload 5, 2))) ∧ ((decode cX5_lots 100 = .ok (.invokestatic 296, 3)) ∧ (decode cX5_lots 103 = .ok (.iastore, 1)))) ∧ (((decode cX5_lots 104 = .ok (.iload 5, 2)) ∧ (decode cX5_lots 106 = .ok (.invokestatic 293, 3))) ∧ ((decode cX5_lots 109 = .ok (.istore 5, 2)) ∧ (decode cX5_lots 111 = .ok (.aload_n 0, 1)))))) := by decide +kernel
theorem dX5_lots_76 : decode cX5_lots 76 = .ok (.getfield 158, 3) := dbc_208.1.1.1.1
theorem dX5_lots_79 : decode cX5_lots 79 = .ok (.if_icmp .ge 53, 3) := dbc_208.1.1.1.2
theorem dX5_lots_82 : decode cX5_lots 82 = .ok (.iload 5, 2) := dbc_208.1.1.2.1
theorem dX5_lots_84 : decode cX5_lots 84 = .ok (.invokestatic 293, 3) := dbc_208.1.1.2.2
theorem dX5_lots_87 : decode cX5_lots 87 = .ok (.istore 5, 2) := dbc_208.1.2.1.1
theorem dX5_lots_89 : decode cX5_lots 89 = .ok (.aload_n 0, 1) := dbc_208.1.2.1.2
theorem dX5_lots_90 : decode cX5_lots 90 = .ok (.getfield 16, 3) := dbc_208.1.2.2.1
theorem dX5_lots_93 : decode cX5_lots 93 = .ok (.getfield 122, 3) := dbc_208.1.2.2.2
theorem dX5_lots_96 : decode cX5_lots 96 = .ok (.iload 7, 2) := dbc_208.2.1.1.1
theorem dX5_lots_98 : decode cX5_lots 98 = .ok (.iload 5, 2) := dbc_208.2.1.1.2
theorem dX5_lots_100 : decode cX5_lots 100 = .ok (.invokestatic 296, 3) := dbc_208.2.1.2.1
theorem dX5_lots_103 : decode cX5_lots 103 = .ok (.iastore, 1) := dbc_208.2.1.2.2
theorem dX5_lots_104 : decode cX5_lots 104 = .ok (.iload 5, 2) := dbc_208.2.2.1.1
theorem dX5_lots_106 : decode cX5_lots 106 = .ok (.invokestatic 293, 3) := dbc_208.2.2.1.2
theorem dX5_lots_109 : decode cX5_lots 109 = .ok (.istore 5, 2) := dbc_208.2.2.2.1
theorem dX5_lots_111 : decode cX5_lots 111 = .ok (.aload_n 0, 1) := dbc_208.2.2.2.2
theorem dbc_209 : (((((decode cX5_lots 112 = .ok (.getfield 16, 3)) ∧ (decode cX5_lots 115 = .ok (.getfield 125, 3))) ∧ ((decode cX5_lots 118 = .ok (.iload 7, 2)) ∧ (decode cX5_lots 120 = .ok (.iload 5, 2)))) ∧ (((decode cX5_lots 122 = .ok (.invokestatic 296, 3)) ∧ (decode cX5_lots 125 = .ok (.iastore, 1))) ∧ ((decode cX5_lots 126 = .ok (.iinc 7 1, 3)) ∧ (decode cX5_lots 129 = .ok (.goto (-59), 3))))) ∧ ((((decode cX5_lots 132 = .ok (.iload 4, 2)) ∧ (decode cX5_lots 134 = .ok (.iload_n 3, 1))) ∧ ((decode cX5_lots 135 = .ok (.ifCond .ne 15, 3)) ∧ (decode cX5_lots 138 = .ok (.aload_n 0, 1)))) ∧ (((decode cX5_lots 139 = .ok (.getfield 16, 3)) ∧ (decode cX5_lots 142 = .ok (.bipush 12, 2))) ∧ ((decode cX5_lots 144 = .ok (.invokevirtual 186, 3)) ∧ (decode cX5_lots 147 = .ok (.goto 12, 3)))))) := by decide +kernel
theorem dX5_lots_112 : decode cX5_lots 112 = .ok (.getfield 16, 3) := dbc_209.1.1.1.1
theorem dX5_lots_115 : decode cX5_lots 115 = .ok (.getfield 125, 3) := dbc_209.1.1.1.2
theorem dX5_lots_118 : decode cX5_lots 118 = .ok (.iload 7, 2) := dbc_209.1.1.2.1
theorem dX5_lots_120 : decode cX5_lots 120 = .ok (.iload 5, 2) := dbc_209.1.1.2.2
theorem dX5_lots_122 : decode cX5_lots 122 = .ok (.invokestatic 296, 3) := dbc_209.1.2.1.1
theorem dX5_lots_125 : decode cX5_lots 125 = .ok (.iastore, 1) := dbc_209.1.2.1.2
theorem dX5_lots_126 : decode cX5_lots 126 = .ok (.iinc 7 1, 3) := dbc_209.1.2.2.1
theorem dX5_lots_129 : decode cX5_lots 129 = .ok (.goto (-59), 3) := dbc_209.1.2.2.2
theorem dX5_lots_132 : decode cX5_lots 132 = .ok (.iload 4, 2) := dbc_209.2.1.1.1
theorem dX5_lots_134 : decode cX5_lots 134 = .ok (.iload_n 3, 1) := dbc_209.2.1.1.2
theorem dX5_lots_135 : decode cX5_lots 135 = .ok (.ifCond .ne 15, 3) := dbc_209.2.1.2.1
theorem dX5_lots_138 : decode cX5_lots 138 = .ok (.aload_n 0, 1) := dbc_209.2.1.2.2
theorem dX5_lots_139 : decode cX5_lots 139 = .ok (.getfield 16, 3) := dbc_209.2.2.1.1
theorem dX5_lots_142 : decode cX5_lots 142 = .ok (.bipush 12, 2) := dbc_209.2.2.1.2
theorem dX5_lots_144 : decode cX5_lots 144 = .ok (.invokevirtual 186, 3) := dbc_209.2.2.2.1
theorem dX5_lots_147 : decode cX5_lots 147 = .ok (.goto 12, 3) := dbc_209.2.2.2.2
theorem dbc_210 : (((((decode cX5_lots 150 = .ok (.aload_n 0, 1)) ∧ (decode cX5_lots 151 = .ok (.getfield 16, 3))) ∧ ((decode cX5_lots 154 = .ok (.bipush 12, 2)) ∧ (decode cX5_lots 156 = .ok (.invokevirtual 198, 3)))) ∧ (((decode cX5_lots 159 = .ok (.iadd, 1)) ∧ (decode cX5_lots 160 = .ok (.istore 4, 2))) ∧ ((decode cX5_lots 162 = .ok (.iinc 6 1, 3)) ∧ (decode cX5_lots 165 = .ok (.goto (-104), 3))))) ∧ ((((decode cX5_lots 168 = .ok (.iload 4, 2)) ∧ (decode cX5_lots 170 = .ok (.ireturn, 1))) ∧ ((decode cX5_image 0 = .ok (.aload_n 0, 1)) ∧ (decode cX5_image 1 = .ok (.getfield 19, 3)))) ∧ (((decode cX5_image 4 = .ok (.aload_n 0, 1)) ∧ (decode cX5_image 5 = .ok (.getfield 12, 3))) ∧ ((decode cX5_image 8 = .ok (.invokevirtual 76, 3)) ∧ (decode cX5_image 11 = .ok (.aload_n 0, 1)))))) := by decide +kernel
theorem dX5_lots_150 : decode cX5_lots 150 = .ok (.aload_n 0, 1) := dbc_210.1.1.1.1
theorem dX5_lots_151 : decode cX5_lots 151 = .ok (.getfield 16, 3) := dbc_210.1.1.1.2
theorem dX5_lots_154 : decode cX5_lots 154 = .ok (.bipush 12, 2) := dbc_210.1.1.2.1
theorem dX5_lots_156 : decode cX5_lots 156 = .ok (.invokevirtual 198, 3) := dbc_210.1.1.2.2
theorem dX5_lots_159 : decode cX5_lots 159 = .ok (.iadd, 1) := dbc_210.1.2.1.1
theorem dX5_lots_160 : decode cX5_lots 160 = .ok (.istore 4, 2) := dbc_210.1.2.1.2
theorem dX5_lots_162 : decode cX5_lots 162 = .ok (.iinc 6 1, 3) := dbc_210.1.2.2.1
theorem dX5_lots_165 : decode cX5_lots 165 = .ok (.goto (-104), 3) := dbc_210.1.2.2.2
theorem dX5_lots_168 : decode cX5_lots 168 = .ok (.iload 4, 2) := dbc_210.2.1.1.1
theorem dX5_lots_170 : decode cX5_lots 170 = .ok (.ireturn, 1) := dbc_210.2.1.1.2
theorem dX5_image_0 : decode cX5_image 0 = .ok (.aload_n 0, 1) := dbc_210.2.1.2.1
theorem dX5_image_1 : decode cX5_image 1 = .ok (.getfield 19, 3) := dbc_210.2.1.2.2
theorem dX5_image_4 : decode cX5_image 4 = .ok (.aload_n 0, 1) := dbc_210.2.2.1.1
theorem dX5_image_5 : decode cX5_image 5 = .ok (.getfield 12, 3) := dbc_210.2.2.1.2
theorem dX5_image_8 : decode cX5_image 8 = .ok (.invokevirtual 76, 3) := dbc_210.2.2.2.1
theorem dX5_image_11 : decode cX5_image 11 = .ok (.aload_n 0, 1) := dbc_210.2.2.2.2
theorem dbc_211 : (((((decode cX5_image 12 = .ok (.iconst 1, 1)) ∧ (decode cX5_image 13 = .ok (.putfield 22, 3))) ∧ ((decode cX5_image 16 = .ok (.aload_n 0, 1)) ∧ (decode cX5_image 17 = .ok (.getfield 12, 3)))) ∧ (((decode cX5_image 20 = .ok (.getfield 180, 3)) ∧ (decode cX5_image 23 = .ok (.ireturn, 1))) ∧ ((decode cX5_restore 0 = .ok (.aload_n 0, 1)) ∧ (decode cX5_restore 1 = .ok (.getfield 22, 3))))) ∧ ((((decode cX5_restore 4 = .ok (.ifCond .ne 10, 3)) ∧ (decode cX5_restore 7 = .ok (.aload_n 0, 1))) ∧ ((decode cX5_restore 8 = .ok (.bipush (-3), 2)) ∧ (decode cX5_restore 10 = .ok (.invokevirtual 65, 3)))) ∧ (((decode cX5_restore 13 = .ok (.ireturn, 1)) ∧ (decode cX5_restore 14 = .ok (.aload_n 0, 1))) ∧ ((decode cX5_restore 15 = .ok (.getfield 12, 3)) ∧ (decode cX5_restore 18 = .ok (.aload_n 0, 1)))))) := by decide +kernel
theorem dX5_image_12 : decode cX5_image 12 = .ok (.iconst 1, 1) := dbc_211.1.1.1.1
theorem dX5_image_13 : decode cX5_image 13 = .ok (.putfield 22, 3) := dbc_211.1.1.1.2
theorem dX5_image_16 : decode cX5_image 16 = .ok (.aload_n 0, 1) := dbc_211.1.1.2.1
theorem dX5_image_17 : decode cX5_image 17 = .ok (.getfield 12, 3) := dbc_211.1.1.2.2
theorem dX5_image_20 : decode cX5_image 20 = .ok (.getfield 180, 3) := dbc_211.1.2.1.1
theorem dX5_image_23 : decode cX5_image 23 = .ok (.ireturn, 1) := dbc_211.1.2.1.2
theorem dX5_restore_0 : decode cX5_restore 0 = .ok (.aload_n 0, 1) := dbc_211.1.2.2.1
theorem dX5_restore_1 : decode cX5_restore 1 = .ok (.getfield 22, 3) := dbc_211.1.2.2.2
theorem dX5_restore_4 : decode cX5_restore 4 = .ok (.ifCond .ne 10, 3) := dbc_211.2.1.1.1
theorem dX5_restore_7 : decode cX5_restore 7 = .ok (.aload_n 0, 1) := dbc_211.2.1.1.2
theorem dX5_restore_8 : decode cX5_restore 8 = .ok (.bipush (-3), 2) := dbc_211.2.1.2.1
theorem dX5_restore_10 : decode cX5_restore 10 = .ok (.invokevirtual 65, 3) := dbc_211.2.1.2.2
theorem dX5_restore_13 : decode cX5_restore 13 = .ok (.ireturn, 1) := dbc_211.2.2.1.1
theorem dX5_restore_14 : decode cX5_restore 14 = .ok (.aload_n 0, 1) := dbc_211.2.2.1.2
theorem dX5_restore_15 : decode cX5_restore 15 = .ok (.getfield 12, 3) := dbc_211.2.2.2.1
theorem dX5_restore_18 : decode cX5_restore 18 = .ok (.aload_n 0, 1) := dbc_211.2.2.2.2
theorem dbc_212 : (((((decode cX5_restore 19 = .ok (.getfield 19, 3)) ∧ (decode cX5_restore 22 = .ok (.invokevirtual 76, 3))) ∧ ((decode cX5_restore 25 = .ok (.aload_n 0, 1)) ∧ (decode cX5_restore 26 = .ok (.getfield 29, 3)))) ∧ (((decode cX5_restore 29 = .ok (.invokevirtual 87, 3)) ∧ (decode cX5_restore 32 = .ok (.aload_n 0, 1))) ∧ ((decode cX5_restore 33 = .ok (.getfield 12, 3)) ∧ (decode cX5_restore 36 = .ok (.getfield 180, 3))))) ∧ ((((decode cX5_restore 39 = .ok (.ireturn, 1)) ∧ (decode cX5_count 0 = .ok (.iload_n 1, 1))) ∧ ((decode cX5_count 1 = .ok (.tableswitch 110 0 7 #[47, 55, 63, 71, 80, 89, 97, 102], 47)) ∧ (decode cX5_count 48 = .ok (.aload_n 0, 1)))) ∧ (((decode cX5_count 49 = .ok (.getfield 12, 3)) ∧ (decode cX5_count 52 = .ok (.getfield 148, 3))) ∧ ((decode cX5_count 55 = .ok (.ireturn, 1)) ∧ (decode cX5_count 56 = .ok (.aload_n 0, 1)))))) := by decide +kernel
theorem dX5_restore_19 : decode cX5_restore 19 = .ok (.getfield 19, 3) := dbc_212.1.1.1.1
theorem dX5_restore_22 : decode cX5_restore 22 = .ok (.invokevirtual 76, 3) := dbc_212.1.1.1.2
theorem dX5_restore_25 : decode cX5_restore 25 = .ok (.aload_n 0, 1) := dbc_212.1.1.2.1
theorem dX5_restore_26 : decode cX5_restore 26 = .ok (.getfield 29, 3) := dbc_212.1.1.2.2
theorem dX5_restore_29 : decode cX5_restore 29 = .ok (.invokevirtual 87, 3) := dbc_212.1.2.1.1
theorem dX5_restore_32 : decode cX5_restore 32 = .ok (.aload_n 0, 1) := dbc_212.1.2.1.2
theorem dX5_restore_33 : decode cX5_restore 33 = .ok (.getfield 12, 3) := dbc_212.1.2.2.1
theorem dX5_restore_36 : decode cX5_restore 36 = .ok (.getfield 180, 3) := dbc_212.1.2.2.2
theorem dX5_restore_39 : decode cX5_restore 39 = .ok (.ireturn, 1) := dbc_212.2.1.1.1
theorem dX5_count_0 : decode cX5_count 0 = .ok (.iload_n 1, 1) := dbc_212.2.1.1.2
theorem dX5_count_1 : decode cX5_count 1 = .ok (.tableswitch 110 0 7 #[47, 55, 63, 71, 80, 89, 97, 102], 47) := dbc_212.2.1.2.1
theorem dX5_count_48 : decode cX5_count 48 = .ok (.aload_n 0, 1) := dbc_212.2.1.2.2
theorem dX5_count_49 : decode cX5_count 49 = .ok (.getfield 12, 3) := dbc_212.2.2.1.1
theorem dX5_count_52 : decode cX5_count 52 = .ok (.getfield 148, 3) := dbc_212.2.2.1.2
theorem dX5_count_55 : decode cX5_count 55 = .ok (.ireturn, 1) := dbc_212.2.2.2.1
theorem dX5_count_56 : decode cX5_count 56 = .ok (.aload_n 0, 1) := dbc_212.2.2.2.2
theorem dbc_213 : (((((decode cX5_count 57 = .ok (.getfield 12, 3)) ∧ (decode cX5_count 60 = .ok (.getfield 158, 3))) ∧ ((decode cX5_count 63 = .ok (.ireturn, 1)) ∧ (decode cX5_count 64 = .ok (.aload_n 0, 1)))) ∧ (((decode cX5_count 65 = .ok (.getfield 12, 3)) ∧ (decode cX5_count 68 = .ok (.getfield 180, 3))) ∧ ((decode cX5_count 71 = .ok (.ireturn, 1)) ∧ (decode cX5_count 72 = .ok (.aload_n 0, 1))))) ∧ ((((decode cX5_count 73 = .ok (.getfield 12, 3)) ∧ (decode cX5_count 76 = .ok (.iconst 0, 1))) ∧ ((decode cX5_count 77 = .ok (.invokevirtual 186, 3)) ∧ (decode cX5_count 80 = .ok (.ireturn, 1)))) ∧ (((decode cX5_count 81 = .ok (.aload_n 0, 1)) ∧ (decode cX5_count 82 = .ok (.getfield 12, 3))) ∧ ((decode cX5_count 85 = .ok (.iconst 0, 1)) ∧ (decode cX5_count 86 = .ok (.invokevirtual 198, 3)))))) := by decide +kernel
theorem dX5_count_57 : decode cX5_count 57 = .ok (.getfield 12, 3) := dbc_213.1.1.1.1
theorem dX5_count_60 : decode cX5_count 60 = .ok (.getfield 158, 3) := dbc_213.1.1.1.2
theorem dX5_count_63 : decode cX5_count 63 = .ok (.ireturn, 1) := dbc_213.1.1.2.1
theorem dX5_count_64 : decode cX5_count 64 = .ok (.aload_n 0, 1) := dbc_213.1.1.2.2
theorem dX5_count_65 : decode cX5_count 65 = .ok (.getfield 12, 3) := dbc_213.1.2.1.1
theorem dX5_count_68 : decode cX5_count 68 = .ok (.getfield 180, 3) := dbc_213.1.2.1.2
theorem dX5_count_71 : decode cX5_count 71 = .ok (.ireturn, 1) := dbc_213.1.2.2.1
theorem dX5_count_72 : decode cX5_count 72 = .ok (.aload_n 0, 1) := dbc_213.1.2.2.2
theorem dX5_count_73 : decode cX5_count 73 = .ok (.getfield 12, 3) := dbc_213.2.1.1.1
theorem dX5_count_76 : decode cX5_count 76 = .ok (.iconst 0, 1) := dbc_213.2.1.1.2
theorem dX5_count_77 : decode cX5_count 77 = .ok (.invokevirtual 186, 3) := dbc_213.2.1.2.1
theorem dX5_count_80 : decode cX5_count 80 = .ok (.ireturn, 1) := dbc_213.2.1.2.2
theorem dX5_count_81 : decode cX5_count 81 = .ok (.aload_n 0, 1) := dbc_213.2.2.1.1
theorem dX5_count_82 : decode cX5_count 82 = .ok (.getfield 12, 3) := dbc_213.2.2.1.2
theorem dX5_count_85 : decode cX5_count 85 = .ok (.iconst 0, 1) := dbc_213.2.2.2.1
theorem dX5_count_86 : decode cX5_count 86 = .ok (.invokevirtual 198, 3) := dbc_213.2.2.2.2
theorem dbc_214 : (((((decode cX5_count 89 = .ok (.ireturn, 1)) ∧ (decode cX5_count 90 = .ok (.aload_n 0, 1))) ∧ ((decode cX5_count 91 = .ok (.getfield 36, 3)) ∧ (decode cX5_count 94 = .ok (.getfield 299, 3)))) ∧ (((decode cX5_count 97 = .ok (.ireturn, 1)) ∧ (decode cX5_count 98 = .ok (.aload_n 0, 1))) ∧ ((decode cX5_count 99 = .ok (.getfield 58, 3)) ∧ (decode cX5_count 102 = .ok (.ireturn, 1))))) ∧ ((((decode cX5_count 103 = .ok (.aload_n 0, 1)) ∧ (decode cX5_count 104 = .ok (.getfield 29, 3))) ∧ ((decode cX5_count 107 = .ok (.getfield 189, 3)) ∧ (decode cX5_count 110 = .ok (.ireturn, 1)))) ∧ (((decode cX5_count 111 = .ok (.iload_n 1, 1)) ∧ (decode cX5_count 112 = .ok (.bipush 11, 2))) ∧ ((decode cX5_count 114 = .ok (.if_icmp .lt 21, 3)) ∧ (decode cX5_count 117 = .ok (.iload_n 1, 1)))))) := by decide +kernel
theorem dX5_count_89 : decode cX5_count 89 = .ok (.ireturn, 1) := dbc_214.1.1.1.1
theorem dX5_count_90 : decode cX5_count 90 = .ok (.aload_n 0, 1) := dbc_214.1.1.1.2
theorem dX5_count_91 : decode cX5_count 91 = .ok (.getfield 36, 3) := dbc_214.1.1.2.1
theorem dX5_count_94 : decode cX5_count 94 = .ok (.getfield 299, 3) := dbc_214.1.1.2.2
theorem dX5_count_97 : decode cX5_count 97 = .ok (.ireturn, 1) := dbc_214.1.2.1.1
theorem dX5_count_98 : decode cX5_count 98 = .ok (.aload_n 0, 1) := dbc_214.1.2.1.2
theorem dX5_count_99 : decode cX5_count 99 = .ok (.getfield 58, 3) := dbc_214.1.2.2.1
theorem dX5_count_102 : decode cX5_count 102 = .ok (.ireturn, 1) := dbc_214.1.2.2.2
theorem dX5_count_103 : decode cX5_count 103 = .ok (.aload_n 0, 1) := dbc_214.2.1.1.1
theorem dX5_count_104 : decode cX5_count 104 = .ok (.getfield 29, 3) := dbc_214.2.1.1.2
theorem dX5_count_107 : decode cX5_count 107 = .ok (.getfield 189, 3) := dbc_214.2.1.2.1
theorem dX5_count_110 : decode cX5_count 110 = .ok (.ireturn, 1) := dbc_214.2.1.2.2
theorem dX5_count_111 : decode cX5_count 111 = .ok (.iload_n 1, 1) := dbc_214.2.2.1.1
theorem dX5_count_112 : decode cX5_count 112 = .ok (.bipush 11, 2) := dbc_214.2.2.1.2
theorem dX5_count_114 : decode cX5_count 114 = .ok (.if_icmp .lt 21, 3) := dbc_214.2.2.2.1
theorem dX5_count_117 : decode cX5_count 117 = .ok (.iload_n 1, 1) := dbc_214.2.2.2.2
theorem dbc_215 : (((((decode cX5_count 118 = .ok (.bipush 16, 2)) ∧ (decode cX5_count 120 = .ok (.if_icmp .gt 15, 3))) ∧ ((decode cX5_count 123 = .ok (.aload_n 0, 1)) ∧ (decode cX5_count 124 = .ok (.getfield 62, 3)))) ∧ (((decode cX5_count 127 = .ok (.iload_n 1, 1)) ∧ (decode cX5_count 128 = .ok (.bipush 10, 2))) ∧ ((decode cX5_count 130 = .ok (.isub, 1)) ∧ (decode cX5_count 131 = .ok (.iaload, 1))))) ∧ ((((decode cX5_count 132 = .ok (.goto 5, 3)) ∧ (decode cX5_count 135 = .ok (.bipush (-9), 2))) ∧ ((decode cX5_count 137 = .ok (.ireturn, 1)) ∧ (decode cX5_refuse 0 = .ok (.aload_n 0, 1)))) ∧ (((decode cX5_refuse 1 = .ok (.getfield 62, 3)) ∧ (decode cX5_refuse 4 = .ok (.iload_n 1, 1))) ∧ ((decode cX5_refuse 5 = .ok (.ineg, 1)) ∧ (decode cX5_refuse 6 = .ok (.dup2, 1)))))) := by decide +kernel
theorem dX5_count_118 : decode cX5_count 118 = .ok (.bipush 16, 2) := dbc_215.1.1.1.1
theorem dX5_count_120 : decode cX5_count 120 = .ok (.if_icmp .gt 15, 3) := dbc_215.1.1.1.2
theorem dX5_count_123 : decode cX5_count 123 = .ok (.aload_n 0, 1) := dbc_215.1.1.2.1
theorem dX5_count_124 : decode cX5_count 124 = .ok (.getfield 62, 3) := dbc_215.1.1.2.2
theorem dX5_count_127 : decode cX5_count 127 = .ok (.iload_n 1, 1) := dbc_215.1.2.1.1
theorem dX5_count_128 : decode cX5_count 128 = .ok (.bipush 10, 2) := dbc_215.1.2.1.2
theorem dX5_count_130 : decode cX5_count 130 = .ok (.isub, 1) := dbc_215.1.2.2.1
theorem dX5_count_131 : decode cX5_count 131 = .ok (.iaload, 1) := dbc_215.1.2.2.2
theorem dX5_count_132 : decode cX5_count 132 = .ok (.goto 5, 3) := dbc_215.2.1.1.1
theorem dX5_count_135 : decode cX5_count 135 = .ok (.bipush (-9), 2) := dbc_215.2.1.1.2
theorem dX5_count_137 : decode cX5_count 137 = .ok (.ireturn, 1) := dbc_215.2.1.2.1
theorem dX5_refuse_0 : decode cX5_refuse 0 = .ok (.aload_n 0, 1) := dbc_215.2.1.2.2
theorem dX5_refuse_1 : decode cX5_refuse 1 = .ok (.getfield 62, 3) := dbc_215.2.2.1.1
theorem dX5_refuse_4 : decode cX5_refuse 4 = .ok (.iload_n 1, 1) := dbc_215.2.2.1.2
theorem dX5_refuse_5 : decode cX5_refuse 5 = .ok (.ineg, 1) := dbc_215.2.2.2.1
theorem dX5_refuse_6 : decode cX5_refuse 6 = .ok (.dup2, 1) := dbc_215.2.2.2.2
theorem dbc_216 : (((((decode cX5_refuse 7 = .ok (.iaload, 1)) ∧ (decode cX5_refuse 8 = .ok (.iconst 1, 1))) ∧ ((decode cX5_refuse 9 = .ok (.iadd, 1)) ∧ (decode cX5_refuse 10 = .ok (.iastore, 1)))) ∧ (((decode cX5_refuse 11 = .ok (.iload_n 1, 1)) ∧ (decode cX5_refuse 12 = .ok (.ireturn, 1))) ∧ ((decode cX5_refuseLong 0 = .ok (.ldc2_w 300, 3)) ∧ (decode cX5_refuseLong 3 = .ok (.aload_n 0, 1))))) ∧ ((((decode cX5_refuseLong 4 = .ok (.iload_n 1, 1)) ∧ (decode cX5_refuseLong 5 = .ok (.invokevirtual 65, 3))) ∧ ((decode cX5_refuseLong 8 = .ok (.i2l, 1)) ∧ (decode cX5_refuseLong 9 = .ok (.lsub, 1)))) ∧ (((decode cX5_refuseLong 10 = .ok (.lreturn, 1)) ∧ (decode cX5_mostOwed 0 = .ok (.bipush (-9), 2))) ∧ ((decode cX5_mostOwed 2 = .ok (.istore_n 1, 1)) ∧ (decode cX5_mostOwed 3 = .ok (.iconst 0, 1)))))) := by decide +kernel
theorem dX5_refuse_7 : decode cX5_refuse 7 = .ok (.iaload, 1) := dbc_216.1.1.1.1
theorem dX5_refuse_8 : decode cX5_refuse 8 = .ok (.iconst 1, 1) := dbc_216.1.1.1.2
theorem dX5_refuse_9 : decode cX5_refuse 9 = .ok (.iadd, 1) := dbc_216.1.1.2.1
theorem dX5_refuse_10 : decode cX5_refuse 10 = .ok (.iastore, 1) := dbc_216.1.1.2.2
theorem dX5_refuse_11 : decode cX5_refuse 11 = .ok (.iload_n 1, 1) := dbc_216.1.2.1.1
theorem dX5_refuse_12 : decode cX5_refuse 12 = .ok (.ireturn, 1) := dbc_216.1.2.1.2
theorem dX5_refuseLong_0 : decode cX5_refuseLong 0 = .ok (.ldc2_w 300, 3) := dbc_216.1.2.2.1
theorem dX5_refuseLong_3 : decode cX5_refuseLong 3 = .ok (.aload_n 0, 1) := dbc_216.1.2.2.2
theorem dX5_refuseLong_4 : decode cX5_refuseLong 4 = .ok (.iload_n 1, 1) := dbc_216.2.1.1.1
theorem dX5_refuseLong_5 : decode cX5_refuseLong 5 = .ok (.invokevirtual 65, 3) := dbc_216.2.1.1.2
theorem dX5_refuseLong_8 : decode cX5_refuseLong 8 = .ok (.i2l, 1) := dbc_216.2.1.2.1
theorem dX5_refuseLong_9 : decode cX5_refuseLong 9 = .ok (.lsub, 1) := dbc_216.2.1.2.2
theorem dX5_refuseLong_10 : decode cX5_refuseLong 10 = .ok (.lreturn, 1) := dbc_216.2.2.1.1
theorem dX5_mostOwed_0 : decode cX5_mostOwed 0 = .ok (.bipush (-9), 2) := dbc_216.2.2.1.2
theorem dX5_mostOwed_2 : decode cX5_mostOwed 2 = .ok (.istore_n 1, 1) := dbc_216.2.2.2.1
theorem dX5_mostOwed_3 : decode cX5_mostOwed 3 = .ok (.iconst 0, 1) := dbc_216.2.2.2.2
theorem dbc_217 : (((((decode cX5_mostOwed 4 = .ok (.istore_n 2, 1)) ∧ (decode cX5_mostOwed 5 = .ok (.iconst 0, 1))) ∧ ((decode cX5_mostOwed 6 = .ok (.istore_n 3, 1)) ∧ (decode cX5_mostOwed 7 = .ok (.iload_n 3, 1)))) ∧ (((decode cX5_mostOwed 8 = .ok (.aload_n 0, 1)) ∧ (decode cX5_mostOwed 9 = .ok (.getfield 12, 3))) ∧ ((decode cX5_mostOwed 12 = .ok (.getfield 148, 3)) ∧ (decode cX5_mostOwed 15 = .ok (.if_icmp .ge 34, 3))))) ∧ ((((decode cX5_mostOwed 18 = .ok (.aload_n 0, 1)) ∧ (decode cX5_mostOwed 19 = .ok (.getfield 12, 3))) ∧ ((decode cX5_mostOwed 22 = .ok (.iload_n 3, 1)) ∧ (decode cX5_mostOwed 23 = .ok (.iconst 0, 1)))) ∧ (((decode cX5_mostOwed 24 = .ok (.invokevirtual 113, 3)) ∧ (decode cX5_mostOwed 27 = .ok (.invokestatic 239, 3))) ∧ ((decode cX5_mostOwed 30 = .ok (.istore 4, 2)) ∧ (decode cX5_mostOwed 32 = .ok (.iload 4, 2)))))) := by decide +kernel
theorem dX5_mostOwed_4 : decode cX5_mostOwed 4 = .ok (.istore_n 2, 1) := dbc_217.1.1.1.1
theorem dX5_mostOwed_5 : decode cX5_mostOwed 5 = .ok (.iconst 0, 1) := dbc_217.1.1.1.2
theorem dX5_mostOwed_6 : decode cX5_mostOwed 6 = .ok (.istore_n 3, 1) := dbc_217.1.1.2.1
theorem dX5_mostOwed_7 : decode cX5_mostOwed 7 = .ok (.iload_n 3, 1) := dbc_217.1.1.2.2
theorem dX5_mostOwed_8 : decode cX5_mostOwed 8 = .ok (.aload_n 0, 1) := dbc_217.1.2.1.1
theorem dX5_mostOwed_9 : decode cX5_mostOwed 9 = .ok (.getfield 12, 3) := dbc_217.1.2.1.2
theorem dX5_mostOwed_12 : decode cX5_mostOwed 12 = .ok (.getfield 148, 3) := dbc_217.1.2.2.1
theorem dX5_mostOwed_15 : decode cX5_mostOwed 15 = .ok (.if_icmp .ge 34, 3) := dbc_217.1.2.2.2
theorem dX5_mostOwed_18 : decode cX5_mostOwed 18 = .ok (.aload_n 0, 1) := dbc_217.2.1.1.1
theorem dX5_mostOwed_19 : decode cX5_mostOwed 19 = .ok (.getfield 12, 3) := dbc_217.2.1.1.2
theorem dX5_mostOwed_22 : decode cX5_mostOwed 22 = .ok (.iload_n 3, 1) := dbc_217.2.1.2.1
theorem dX5_mostOwed_23 : decode cX5_mostOwed 23 = .ok (.iconst 0, 1) := dbc_217.2.1.2.2
theorem dX5_mostOwed_24 : decode cX5_mostOwed 24 = .ok (.invokevirtual 113, 3) := dbc_217.2.2.1.1
theorem dX5_mostOwed_27 : decode cX5_mostOwed 27 = .ok (.invokestatic 239, 3) := dbc_217.2.2.1.2
theorem dX5_mostOwed_30 : decode cX5_mostOwed 30 = .ok (.istore 4, 2) := dbc_217.2.2.2.1
theorem dX5_mostOwed_32 : decode cX5_mostOwed 32 = .ok (.iload 4, 2) := dbc_217.2.2.2.2
theorem dbc_218 : (((((decode cX5_mostOwed 34 = .ok (.iload_n 2, 1)) ∧ (decode cX5_mostOwed 35 = .ok (.if_icmp .le 8, 3))) ∧ ((decode cX5_mostOwed 38 = .ok (.iload 4, 2)) ∧ (decode cX5_mostOwed 40 = .ok (.istore_n 2, 1)))) ∧ (((decode cX5_mostOwed 41 = .ok (.iload_n 3, 1)) ∧ (decode cX5_mostOwed 42 = .ok (.istore_n 1, 1))) ∧ ((decode cX5_mostOwed 43 = .ok (.iinc 3 1, 3)) ∧ (decode cX5_mostOwed 46 = .ok (.goto (-39), 3))))) ∧ ((((decode cX5_mostOwed 49 = .ok (.iload_n 1, 1)) ∧ (decode cX5_mostOwed 50 = .ok (.ireturn, 1))) ∧ ((decode cX5_debtor 0 = .ok (.bipush (-9), 2)) ∧ (decode cX5_debtor 2 = .ok (.istore_n 1, 1)))) ∧ (((decode cX5_debtor 3 = .ok (.iconst 0, 1)) ∧ (decode cX5_debtor 4 = .ok (.istore_n 2, 1))) ∧ ((decode cX5_debtor 5 = .ok (.iconst 0, 1)) ∧ (decode cX5_debtor 6 = .ok (.istore_n 3, 1)))))) := by decide +kernel
theorem dX5_mostOwed_34 : decode cX5_mostOwed 34 = .ok (.iload_n 2, 1) := dbc_218.1.1.1.1
theorem dX5_mostOwed_35 : decode cX5_mostOwed 35 = .ok (.if_icmp .le 8, 3) := dbc_218.1.1.1.2
theorem dX5_mostOwed_38 : decode cX5_mostOwed 38 = .ok (.iload 4, 2) := dbc_218.1.1.2.1
theorem dX5_mostOwed_40 : decode cX5_mostOwed 40 = .ok (.istore_n 2, 1) := dbc_218.1.1.2.2
theorem dX5_mostOwed_41 : decode cX5_mostOwed 41 = .ok (.iload_n 3, 1) := dbc_218.1.2.1.1
theorem dX5_mostOwed_42 : decode cX5_mostOwed 42 = .ok (.istore_n 1, 1) := dbc_218.1.2.1.2
theorem dX5_mostOwed_43 : decode cX5_mostOwed 43 = .ok (.iinc 3 1, 3) := dbc_218.1.2.2.1
theorem dX5_mostOwed_46 : decode cX5_mostOwed 46 = .ok (.goto (-39), 3) := dbc_218.1.2.2.2
theorem dX5_mostOwed_49 : decode cX5_mostOwed 49 = .ok (.iload_n 1, 1) := dbc_218.2.1.1.1
theorem dX5_mostOwed_50 : decode cX5_mostOwed 50 = .ok (.ireturn, 1) := dbc_218.2.1.1.2
theorem dX5_debtor_0 : decode cX5_debtor 0 = .ok (.bipush (-9), 2) := dbc_218.2.1.2.1
theorem dX5_debtor_2 : decode cX5_debtor 2 = .ok (.istore_n 1, 1) := dbc_218.2.1.2.2
theorem dX5_debtor_3 : decode cX5_debtor 3 = .ok (.iconst 0, 1) := dbc_218.2.2.1.1
theorem dX5_debtor_4 : decode cX5_debtor 4 = .ok (.istore_n 2, 1) := dbc_218.2.2.1.2
theorem dX5_debtor_5 : decode cX5_debtor 5 = .ok (.iconst 0, 1) := dbc_218.2.2.2.1
theorem dX5_debtor_6 : decode cX5_debtor 6 = .ok (.istore_n 3, 1) := dbc_218.2.2.2.2
theorem dbc_219 : (((((decode cX5_debtor 7 = .ok (.iload_n 3, 1)) ∧ (decode cX5_debtor 8 = .ok (.aload_n 0, 1))) ∧ ((decode cX5_debtor 9 = .ok (.getfield 12, 3)) ∧ (decode cX5_debtor 12 = .ok (.getfield 158, 3)))) ∧ (((decode cX5_debtor 15 = .ok (.if_icmp .ge 31, 3)) ∧ (decode cX5_debtor 18 = .ok (.aload_n 0, 1))) ∧ ((decode cX5_debtor 19 = .ok (.getfield 12, 3)) ∧ (decode cX5_debtor 22 = .ok (.iload_n 3, 1))))) ∧ ((((decode cX5_debtor 23 = .ok (.iconst 0, 1)) ∧ (decode cX5_debtor 24 = .ok (.invokevirtual 137, 3))) ∧ ((decode cX5_debtor 27 = .ok (.istore 4, 2)) ∧ (decode cX5_debtor 29 = .ok (.iload 4, 2)))) ∧ (((decode cX5_debtor 31 = .ok (.iload_n 2, 1)) ∧ (decode cX5_debtor 32 = .ok (.if_icmp .le 8, 3))) ∧ ((decode cX5_debtor 35 = .ok (.iload 4, 2)) ∧ (decode cX5_debtor 37 = .ok (.istore_n 2, 1)))))) := by decide +kernel
theorem dX5_debtor_7 : decode cX5_debtor 7 = .ok (.iload_n 3, 1) := dbc_219.1.1.1.1
theorem dX5_debtor_8 : decode cX5_debtor 8 = .ok (.aload_n 0, 1) := dbc_219.1.1.1.2
theorem dX5_debtor_9 : decode cX5_debtor 9 = .ok (.getfield 12, 3) := dbc_219.1.1.2.1
theorem dX5_debtor_12 : decode cX5_debtor 12 = .ok (.getfield 158, 3) := dbc_219.1.1.2.2
theorem dX5_debtor_15 : decode cX5_debtor 15 = .ok (.if_icmp .ge 31, 3) := dbc_219.1.2.1.1
theorem dX5_debtor_18 : decode cX5_debtor 18 = .ok (.aload_n 0, 1) := dbc_219.1.2.1.2
theorem dX5_debtor_19 : decode cX5_debtor 19 = .ok (.getfield 12, 3) := dbc_219.1.2.2.1
theorem dX5_debtor_22 : decode cX5_debtor 22 = .ok (.iload_n 3, 1) := dbc_219.1.2.2.2
theorem dX5_debtor_23 : decode cX5_debtor 23 = .ok (.iconst 0, 1) := dbc_219.2.1.1.1
theorem dX5_debtor_24 : decode cX5_debtor 24 = .ok (.invokevirtual 137, 3) := dbc_219.2.1.1.2
theorem dX5_debtor_27 : decode cX5_debtor 27 = .ok (.istore 4, 2) := dbc_219.2.1.2.1
theorem dX5_debtor_29 : decode cX5_debtor 29 = .ok (.iload 4, 2) := dbc_219.2.1.2.2
theorem dX5_debtor_31 : decode cX5_debtor 31 = .ok (.iload_n 2, 1) := dbc_219.2.2.1.1
theorem dX5_debtor_32 : decode cX5_debtor 32 = .ok (.if_icmp .le 8, 3) := dbc_219.2.2.1.2
theorem dX5_debtor_35 : decode cX5_debtor 35 = .ok (.iload 4, 2) := dbc_219.2.2.2.1
theorem dX5_debtor_37 : decode cX5_debtor 37 = .ok (.istore_n 2, 1) := dbc_219.2.2.2.2
theorem dbc_220 : (((((decode cX5_debtor 38 = .ok (.iload_n 3, 1)) ∧ (decode cX5_debtor 39 = .ok (.istore_n 1, 1))) ∧ ((decode cX5_debtor 40 = .ok (.iinc 3 1, 3)) ∧ (decode cX5_debtor 43 = .ok (.goto (-36), 3)))) ∧ (((decode cX5_debtor 46 = .ok (.iload_n 1, 1)) ∧ (decode cX5_debtor 47 = .ok (.ireturn, 1))) ∧ ((decode cX5_debtless 0 = .ok (.iconst 0, 1)) ∧ (decode cX5_debtless 1 = .ok (.istore_n 1, 1))))) ∧ ((((decode cX5_debtless 2 = .ok (.iconst 0, 1)) ∧ (decode cX5_debtless 3 = .ok (.istore_n 2, 1))) ∧ ((decode cX5_debtless 4 = .ok (.iload_n 2, 1)) ∧ (decode cX5_debtless 5 = .ok (.aload_n 0, 1)))) ∧ (((decode cX5_debtless 6 = .ok (.getfield 12, 3)) ∧ (decode cX5_debtless 9 = .ok (.getfield 158, 3))) ∧ ((decode cX5_debtless 12 = .ok (.if_icmp .ge 27, 3)) ∧ (decode cX5_debtless 15 = .ok (.aload_n 0, 1)))))) := by decide +kernel
theorem dX5_debtor_38 : decode cX5_debtor 38 = .ok (.iload_n 3, 1) := dbc_220.1.1.1.1
theorem dX5_debtor_39 : decode cX5_debtor 39 = .ok (.istore_n 1, 1) := dbc_220.1.1.1.2
theorem dX5_debtor_40 : decode cX5_debtor 40 = .ok (.iinc 3 1, 3) := dbc_220.1.1.2.1
theorem dX5_debtor_43 : decode cX5_debtor 43 = .ok (.goto (-36), 3) := dbc_220.1.1.2.2
theorem dX5_debtor_46 : decode cX5_debtor 46 = .ok (.iload_n 1, 1) := dbc_220.1.2.1.1
theorem dX5_debtor_47 : decode cX5_debtor 47 = .ok (.ireturn, 1) := dbc_220.1.2.1.2
theorem dX5_debtless_0 : decode cX5_debtless 0 = .ok (.iconst 0, 1) := dbc_220.1.2.2.1
theorem dX5_debtless_1 : decode cX5_debtless 1 = .ok (.istore_n 1, 1) := dbc_220.1.2.2.2
theorem dX5_debtless_2 : decode cX5_debtless 2 = .ok (.iconst 0, 1) := dbc_220.2.1.1.1
theorem dX5_debtless_3 : decode cX5_debtless 3 = .ok (.istore_n 2, 1) := dbc_220.2.1.1.2
theorem dX5_debtless_4 : decode cX5_debtless 4 = .ok (.iload_n 2, 1) := dbc_220.2.1.2.1
theorem dX5_debtless_5 : decode cX5_debtless 5 = .ok (.aload_n 0, 1) := dbc_220.2.1.2.2
theorem dX5_debtless_6 : decode cX5_debtless 6 = .ok (.getfield 12, 3) := dbc_220.2.2.1.1
theorem dX5_debtless_9 : decode cX5_debtless 9 = .ok (.getfield 158, 3) := dbc_220.2.2.1.2
theorem dX5_debtless_12 : decode cX5_debtless 12 = .ok (.if_icmp .ge 27, 3) := dbc_220.2.2.2.1
theorem dX5_debtless_15 : decode cX5_debtless 15 = .ok (.aload_n 0, 1) := dbc_220.2.2.2.2
theorem dbc_221 : (((((decode cX5_debtless 16 = .ok (.getfield 12, 3)) ∧ (decode cX5_debtless 19 = .ok (.iload_n 2, 1))) ∧ ((decode cX5_debtless 20 = .ok (.iconst 0, 1)) ∧ (decode cX5_debtless 21 = .ok (.invokevirtual 131, 3)))) ∧ (((decode cX5_debtless 24 = .ok (.ifCond .ne 9, 3)) ∧ (decode cX5_debtless 27 = .ok (.iload_n 1, 1))) ∧ ((decode cX5_debtless 28 = .ok (.iconst 1, 1)) ∧ (decode cX5_debtless 29 = .ok (.iload_n 2, 1))))) ∧ ((((decode cX5_debtless 30 = .ok (.ishl, 1)) ∧ (decode cX5_debtless 31 = .ok (.ior, 1))) ∧ ((decode cX5_debtless 32 = .ok (.istore_n 1, 1)) ∧ (decode cX5_debtless 33 = .ok (.iinc 2 1, 3)))) ∧ (((decode cX5_debtless 36 = .ok (.goto (-32), 3)) ∧ (decode cX5_debtless 39 = .ok (.iload_n 1, 1))) ∧ ((decode cX5_debtless 40 = .ok (.ireturn, 1)) ∧ (decode cX5_owedByOne 0 = .ok (.iconst 0, 1)))))) := by decide +kernel
theorem dX5_debtless_16 : decode cX5_debtless 16 = .ok (.getfield 12, 3) := dbc_221.1.1.1.1
theorem dX5_debtless_19 : decode cX5_debtless 19 = .ok (.iload_n 2, 1) := dbc_221.1.1.1.2
theorem dX5_debtless_20 : decode cX5_debtless 20 = .ok (.iconst 0, 1) := dbc_221.1.1.2.1
theorem dX5_debtless_21 : decode cX5_debtless 21 = .ok (.invokevirtual 131, 3) := dbc_221.1.1.2.2
theorem dX5_debtless_24 : decode cX5_debtless 24 = .ok (.ifCond .ne 9, 3) := dbc_221.1.2.1.1
theorem dX5_debtless_27 : decode cX5_debtless 27 = .ok (.iload_n 1, 1) := dbc_221.1.2.1.2
theorem dX5_debtless_28 : decode cX5_debtless 28 = .ok (.iconst 1, 1) := dbc_221.1.2.2.1
theorem dX5_debtless_29 : decode cX5_debtless 29 = .ok (.iload_n 2, 1) := dbc_221.1.2.2.2
theorem dX5_debtless_30 : decode cX5_debtless 30 = .ok (.ishl, 1) := dbc_221.2.1.1.1
theorem dX5_debtless_31 : decode cX5_debtless 31 = .ok (.ior, 1) := dbc_221.2.1.1.2
theorem dX5_debtless_32 : decode cX5_debtless 32 = .ok (.istore_n 1, 1) := dbc_221.2.1.2.1
theorem dX5_debtless_33 : decode cX5_debtless 33 = .ok (.iinc 2 1, 3) := dbc_221.2.1.2.2
theorem dX5_debtless_36 : decode cX5_debtless 36 = .ok (.goto (-32), 3) := dbc_221.2.2.1.1
theorem dX5_debtless_39 : decode cX5_debtless 39 = .ok (.iload_n 1, 1) := dbc_221.2.2.1.2
theorem dX5_debtless_40 : decode cX5_debtless 40 = .ok (.ireturn, 1) := dbc_221.2.2.2.1
theorem dX5_owedByOne_0 : decode cX5_owedByOne 0 = .ok (.iconst 0, 1) := dbc_221.2.2.2.2
theorem dbc_222 : (((((decode cX5_owedByOne 1 = .ok (.istore_n 1, 1)) ∧ (decode cX5_owedByOne 2 = .ok (.iconst 0, 1))) ∧ ((decode cX5_owedByOne 3 = .ok (.istore_n 2, 1)) ∧ (decode cX5_owedByOne 4 = .ok (.iload_n 2, 1)))) ∧ (((decode cX5_owedByOne 5 = .ok (.aload_n 0, 1)) ∧ (decode cX5_owedByOne 6 = .ok (.getfield 12, 3))) ∧ ((decode cX5_owedByOne 9 = .ok (.getfield 148, 3)) ∧ (decode cX5_owedByOne 12 = .ok (.if_icmp .ge 31, 3))))) ∧ ((((decode cX5_owedByOne 15 = .ok (.aload_n 0, 1)) ∧ (decode cX5_owedByOne 16 = .ok (.getfield 12, 3))) ∧ ((decode cX5_owedByOne 19 = .ok (.iload_n 2, 1)) ∧ (decode cX5_owedByOne 20 = .ok (.iconst 0, 1)))) ∧ (((decode cX5_owedByOne 21 = .ok (.invokevirtual 113, 3)) ∧ (decode cX5_owedByOne 24 = .ok (.invokestatic 239, 3))) ∧ ((decode cX5_owedByOne 27 = .ok (.iconst 1, 1)) ∧ (decode cX5_owedByOne 28 = .ok (.if_icmp .ne 9, 3)))))) := by decide +kernel
theorem dX5_owedByOne_1 : decode cX5_owedByOne 1 = .ok (.istore_n 1, 1) := dbc_222.1.1.1.1
theorem dX5_owedByOne_2 : decode cX5_owedByOne 2 = .ok (.iconst 0, 1) := dbc_222.1.1.1.2
theorem dX5_owedByOne_3 : decode cX5_owedByOne 3 = .ok (.istore_n 2, 1) := dbc_222.1.1.2.1
theorem dX5_owedByOne_4 : decode cX5_owedByOne 4 = .ok (.iload_n 2, 1) := dbc_222.1.1.2.2
theorem dX5_owedByOne_5 : decode cX5_owedByOne 5 = .ok (.aload_n 0, 1) := dbc_222.1.2.1.1
theorem dX5_owedByOne_6 : decode cX5_owedByOne 6 = .ok (.getfield 12, 3) := dbc_222.1.2.1.2
theorem dX5_owedByOne_9 : decode cX5_owedByOne 9 = .ok (.getfield 148, 3) := dbc_222.1.2.2.1
theorem dX5_owedByOne_12 : decode cX5_owedByOne 12 = .ok (.if_icmp .ge 31, 3) := dbc_222.1.2.2.2
theorem dX5_owedByOne_15 : decode cX5_owedByOne 15 = .ok (.aload_n 0, 1) := dbc_222.2.1.1.1
theorem dX5_owedByOne_16 : decode cX5_owedByOne 16 = .ok (.getfield 12, 3) := dbc_222.2.1.1.2
theorem dX5_owedByOne_19 : decode cX5_owedByOne 19 = .ok (.iload_n 2, 1) := dbc_222.2.1.2.1
theorem dX5_owedByOne_20 : decode cX5_owedByOne 20 = .ok (.iconst 0, 1) := dbc_222.2.1.2.2
theorem dX5_owedByOne_21 : decode cX5_owedByOne 21 = .ok (.invokevirtual 113, 3) := dbc_222.2.2.1.1
theorem dX5_owedByOne_24 : decode cX5_owedByOne 24 = .ok (.invokestatic 239, 3) := dbc_222.2.2.1.2
theorem dX5_owedByOne_27 : decode cX5_owedByOne 27 = .ok (.iconst 1, 1) := dbc_222.2.2.2.1
theorem dX5_owedByOne_28 : decode cX5_owedByOne 28 = .ok (.if_icmp .ne 9, 3) := dbc_222.2.2.2.2
theorem dbc_223 : (((((decode cX5_owedByOne 31 = .ok (.iload_n 1, 1)) ∧ (decode cX5_owedByOne 32 = .ok (.iconst 1, 1))) ∧ ((decode cX5_owedByOne 33 = .ok (.iload_n 2, 1)) ∧ (decode cX5_owedByOne 34 = .ok (.ishl, 1)))) ∧ (((decode cX5_owedByOne 35 = .ok (.ior, 1)) ∧ (decode cX5_owedByOne 36 = .ok (.istore_n 1, 1))) ∧ ((decode cX5_owedByOne 37 = .ok (.iinc 2 1, 3)) ∧ (decode cX5_owedByOne 40 = .ok (.goto (-36), 3))))) ∧ ((((decode cX5_owedByOne 43 = .ok (.iload_n 1, 1)) ∧ (decode cX5_owedByOne 44 = .ok (.ireturn, 1))) ∧ ((decode cX5_fittingKinds 0 = .ok (.iconst 0, 1)) ∧ (decode cX5_fittingKinds 1 = .ok (.istore_n 3, 1)))) ∧ (((decode cX5_fittingKinds 2 = .ok (.aload_n 0, 1)) ∧ (decode cX5_fittingKinds 3 = .ok (.getfield 16, 3))) ∧ ((decode cX5_fittingKinds 6 = .ok (.aload_n 0, 1)) ∧ (decode cX5_fittingKinds 7 = .ok (.getfield 12, 3)))))) := by decide +kernel
theorem dX5_owedByOne_31 : decode cX5_owedByOne 31 = .ok (.iload_n 1, 1) := dbc_223.1.1.1.1
theorem dX5_owedByOne_32 : decode cX5_owedByOne 32 = .ok (.iconst 1, 1) := dbc_223.1.1.1.2
theorem dX5_owedByOne_33 : decode cX5_owedByOne 33 = .ok (.iload_n 2, 1) := dbc_223.1.1.2.1
theorem dX5_owedByOne_34 : decode cX5_owedByOne 34 = .ok (.ishl, 1) := dbc_223.1.1.2.2
theorem dX5_owedByOne_35 : decode cX5_owedByOne 35 = .ok (.ior, 1) := dbc_223.1.2.1.1
theorem dX5_owedByOne_36 : decode cX5_owedByOne 36 = .ok (.istore_n 1, 1) := dbc_223.1.2.1.2
theorem dX5_owedByOne_37 : decode cX5_owedByOne 37 = .ok (.iinc 2 1, 3) := dbc_223.1.2.2.1
theorem dX5_owedByOne_40 : decode cX5_owedByOne 40 = .ok (.goto (-36), 3) := dbc_223.1.2.2.2
theorem dX5_owedByOne_43 : decode cX5_owedByOne 43 = .ok (.iload_n 1, 1) := dbc_223.2.1.1.1
theorem dX5_owedByOne_44 : decode cX5_owedByOne 44 = .ok (.ireturn, 1) := dbc_223.2.1.1.2
theorem dX5_fittingKinds_0 : decode cX5_fittingKinds 0 = .ok (.iconst 0, 1) := dbc_223.2.1.2.1
theorem dX5_fittingKinds_1 : decode cX5_fittingKinds 1 = .ok (.istore_n 3, 1) := dbc_223.2.1.2.2
theorem dX5_fittingKinds_2 : decode cX5_fittingKinds 2 = .ok (.aload_n 0, 1) := dbc_223.2.2.1.1
theorem dX5_fittingKinds_3 : decode cX5_fittingKinds 3 = .ok (.getfield 16, 3) := dbc_223.2.2.1.2
theorem dX5_fittingKinds_6 : decode cX5_fittingKinds 6 = .ok (.aload_n 0, 1) := dbc_223.2.2.2.1
theorem dX5_fittingKinds_7 : decode cX5_fittingKinds 7 = .ok (.getfield 12, 3) := dbc_223.2.2.2.2
theorem dbc_224 : (((((decode cX5_fittingKinds 10 = .ok (.invokevirtual 76, 3)) ∧ (decode cX5_fittingKinds 13 = .ok (.iconst 0, 1))) ∧ ((decode cX5_fittingKinds 14 = .ok (.istore 4, 2)) ∧ (decode cX5_fittingKinds 16 = .ok (.iload 4, 2)))) ∧ (((decode cX5_fittingKinds 18 = .ok (.bipush 6, 2)) ∧ (decode cX5_fittingKinds 20 = .ok (.if_icmp .ge 36, 3))) ∧ ((decode cX5_fittingKinds 23 = .ok (.aload_n 0, 1)) ∧ (decode cX5_fittingKinds 24 = .ok (.getfield 16, 3))))) ∧ ((((decode cX5_fittingKinds 27 = .ok (.getfield 94, 3)) ∧ (decode cX5_fittingKinds 30 = .ok (.iload_n 2, 1))) ∧ ((decode cX5_fittingKinds 31 = .ok (.iload 4, 2)) ∧ (decode cX5_fittingKinds 33 = .ok (.iastore, 1)))) ∧ (((decode cX5_fittingKinds 34 = .ok (.aload_n 0, 1)) ∧ (decode cX5_fittingKinds 35 = .ok (.iload_n 1, 1))) ∧ ((decode cX5_fittingKinds 36 = .ok (.iload_n 2, 1)) ∧ (decode cX5_fittingKinds 37 = .ok (.invokevirtual 302, 3)))))) := by decide +kernel
theorem dX5_fittingKinds_10 : decode cX5_fittingKinds 10 = .ok (.invokevirtual 76, 3) := dbc_224.1.1.1.1
theorem dX5_fittingKinds_13 : decode cX5_fittingKinds 13 = .ok (.iconst 0, 1) := dbc_224.1.1.1.2
theorem dX5_fittingKinds_14 : decode cX5_fittingKinds 14 = .ok (.istore 4, 2) := dbc_224.1.1.2.1
theorem dX5_fittingKinds_16 : decode cX5_fittingKinds 16 = .ok (.iload 4, 2) := dbc_224.1.1.2.2
theorem dX5_fittingKinds_18 : decode cX5_fittingKinds 18 = .ok (.bipush 6, 2) := dbc_224.1.2.1.1
theorem dX5_fittingKinds_20 : decode cX5_fittingKinds 20 = .ok (.if_icmp .ge 36, 3) := dbc_224.1.2.1.2
theorem dX5_fittingKinds_23 : decode cX5_fittingKinds 23 = .ok (.aload_n 0, 1) := dbc_224.1.2.2.1
theorem dX5_fittingKinds_24 : decode cX5_fittingKinds 24 = .ok (.getfield 16, 3) := dbc_224.1.2.2.2
theorem dX5_fittingKinds_27 : decode cX5_fittingKinds 27 = .ok (.getfield 94, 3) := dbc_224.2.1.1.1
theorem dX5_fittingKinds_30 : decode cX5_fittingKinds 30 = .ok (.iload_n 2, 1) := dbc_224.2.1.1.2
theorem dX5_fittingKinds_31 : decode cX5_fittingKinds 31 = .ok (.iload 4, 2) := dbc_224.2.1.2.1
theorem dX5_fittingKinds_33 : decode cX5_fittingKinds 33 = .ok (.iastore, 1) := dbc_224.2.1.2.2
theorem dX5_fittingKinds_34 : decode cX5_fittingKinds 34 = .ok (.aload_n 0, 1) := dbc_224.2.2.1.1
theorem dX5_fittingKinds_35 : decode cX5_fittingKinds 35 = .ok (.iload_n 1, 1) := dbc_224.2.2.1.2
theorem dX5_fittingKinds_36 : decode cX5_fittingKinds 36 = .ok (.iload_n 2, 1) := dbc_224.2.2.2.1
theorem dX5_fittingKinds_37 : decode cX5_fittingKinds 37 = .ok (.invokevirtual 302, 3) := dbc_224.2.2.2.2
theorem dbc_225 : (((((decode cX5_fittingKinds 40 = .ok (.ifCond .eq 10, 3)) ∧ (decode cX5_fittingKinds 43 = .ok (.iload_n 3, 1))) ∧ ((decode cX5_fittingKinds 44 = .ok (.iconst 1, 1)) ∧ (decode cX5_fittingKinds 45 = .ok (.iload 4, 2)))) ∧ (((decode cX5_fittingKinds 47 = .ok (.ishl, 1)) ∧ (decode cX5_fittingKinds 48 = .ok (.ior, 1))) ∧ ((decode cX5_fittingKinds 49 = .ok (.istore_n 3, 1)) ∧ (decode cX5_fittingKinds 50 = .ok (.iinc 4 1, 3))))) ∧ ((((decode cX5_fittingKinds 53 = .ok (.goto (-37), 3)) ∧ (decode cX5_fittingKinds 56 = .ok (.iload_n 3, 1))) ∧ ((decode cX5_fittingKinds 57 = .ok (.ireturn, 1)) ∧ (decode cX5_fittingFigures 0 = .ok (.iconst 0, 1)))) ∧ (((decode cX5_fittingFigures 1 = .ok (.istore_n 3, 1)) ∧ (decode cX5_fittingFigures 2 = .ok (.aload_n 0, 1))) ∧ ((decode cX5_fittingFigures 3 = .ok (.getfield 16, 3)) ∧ (decode cX5_fittingFigures 6 = .ok (.aload_n 0, 1)))))) := by decide +kernel
theorem dX5_fittingKinds_40 : decode cX5_fittingKinds 40 = .ok (.ifCond .eq 10, 3) := dbc_225.1.1.1.1
theorem dX5_fittingKinds_43 : decode cX5_fittingKinds 43 = .ok (.iload_n 3, 1) := dbc_225.1.1.1.2
theorem dX5_fittingKinds_44 : decode cX5_fittingKinds 44 = .ok (.iconst 1, 1) := dbc_225.1.1.2.1
theorem dX5_fittingKinds_45 : decode cX5_fittingKinds 45 = .ok (.iload 4, 2) := dbc_225.1.1.2.2
theorem dX5_fittingKinds_47 : decode cX5_fittingKinds 47 = .ok (.ishl, 1) := dbc_225.1.2.1.1
theorem dX5_fittingKinds_48 : decode cX5_fittingKinds 48 = .ok (.ior, 1) := dbc_225.1.2.1.2
theorem dX5_fittingKinds_49 : decode cX5_fittingKinds 49 = .ok (.istore_n 3, 1) := dbc_225.1.2.2.1
theorem dX5_fittingKinds_50 : decode cX5_fittingKinds 50 = .ok (.iinc 4 1, 3) := dbc_225.1.2.2.2
theorem dX5_fittingKinds_53 : decode cX5_fittingKinds 53 = .ok (.goto (-37), 3) := dbc_225.2.1.1.1
theorem dX5_fittingKinds_56 : decode cX5_fittingKinds 56 = .ok (.iload_n 3, 1) := dbc_225.2.1.1.2
theorem dX5_fittingKinds_57 : decode cX5_fittingKinds 57 = .ok (.ireturn, 1) := dbc_225.2.1.2.1
theorem dX5_fittingFigures_0 : decode cX5_fittingFigures 0 = .ok (.iconst 0, 1) := dbc_225.2.1.2.2
theorem dX5_fittingFigures_1 : decode cX5_fittingFigures 1 = .ok (.istore_n 3, 1) := dbc_225.2.2.1.1
theorem dX5_fittingFigures_2 : decode cX5_fittingFigures 2 = .ok (.aload_n 0, 1) := dbc_225.2.2.1.2
theorem dX5_fittingFigures_3 : decode cX5_fittingFigures 3 = .ok (.getfield 16, 3) := dbc_225.2.2.2.1
theorem dX5_fittingFigures_6 : decode cX5_fittingFigures 6 = .ok (.aload_n 0, 1) := dbc_225.2.2.2.2
theorem dbc_226 : (((((decode cX5_fittingFigures 7 = .ok (.getfield 12, 3)) ∧ (decode cX5_fittingFigures 10 = .ok (.invokevirtual 76, 3))) ∧ ((decode cX5_fittingFigures 13 = .ok (.iconst 0, 1)) ∧ (decode cX5_fittingFigures 14 = .ok (.istore 4, 2)))) ∧ (((decode cX5_fittingFigures 16 = .ok (.iload 4, 2)) ∧ (decode cX5_fittingFigures 18 = .ok (.bipush 10, 2))) ∧ ((decode cX5_fittingFigures 20 = .ok (.if_icmp .ge 36, 3)) ∧ (decode cX5_fittingFigures 23 = .ok (.aload_n 0, 1))))) ∧ ((((decode cX5_fittingFigures 24 = .ok (.getfield 16, 3)) ∧ (decode cX5_fittingFigures 27 = .ok (.getfield 97, 3))) ∧ ((decode cX5_fittingFigures 30 = .ok (.iload_n 2, 1)) ∧ (decode cX5_fittingFigures 31 = .ok (.iload 4, 2)))) ∧ (((decode cX5_fittingFigures 33 = .ok (.iastore, 1)) ∧ (decode cX5_fittingFigures 34 = .ok (.aload_n 0, 1))) ∧ ((decode cX5_fittingFigures 35 = .ok (.iload_n 1, 1)) ∧ (decode cX5_fittingFigures 36 = .ok (.iload_n 2, 1)))))) := by decide +kernel
theorem dX5_fittingFigures_7 : decode cX5_fittingFigures 7 = .ok (.getfield 12, 3) := dbc_226.1.1.1.1
theorem dX5_fittingFigures_10 : decode cX5_fittingFigures 10 = .ok (.invokevirtual 76, 3) := dbc_226.1.1.1.2
theorem dX5_fittingFigures_13 : decode cX5_fittingFigures 13 = .ok (.iconst 0, 1) := dbc_226.1.1.2.1
theorem dX5_fittingFigures_14 : decode cX5_fittingFigures 14 = .ok (.istore 4, 2) := dbc_226.1.1.2.2
theorem dX5_fittingFigures_16 : decode cX5_fittingFigures 16 = .ok (.iload 4, 2) := dbc_226.1.2.1.1
theorem dX5_fittingFigures_18 : decode cX5_fittingFigures 18 = .ok (.bipush 10, 2) := dbc_226.1.2.1.2
theorem dX5_fittingFigures_20 : decode cX5_fittingFigures 20 = .ok (.if_icmp .ge 36, 3) := dbc_226.1.2.2.1
theorem dX5_fittingFigures_23 : decode cX5_fittingFigures 23 = .ok (.aload_n 0, 1) := dbc_226.1.2.2.2
theorem dX5_fittingFigures_24 : decode cX5_fittingFigures 24 = .ok (.getfield 16, 3) := dbc_226.2.1.1.1
theorem dX5_fittingFigures_27 : decode cX5_fittingFigures 27 = .ok (.getfield 97, 3) := dbc_226.2.1.1.2
theorem dX5_fittingFigures_30 : decode cX5_fittingFigures 30 = .ok (.iload_n 2, 1) := dbc_226.2.1.2.1
theorem dX5_fittingFigures_31 : decode cX5_fittingFigures 31 = .ok (.iload 4, 2) := dbc_226.2.1.2.2
theorem dX5_fittingFigures_33 : decode cX5_fittingFigures 33 = .ok (.iastore, 1) := dbc_226.2.2.1.1
theorem dX5_fittingFigures_34 : decode cX5_fittingFigures 34 = .ok (.aload_n 0, 1) := dbc_226.2.2.1.2
theorem dX5_fittingFigures_35 : decode cX5_fittingFigures 35 = .ok (.iload_n 1, 1) := dbc_226.2.2.2.1
theorem dX5_fittingFigures_36 : decode cX5_fittingFigures 36 = .ok (.iload_n 2, 1) := dbc_226.2.2.2.2
theorem dbc_227 : (((((decode cX5_fittingFigures 37 = .ok (.invokevirtual 302, 3)) ∧ (decode cX5_fittingFigures 40 = .ok (.ifCond .eq 10, 3))) ∧ ((decode cX5_fittingFigures 43 = .ok (.iload_n 3, 1)) ∧ (decode cX5_fittingFigures 44 = .ok (.iconst 1, 1)))) ∧ (((decode cX5_fittingFigures 45 = .ok (.iload 4, 2)) ∧ (decode cX5_fittingFigures 47 = .ok (.ishl, 1))) ∧ ((decode cX5_fittingFigures 48 = .ok (.ior, 1)) ∧ (decode cX5_fittingFigures 49 = .ok (.istore_n 3, 1))))) ∧ ((((decode cX5_fittingFigures 50 = .ok (.iinc 4 1, 3)) ∧ (decode cX5_fittingFigures 53 = .ok (.goto (-37), 3))) ∧ ((decode cX5_fittingFigures 56 = .ok (.iload_n 3, 1)) ∧ (decode cX5_fittingFigures 57 = .ok (.ireturn, 1)))) ∧ (((decode cX5_fitsNumbers 0 = .ok (.iconst 0, 1)) ∧ (decode cX5_fitsNumbers 1 = .ok (.istore_n 3, 1))) ∧ ((decode cX5_fitsNumbers 2 = .ok (.iload_n 3, 1)) ∧ (decode cX5_fitsNumbers 3 = .ok (.aload_n 0, 1)))))) := by decide +kernel
theorem dX5_fittingFigures_37 : decode cX5_fittingFigures 37 = .ok (.invokevirtual 302, 3) := dbc_227.1.1.1.1
theorem dX5_fittingFigures_40 : decode cX5_fittingFigures 40 = .ok (.ifCond .eq 10, 3) := dbc_227.1.1.1.2
theorem dX5_fittingFigures_43 : decode cX5_fittingFigures 43 = .ok (.iload_n 3, 1) := dbc_227.1.1.2.1
theorem dX5_fittingFigures_44 : decode cX5_fittingFigures 44 = .ok (.iconst 1, 1) := dbc_227.1.1.2.2
theorem dX5_fittingFigures_45 : decode cX5_fittingFigures 45 = .ok (.iload 4, 2) := dbc_227.1.2.1.1
theorem dX5_fittingFigures_47 : decode cX5_fittingFigures 47 = .ok (.ishl, 1) := dbc_227.1.2.1.2
theorem dX5_fittingFigures_48 : decode cX5_fittingFigures 48 = .ok (.ior, 1) := dbc_227.1.2.2.1
theorem dX5_fittingFigures_49 : decode cX5_fittingFigures 49 = .ok (.istore_n 3, 1) := dbc_227.1.2.2.2
theorem dX5_fittingFigures_50 : decode cX5_fittingFigures 50 = .ok (.iinc 4 1, 3) := dbc_227.2.1.1.1
theorem dX5_fittingFigures_53 : decode cX5_fittingFigures 53 = .ok (.goto (-37), 3) := dbc_227.2.1.1.2
theorem dX5_fittingFigures_56 : decode cX5_fittingFigures 56 = .ok (.iload_n 3, 1) := dbc_227.2.1.2.1
theorem dX5_fittingFigures_57 : decode cX5_fittingFigures 57 = .ok (.ireturn, 1) := dbc_227.2.1.2.2
theorem dX5_fitsNumbers_0 : decode cX5_fitsNumbers 0 = .ok (.iconst 0, 1) := dbc_227.2.2.1.1
theorem dX5_fitsNumbers_1 : decode cX5_fitsNumbers 1 = .ok (.istore_n 3, 1) := dbc_227.2.2.1.2
theorem dX5_fitsNumbers_2 : decode cX5_fitsNumbers 2 = .ok (.iload_n 3, 1) := dbc_227.2.2.2.1
theorem dX5_fitsNumbers_3 : decode cX5_fitsNumbers 3 = .ok (.aload_n 0, 1) := dbc_227.2.2.2.2
theorem dbc_228 : (((((decode cX5_fitsNumbers 4 = .ok (.getfield 58, 3)) ∧ (decode cX5_fitsNumbers 7 = .ok (.if_icmp .ge 49, 3))) ∧ ((decode cX5_fitsNumbers 10 = .ok (.aload_n 0, 1)) ∧ (decode cX5_fitsNumbers 11 = .ok (.getfield 54, 3)))) ∧ (((decode cX5_fitsNumbers 14 = .ok (.iload_n 3, 1)) ∧ (decode cX5_fitsNumbers 15 = .ok (.iaload, 1))) ∧ ((decode cX5_fitsNumbers 16 = .ok (.bipush 99, 2)) ∧ (decode cX5_fitsNumbers 18 = .ok (.if_icmp .ne 7, 3))))) ∧ ((((decode cX5_fitsNumbers 21 = .ok (.iconst (-1), 1)) ∧ (decode cX5_fitsNumbers 22 = .ok (.goto 9, 3))) ∧ ((decode cX5_fitsNumbers 25 = .ok (.aload_n 0, 1)) ∧ (decode cX5_fitsNumbers 26 = .ok (.getfield 54, 3)))) ∧ (((decode cX5_fitsNumbers 29 = .ok (.iload_n 3, 1)) ∧ (decode cX5_fitsNumbers 30 = .ok (.iaload, 1))) ∧ ((decode cX5_fitsNumbers 31 = .ok (.istore 4, 2)) ∧ (decode cX5_fitsNumbers 33 = .ok (.aload_n 0, 1)))))) := by decide +kernel
theorem dX5_fitsNumbers_4 : decode cX5_fitsNumbers 4 = .ok (.getfield 58, 3) := dbc_228.1.1.1.1
theorem dX5_fitsNumbers_7 : decode cX5_fitsNumbers 7 = .ok (.if_icmp .ge 49, 3) := dbc_228.1.1.1.2
theorem dX5_fitsNumbers_10 : decode cX5_fitsNumbers 10 = .ok (.aload_n 0, 1) := dbc_228.1.1.2.1
theorem dX5_fitsNumbers_11 : decode cX5_fitsNumbers 11 = .ok (.getfield 54, 3) := dbc_228.1.1.2.2
theorem dX5_fitsNumbers_14 : decode cX5_fitsNumbers 14 = .ok (.iload_n 3, 1) := dbc_228.1.2.1.1
theorem dX5_fitsNumbers_15 : decode cX5_fitsNumbers 15 = .ok (.iaload, 1) := dbc_228.1.2.1.2
theorem dX5_fitsNumbers_16 : decode cX5_fitsNumbers 16 = .ok (.bipush 99, 2) := dbc_228.1.2.2.1
theorem dX5_fitsNumbers_18 : decode cX5_fitsNumbers 18 = .ok (.if_icmp .ne 7, 3) := dbc_228.1.2.2.2
theorem dX5_fitsNumbers_21 : decode cX5_fitsNumbers 21 = .ok (.iconst (-1), 1) := dbc_228.2.1.1.1
theorem dX5_fitsNumbers_22 : decode cX5_fitsNumbers 22 = .ok (.goto 9, 3) := dbc_228.2.1.1.2
theorem dX5_fitsNumbers_25 : decode cX5_fitsNumbers 25 = .ok (.aload_n 0, 1) := dbc_228.2.1.2.1
theorem dX5_fitsNumbers_26 : decode cX5_fitsNumbers 26 = .ok (.getfield 54, 3) := dbc_228.2.1.2.2
theorem dX5_fitsNumbers_29 : decode cX5_fitsNumbers 29 = .ok (.iload_n 3, 1) := dbc_228.2.2.1.1
theorem dX5_fitsNumbers_30 : decode cX5_fitsNumbers 30 = .ok (.iaload, 1) := dbc_228.2.2.1.2
theorem dX5_fitsNumbers_31 : decode cX5_fitsNumbers 31 = .ok (.istore 4, 2) := dbc_228.2.2.2.1
theorem dX5_fitsNumbers_33 : decode cX5_fitsNumbers 33 = .ok (.aload_n 0, 1) := dbc_228.2.2.2.2
theorem dbc_229 : (((((decode cX5_fitsNumbers 34 = .ok (.getfield 16, 3)) ∧ (decode cX5_fitsNumbers 37 = .ok (.iload_n 1, 1))) ∧ ((decode cX5_fitsNumbers 38 = .ok (.iload_n 2, 1)) ∧ (decode cX5_fitsNumbers 39 = .ok (.iload_n 3, 1)))) ∧ (((decode cX5_fitsNumbers 40 = .ok (.invokevirtual 144, 3)) ∧ (decode cX5_fitsNumbers 43 = .ok (.iload 4, 2))) ∧ ((decode cX5_fitsNumbers 45 = .ok (.if_icmp .eq 5, 3)) ∧ (decode cX5_fitsNumbers 48 = .ok (.iconst 0, 1))))) ∧ ((((decode cX5_fitsNumbers 49 = .ok (.ireturn, 1)) ∧ (decode cX5_fitsNumbers 50 = .ok (.iinc 3 1, 3))) ∧ ((decode cX5_fitsNumbers 53 = .ok (.goto (-51), 3)) ∧ (decode cX5_fitsNumbers 56 = .ok (.iconst 1, 1)))) ∧ (((decode cX5_fitsNumbers 57 = .ok (.ireturn, 1)) ∧ (decode cX5_bestShutter 0 = .ok (.aload_n 0, 1))) ∧ ((decode cX5_bestShutter 1 = .ok (.getfield 16, 3)) ∧ (decode cX5_bestShutter 4 = .ok (.aload_n 0, 1)))))) := by decide +kernel
theorem dX5_fitsNumbers_34 : decode cX5_fitsNumbers 34 = .ok (.getfield 16, 3) := dbc_229.1.1.1.1
theorem dX5_fitsNumbers_37 : decode cX5_fitsNumbers 37 = .ok (.iload_n 1, 1) := dbc_229.1.1.1.2
theorem dX5_fitsNumbers_38 : decode cX5_fitsNumbers 38 = .ok (.iload_n 2, 1) := dbc_229.1.1.2.1
theorem dX5_fitsNumbers_39 : decode cX5_fitsNumbers 39 = .ok (.iload_n 3, 1) := dbc_229.1.1.2.2
theorem dX5_fitsNumbers_40 : decode cX5_fitsNumbers 40 = .ok (.invokevirtual 144, 3) := dbc_229.1.2.1.1
theorem dX5_fitsNumbers_43 : decode cX5_fitsNumbers 43 = .ok (.iload 4, 2) := dbc_229.1.2.1.2
theorem dX5_fitsNumbers_45 : decode cX5_fitsNumbers 45 = .ok (.if_icmp .eq 5, 3) := dbc_229.1.2.2.1
theorem dX5_fitsNumbers_48 : decode cX5_fitsNumbers 48 = .ok (.iconst 0, 1) := dbc_229.1.2.2.2
theorem dX5_fitsNumbers_49 : decode cX5_fitsNumbers 49 = .ok (.ireturn, 1) := dbc_229.2.1.1.1
theorem dX5_fitsNumbers_50 : decode cX5_fitsNumbers 50 = .ok (.iinc 3 1, 3) := dbc_229.2.1.1.2
theorem dX5_fitsNumbers_53 : decode cX5_fitsNumbers 53 = .ok (.goto (-51), 3) := dbc_229.2.1.2.1
theorem dX5_fitsNumbers_56 : decode cX5_fitsNumbers 56 = .ok (.iconst 1, 1) := dbc_229.2.1.2.2
theorem dX5_fitsNumbers_57 : decode cX5_fitsNumbers 57 = .ok (.ireturn, 1) := dbc_229.2.2.1.1
theorem dX5_bestShutter_0 : decode cX5_bestShutter 0 = .ok (.aload_n 0, 1) := dbc_229.2.2.1.2
theorem dX5_bestShutter_1 : decode cX5_bestShutter 1 = .ok (.getfield 16, 3) := dbc_229.2.2.2.1
theorem dX5_bestShutter_4 : decode cX5_bestShutter 4 = .ok (.aload_n 0, 1) := dbc_229.2.2.2.2
theorem dbc_230 : (((((decode cX5_bestShutter 5 = .ok (.getfield 12, 3)) ∧ (decode cX5_bestShutter 8 = .ok (.invokevirtual 76, 3))) ∧ ((decode cX5_bestShutter 11 = .ok (.aload_n 0, 1)) ∧ (decode cX5_bestShutter 12 = .ok (.getfield 16, 3)))) ∧ (((decode cX5_bestShutter 15 = .ok (.dup, 1)) ∧ (decode cX5_bestShutter 16 = .ok (.getfield 286, 3))) ∧ ((decode cX5_bestShutter 19 = .ok (.iconst 1, 1)) ∧ (decode cX5_bestShutter 20 = .ok (.iload_n 1, 1))))) ∧ ((((decode cX5_bestShutter 21 = .ok (.ishl, 1)) ∧ (decode cX5_bestShutter 22 = .ok (.ior, 1))) ∧ ((decode cX5_bestShutter 23 = .ok (.putfield 286, 3)) ∧ (decode cX5_bestShutter 26 = .ok (.aload_n 0, 1)))) ∧ (((decode cX5_bestShutter 27 = .ok (.getfield 16, 3)) ∧ (decode cX5_bestShutter 30 = .ok (.iload_n 1, 1))) ∧ ((decode cX5_bestShutter 31 = .ok (.iload_n 2, 1)) ∧ (decode cX5_bestShutter 32 = .ok (.invokevirtual 113, 3)))))) := by decide +kernel
theorem dX5_bestShutter_5 : decode cX5_bestShutter 5 = .ok (.getfield 12, 3) := dbc_230.1.1.1.1
theorem dX5_bestShutter_8 : decode cX5_bestShutter 8 = .ok (.invokevirtual 76, 3) := dbc_230.1.1.1.2
theorem dX5_bestShutter_11 : decode cX5_bestShutter 11 = .ok (.aload_n 0, 1) := dbc_230.1.1.2.1
theorem dX5_bestShutter_12 : decode cX5_bestShutter 12 = .ok (.getfield 16, 3) := dbc_230.1.1.2.2
theorem dX5_bestShutter_15 : decode cX5_bestShutter 15 = .ok (.dup, 1) := dbc_230.1.2.1.1
theorem dX5_bestShutter_16 : decode cX5_bestShutter 16 = .ok (.getfield 286, 3) := dbc_230.1.2.1.2
theorem dX5_bestShutter_19 : decode cX5_bestShutter 19 = .ok (.iconst 1, 1) := dbc_230.1.2.2.1
theorem dX5_bestShutter_20 : decode cX5_bestShutter 20 = .ok (.iload_n 1, 1) := dbc_230.1.2.2.2
theorem dX5_bestShutter_21 : decode cX5_bestShutter 21 = .ok (.ishl, 1) := dbc_230.2.1.1.1
theorem dX5_bestShutter_22 : decode cX5_bestShutter 22 = .ok (.ior, 1) := dbc_230.2.1.1.2
theorem dX5_bestShutter_23 : decode cX5_bestShutter 23 = .ok (.putfield 286, 3) := dbc_230.2.1.2.1
theorem dX5_bestShutter_26 : decode cX5_bestShutter 26 = .ok (.aload_n 0, 1) := dbc_230.2.1.2.2
theorem dX5_bestShutter_27 : decode cX5_bestShutter 27 = .ok (.getfield 16, 3) := dbc_230.2.2.1.1
theorem dX5_bestShutter_30 : decode cX5_bestShutter 30 = .ok (.iload_n 1, 1) := dbc_230.2.2.1.2
theorem dX5_bestShutter_31 : decode cX5_bestShutter 31 = .ok (.iload_n 2, 1) := dbc_230.2.2.2.1
theorem dX5_bestShutter_32 : decode cX5_bestShutter 32 = .ok (.invokevirtual 113, 3) := dbc_230.2.2.2.2
theorem dbc_231 : (((((decode cX5_bestShutter 35 = .ok (.invokestatic 239, 3)) ∧ (decode cX5_bestShutter 38 = .ok (.iconst 1, 1))) ∧ ((decode cX5_bestShutter 39 = .ok (.isub, 1)) ∧ (decode cX5_bestShutter 40 = .ok (.istore_n 3, 1)))) ∧ (((decode cX5_bestShutter 41 = .ok (.aload_n 0, 1)) ∧ (decode cX5_bestShutter 42 = .ok (.getfield 16, 3))) ∧ ((decode cX5_bestShutter 45 = .ok (.iload_n 1, 1)) ∧ (decode cX5_bestShutter 46 = .ok (.invokevirtual 167, 3))))) ∧ ((((decode cX5_bestShutter 49 = .ok (.pop, 1)) ∧ (decode cX5_bestShutter 50 = .ok (.aload_n 0, 1))) ∧ ((decode cX5_bestShutter 51 = .ok (.getfield 16, 3)) ∧ (decode cX5_bestShutter 54 = .ok (.iload_n 1, 1)))) ∧ (((decode cX5_bestShutter 55 = .ok (.iload_n 2, 1)) ∧ (decode cX5_bestShutter 56 = .ok (.invokevirtual 113, 3))) ∧ ((decode cX5_bestShutter 59 = .ok (.invokestatic 239, 3)) ∧ (decode cX5_bestShutter 62 = .ok (.istore 4, 2)))))) := by decide +kernel
theorem dX5_bestShutter_35 : decode cX5_bestShutter 35 = .ok (.invokestatic 239, 3) := dbc_231.1.1.1.1
theorem dX5_bestShutter_38 : decode cX5_bestShutter 38 = .ok (.iconst 1, 1) := dbc_231.1.1.1.2
theorem dX5_bestShutter_39 : decode cX5_bestShutter 39 = .ok (.isub, 1) := dbc_231.1.1.2.1
theorem dX5_bestShutter_40 : decode cX5_bestShutter 40 = .ok (.istore_n 3, 1) := dbc_231.1.1.2.2
theorem dX5_bestShutter_41 : decode cX5_bestShutter 41 = .ok (.aload_n 0, 1) := dbc_231.1.2.1.1
theorem dX5_bestShutter_42 : decode cX5_bestShutter 42 = .ok (.getfield 16, 3) := dbc_231.1.2.1.2
theorem dX5_bestShutter_45 : decode cX5_bestShutter 45 = .ok (.iload_n 1, 1) := dbc_231.1.2.2.1
theorem dX5_bestShutter_46 : decode cX5_bestShutter 46 = .ok (.invokevirtual 167, 3) := dbc_231.1.2.2.2
theorem dX5_bestShutter_49 : decode cX5_bestShutter 49 = .ok (.pop, 1) := dbc_231.2.1.1.1
theorem dX5_bestShutter_50 : decode cX5_bestShutter 50 = .ok (.aload_n 0, 1) := dbc_231.2.1.1.2
theorem dX5_bestShutter_51 : decode cX5_bestShutter 51 = .ok (.getfield 16, 3) := dbc_231.2.1.2.1
theorem dX5_bestShutter_54 : decode cX5_bestShutter 54 = .ok (.iload_n 1, 1) := dbc_231.2.1.2.2
theorem dX5_bestShutter_55 : decode cX5_bestShutter 55 = .ok (.iload_n 2, 1) := dbc_231.2.2.1.1
theorem dX5_bestShutter_56 : decode cX5_bestShutter 56 = .ok (.invokevirtual 113, 3) := dbc_231.2.2.1.2
theorem dX5_bestShutter_59 : decode cX5_bestShutter 59 = .ok (.invokestatic 239, 3) := dbc_231.2.2.2.1
theorem dX5_bestShutter_62 : decode cX5_bestShutter 62 = .ok (.istore 4, 2) := dbc_231.2.2.2.2
theorem dbc_232 : (((((decode cX5_bestShutter 64 = .ok (.iload 4, 2)) ∧ (decode cX5_bestShutter 66 = .ok (.iload_n 3, 1))) ∧ ((decode cX5_bestShutter 67 = .ok (.if_icmp .le 7, 3)) ∧ (decode cX5_bestShutter 70 = .ok (.iconst 1, 1)))) ∧ (((decode cX5_bestShutter 71 = .ok (.goto 4, 3)) ∧ (decode cX5_bestShutter 74 = .ok (.iconst 0, 1))) ∧ ((decode cX5_bestShutter 75 = .ok (.ireturn, 1)) ∧ (decode cX5_highestAge 0 = .ok (.iconst (-1), 1))))) ∧ ((((decode cX5_highestAge 1 = .ok (.istore_n 1, 1)) ∧ (decode cX5_highestAge 2 = .ok (.iconst 0, 1))) ∧ ((decode cX5_highestAge 3 = .ok (.istore_n 2, 1)) ∧ (decode cX5_highestAge 4 = .ok (.iload_n 2, 1)))) ∧ (((decode cX5_highestAge 5 = .ok (.aload_n 0, 1)) ∧ (decode cX5_highestAge 6 = .ok (.getfield 12, 3))) ∧ ((decode cX5_highestAge 9 = .ok (.getfield 158, 3)) ∧ (decode cX5_highestAge 12 = .ok (.if_icmp .ge 22, 3)))))) := by decide +kernel
theorem dX5_bestShutter_64 : decode cX5_bestShutter 64 = .ok (.iload 4, 2) := dbc_232.1.1.1.1
theorem dX5_bestShutter_66 : decode cX5_bestShutter 66 = .ok (.iload_n 3, 1) := dbc_232.1.1.1.2
theorem dX5_bestShutter_67 : decode cX5_bestShutter 67 = .ok (.if_icmp .le 7, 3) := dbc_232.1.1.2.1
theorem dX5_bestShutter_70 : decode cX5_bestShutter 70 = .ok (.iconst 1, 1) := dbc_232.1.1.2.2
theorem dX5_bestShutter_71 : decode cX5_bestShutter 71 = .ok (.goto 4, 3) := dbc_232.1.2.1.1
theorem dX5_bestShutter_74 : decode cX5_bestShutter 74 = .ok (.iconst 0, 1) := dbc_232.1.2.1.2
theorem dX5_bestShutter_75 : decode cX5_bestShutter 75 = .ok (.ireturn, 1) := dbc_232.1.2.2.1
theorem dX5_highestAge_0 : decode cX5_highestAge 0 = .ok (.iconst (-1), 1) := dbc_232.1.2.2.2
theorem dX5_highestAge_1 : decode cX5_highestAge 1 = .ok (.istore_n 1, 1) := dbc_232.2.1.1.1
theorem dX5_highestAge_2 : decode cX5_highestAge 2 = .ok (.iconst 0, 1) := dbc_232.2.1.1.2
theorem dX5_highestAge_3 : decode cX5_highestAge 3 = .ok (.istore_n 2, 1) := dbc_232.2.1.2.1
theorem dX5_highestAge_4 : decode cX5_highestAge 4 = .ok (.iload_n 2, 1) := dbc_232.2.1.2.2
theorem dX5_highestAge_5 : decode cX5_highestAge 5 = .ok (.aload_n 0, 1) := dbc_232.2.2.1.1
theorem dX5_highestAge_6 : decode cX5_highestAge 6 = .ok (.getfield 12, 3) := dbc_232.2.2.1.2
theorem dX5_highestAge_9 : decode cX5_highestAge 9 = .ok (.getfield 158, 3) := dbc_232.2.2.2.1
theorem dX5_highestAge_12 : decode cX5_highestAge 12 = .ok (.if_icmp .ge 22, 3) := dbc_232.2.2.2.2
theorem dbc_233 : (((((decode cX5_highestAge 15 = .ok (.iload_n 1, 1)) ∧ (decode cX5_highestAge 16 = .ok (.aload_n 0, 1))) ∧ ((decode cX5_highestAge 17 = .ok (.getfield 12, 3)) ∧ (decode cX5_highestAge 20 = .ok (.iload_n 2, 1)))) ∧ (((decode cX5_highestAge 21 = .ok (.invokevirtual 305, 3)) ∧ (decode cX5_highestAge 24 = .ok (.invokestatic 275, 3))) ∧ ((decode cX5_highestAge 27 = .ok (.istore_n 1, 1)) ∧ (decode cX5_highestAge 28 = .ok (.iinc 2 1, 3))))) ∧ ((((decode cX5_highestAge 31 = .ok (.goto (-27), 3)) ∧ (decode cX5_highestAge 34 = .ok (.iload_n 1, 1))) ∧ ((decode cX5_highestAge 35 = .ok (.ireturn, 1)) ∧ (decode cX5_longestOwing 0 = .ok (.aload_n 0, 1)))) ∧ (((decode cX5_longestOwing 1 = .ok (.invokevirtual 272, 3)) ∧ (decode cX5_longestOwing 4 = .ok (.istore_n 1, 1))) ∧ ((decode cX5_longestOwing 5 = .ok (.iconst 0, 1)) ∧ (decode cX5_longestOwing 6 = .ok (.istore_n 2, 1)))))) := by decide +kernel
theorem dX5_highestAge_15 : decode cX5_highestAge 15 = .ok (.iload_n 1, 1) := dbc_233.1.1.1.1
theorem dX5_highestAge_16 : decode cX5_highestAge 16 = .ok (.aload_n 0, 1) := dbc_233.1.1.1.2
theorem dX5_highestAge_17 : decode cX5_highestAge 17 = .ok (.getfield 12, 3) := dbc_233.1.1.2.1
theorem dX5_highestAge_20 : decode cX5_highestAge 20 = .ok (.iload_n 2, 1) := dbc_233.1.1.2.2
theorem dX5_highestAge_21 : decode cX5_highestAge 21 = .ok (.invokevirtual 305, 3) := dbc_233.1.2.1.1
theorem dX5_highestAge_24 : decode cX5_highestAge 24 = .ok (.invokestatic 275, 3) := dbc_233.1.2.1.2
theorem dX5_highestAge_27 : decode cX5_highestAge 27 = .ok (.istore_n 1, 1) := dbc_233.1.2.2.1
theorem dX5_highestAge_28 : decode cX5_highestAge 28 = .ok (.iinc 2 1, 3) := dbc_233.1.2.2.2
theorem dX5_highestAge_31 : decode cX5_highestAge 31 = .ok (.goto (-27), 3) := dbc_233.2.1.1.1
theorem dX5_highestAge_34 : decode cX5_highestAge 34 = .ok (.iload_n 1, 1) := dbc_233.2.1.1.2
theorem dX5_highestAge_35 : decode cX5_highestAge 35 = .ok (.ireturn, 1) := dbc_233.2.1.2.1
theorem dX5_longestOwing_0 : decode cX5_longestOwing 0 = .ok (.aload_n 0, 1) := dbc_233.2.1.2.2
theorem dX5_longestOwing_1 : decode cX5_longestOwing 1 = .ok (.invokevirtual 272, 3) := dbc_233.2.2.1.1
theorem dX5_longestOwing_4 : decode cX5_longestOwing 4 = .ok (.istore_n 1, 1) := dbc_233.2.2.1.2
theorem dX5_longestOwing_5 : decode cX5_longestOwing 5 = .ok (.iconst 0, 1) := dbc_233.2.2.2.1
theorem dX5_longestOwing_6 : decode cX5_longestOwing 6 = .ok (.istore_n 2, 1) := dbc_233.2.2.2.2
theorem dbc_234 : (((((decode cX5_longestOwing 7 = .ok (.iload_n 2, 1)) ∧ (decode cX5_longestOwing 8 = .ok (.aload_n 0, 1))) ∧ ((decode cX5_longestOwing 9 = .ok (.getfield 12, 3)) ∧ (decode cX5_longestOwing 12 = .ok (.getfield 158, 3)))) ∧ (((decode cX5_longestOwing 15 = .ok (.if_icmp .ge 28, 3)) ∧ (decode cX5_longestOwing 18 = .ok (.iload_n 1, 1))) ∧ ((decode cX5_longestOwing 19 = .ok (.iconst (-1), 1)) ∧ (decode cX5_longestOwing 20 = .ok (.if_icmp .eq 17, 3))))) ∧ ((((decode cX5_longestOwing 23 = .ok (.aload_n 0, 1)) ∧ (decode cX5_longestOwing 24 = .ok (.getfield 12, 3))) ∧ ((decode cX5_longestOwing 27 = .ok (.iload_n 2, 1)) ∧ (decode cX5_longestOwing 28 = .ok (.invokevirtual 305, 3)))) ∧ (((decode cX5_longestOwing 31 = .ok (.iload_n 1, 1)) ∧ (decode cX5_longestOwing 32 = .ok (.if_icmp .ne 5, 3))) ∧ ((decode cX5_longestOwing 35 = .ok (.iload_n 2, 1)) ∧ (decode cX5_longestOwing 36 = .ok (.ireturn, 1)))))) := by decide +kernel
theorem dX5_longestOwing_7 : decode cX5_longestOwing 7 = .ok (.iload_n 2, 1) := dbc_234.1.1.1.1
theorem dX5_longestOwing_8 : decode cX5_longestOwing 8 = .ok (.aload_n 0, 1) := dbc_234.1.1.1.2
theorem dX5_longestOwing_9 : decode cX5_longestOwing 9 = .ok (.getfield 12, 3) := dbc_234.1.1.2.1
theorem dX5_longestOwing_12 : decode cX5_longestOwing 12 = .ok (.getfield 158, 3) := dbc_234.1.1.2.2
theorem dX5_longestOwing_15 : decode cX5_longestOwing 15 = .ok (.if_icmp .ge 28, 3) := dbc_234.1.2.1.1
theorem dX5_longestOwing_18 : decode cX5_longestOwing 18 = .ok (.iload_n 1, 1) := dbc_234.1.2.1.2
theorem dX5_longestOwing_19 : decode cX5_longestOwing 19 = .ok (.iconst (-1), 1) := dbc_234.1.2.2.1
theorem dX5_longestOwing_20 : decode cX5_longestOwing 20 = .ok (.if_icmp .eq 17, 3) := dbc_234.1.2.2.2
theorem dX5_longestOwing_23 : decode cX5_longestOwing 23 = .ok (.aload_n 0, 1) := dbc_234.2.1.1.1
theorem dX5_longestOwing_24 : decode cX5_longestOwing 24 = .ok (.getfield 12, 3) := dbc_234.2.1.1.2
theorem dX5_longestOwing_27 : decode cX5_longestOwing 27 = .ok (.iload_n 2, 1) := dbc_234.2.1.2.1
theorem dX5_longestOwing_28 : decode cX5_longestOwing 28 = .ok (.invokevirtual 305, 3) := dbc_234.2.1.2.2
theorem dX5_longestOwing_31 : decode cX5_longestOwing 31 = .ok (.iload_n 1, 1) := dbc_234.2.2.1.1
theorem dX5_longestOwing_32 : decode cX5_longestOwing 32 = .ok (.if_icmp .ne 5, 3) := dbc_234.2.2.1.2
theorem dX5_longestOwing_35 : decode cX5_longestOwing 35 = .ok (.iload_n 2, 1) := dbc_234.2.2.2.1
theorem dX5_longestOwing_36 : decode cX5_longestOwing 36 = .ok (.ireturn, 1) := dbc_234.2.2.2.2
theorem dbc_235 : (((((decode cX5_longestOwing 37 = .ok (.iinc 2 1, 3)) ∧ (decode cX5_longestOwing 40 = .ok (.goto (-33), 3))) ∧ ((decode cX5_longestOwing 43 = .ok (.bipush (-9), 2)) ∧ (decode cX5_longestOwing 45 = .ok (.ireturn, 1)))) ∧ (((decode cX5_lane 0 = .ok (.iconst 0, 1)) ∧ (decode cX5_lane 1 = .ok (.istore_n 1, 1))) ∧ ((decode cX5_lane 2 = .ok (.iconst 0, 1)) ∧ (decode cX5_lane 3 = .ok (.istore_n 2, 1))))) ∧ ((((decode cX5_lane 4 = .ok (.iload_n 2, 1)) ∧ (decode cX5_lane 5 = .ok (.aload_n 0, 1))) ∧ ((decode cX5_lane 6 = .ok (.getfield 12, 3)) ∧ (decode cX5_lane 9 = .ok (.getfield 148, 3)))) ∧ (((decode cX5_lane 12 = .ok (.if_icmp .ge 92, 3)) ∧ (decode cX5_lane 15 = .ok (.iload_n 2, 1))) ∧ ((decode cX5_lane 16 = .ok (.iconst 1, 1)) ∧ (decode cX5_lane 17 = .ok (.iadd, 1)))))) := by decide +kernel
theorem dX5_longestOwing_37 : decode cX5_longestOwing 37 = .ok (.iinc 2 1, 3) := dbc_235.1.1.1.1
theorem dX5_longestOwing_40 : decode cX5_longestOwing 40 = .ok (.goto (-33), 3) := dbc_235.1.1.1.2
theorem dX5_longestOwing_43 : decode cX5_longestOwing 43 = .ok (.bipush (-9), 2) := dbc_235.1.1.2.1
theorem dX5_longestOwing_45 : decode cX5_longestOwing 45 = .ok (.ireturn, 1) := dbc_235.1.1.2.2
theorem dX5_lane_0 : decode cX5_lane 0 = .ok (.iconst 0, 1) := dbc_235.1.2.1.1
theorem dX5_lane_1 : decode cX5_lane 1 = .ok (.istore_n 1, 1) := dbc_235.1.2.1.2
theorem dX5_lane_2 : decode cX5_lane 2 = .ok (.iconst 0, 1) := dbc_235.1.2.2.1
theorem dX5_lane_3 : decode cX5_lane 3 = .ok (.istore_n 2, 1) := dbc_235.1.2.2.2
theorem dX5_lane_4 : decode cX5_lane 4 = .ok (.iload_n 2, 1) := dbc_235.2.1.1.1
theorem dX5_lane_5 : decode cX5_lane 5 = .ok (.aload_n 0, 1) := dbc_235.2.1.1.2
theorem dX5_lane_6 : decode cX5_lane 6 = .ok (.getfield 12, 3) := dbc_235.2.1.2.1
theorem dX5_lane_9 : decode cX5_lane 9 = .ok (.getfield 148, 3) := dbc_235.2.1.2.2
theorem dX5_lane_12 : decode cX5_lane 12 = .ok (.if_icmp .ge 92, 3) := dbc_235.2.2.1.1
theorem dX5_lane_15 : decode cX5_lane 15 = .ok (.iload_n 2, 1) := dbc_235.2.2.1.2
theorem dX5_lane_16 : decode cX5_lane 16 = .ok (.iconst 1, 1) := dbc_235.2.2.2.1
theorem dX5_lane_17 : decode cX5_lane 17 = .ok (.iadd, 1) := dbc_235.2.2.2.2
theorem dbc_236 : (((((decode cX5_lane 18 = .ok (.istore_n 3, 1)) ∧ (decode cX5_lane 19 = .ok (.iload_n 3, 1))) ∧ ((decode cX5_lane 20 = .ok (.aload_n 0, 1)) ∧ (decode cX5_lane 21 = .ok (.getfield 12, 3)))) ∧ (((decode cX5_lane 24 = .ok (.getfield 148, 3)) ∧ (decode cX5_lane 27 = .ok (.if_icmp .ge 71, 3))) ∧ ((decode cX5_lane 30 = .ok (.aload_n 0, 1)) ∧ (decode cX5_lane 31 = .ok (.getfield 12, 3))))) ∧ ((((decode cX5_lane 34 = .ok (.iload_n 2, 1)) ∧ (decode cX5_lane 35 = .ok (.invokevirtual 103, 3))) ∧ ((decode cX5_lane 38 = .ok (.ifCond .eq 18, 3)) ∧ (decode cX5_lane 41 = .ok (.aload_n 0, 1)))) ∧ (((decode cX5_lane 42 = .ok (.getfield 12, 3)) ∧ (decode cX5_lane 45 = .ok (.iload_n 3, 1))) ∧ ((decode cX5_lane 46 = .ok (.invokevirtual 103, 3)) ∧ (decode cX5_lane 49 = .ok (.ifCond .eq 7, 3)))))) := by decide +kernel
theorem dX5_lane_18 : decode cX5_lane 18 = .ok (.istore_n 3, 1) := dbc_236.1.1.1.1
theorem dX5_lane_19 : decode cX5_lane 19 = .ok (.iload_n 3, 1) := dbc_236.1.1.1.2
theorem dX5_lane_20 : decode cX5_lane 20 = .ok (.aload_n 0, 1) := dbc_236.1.1.2.1
theorem dX5_lane_21 : decode cX5_lane 21 = .ok (.getfield 12, 3) := dbc_236.1.1.2.2
theorem dX5_lane_24 : decode cX5_lane 24 = .ok (.getfield 148, 3) := dbc_236.1.2.1.1
theorem dX5_lane_27 : decode cX5_lane 27 = .ok (.if_icmp .ge 71, 3) := dbc_236.1.2.1.2
theorem dX5_lane_30 : decode cX5_lane 30 = .ok (.aload_n 0, 1) := dbc_236.1.2.2.1
theorem dX5_lane_31 : decode cX5_lane 31 = .ok (.getfield 12, 3) := dbc_236.1.2.2.2
theorem dX5_lane_34 : decode cX5_lane 34 = .ok (.iload_n 2, 1) := dbc_236.2.1.1.1
theorem dX5_lane_35 : decode cX5_lane 35 = .ok (.invokevirtual 103, 3) := dbc_236.2.1.1.2
theorem dX5_lane_38 : decode cX5_lane 38 = .ok (.ifCond .eq 18, 3) := dbc_236.2.1.2.1
theorem dX5_lane_41 : decode cX5_lane 41 = .ok (.aload_n 0, 1) := dbc_236.2.1.2.2
theorem dX5_lane_42 : decode cX5_lane 42 = .ok (.getfield 12, 3) := dbc_236.2.2.1.1
theorem dX5_lane_45 : decode cX5_lane 45 = .ok (.iload_n 3, 1) := dbc_236.2.2.1.2
theorem dX5_lane_46 : decode cX5_lane 46 = .ok (.invokevirtual 103, 3) := dbc_236.2.2.2.1
theorem dX5_lane_49 : decode cX5_lane 49 = .ok (.ifCond .eq 7, 3) := dbc_236.2.2.2.2
theorem dbc_237 : (((((decode cX5_lane 52 = .ok (.iconst 1, 1)) ∧ (decode cX5_lane 53 = .ok (.goto 4, 3))) ∧ ((decode cX5_lane 56 = .ok (.iconst 0, 1)) ∧ (decode cX5_lane 57 = .ok (.istore 4, 2)))) ∧ (((decode cX5_lane 59 = .ok (.iload 4, 2)) ∧ (decode cX5_lane 61 = .ok (.ifCond .eq 31, 3))) ∧ ((decode cX5_lane 64 = .ok (.aload_n 0, 1)) ∧ (decode cX5_lane 65 = .ok (.getfield 12, 3))))) ∧ ((((decode cX5_lane 68 = .ok (.getfield 100, 3)) ∧ (decode cX5_lane 71 = .ok (.iload_n 2, 1))) ∧ ((decode cX5_lane 72 = .ok (.iaload, 1)) ∧ (decode cX5_lane 73 = .ok (.aload_n 0, 1)))) ∧ (((decode cX5_lane 74 = .ok (.getfield 12, 3)) ∧ (decode cX5_lane 77 = .ok (.getfield 100, 3))) ∧ ((decode cX5_lane 80 = .ok (.iload_n 3, 1)) ∧ (decode cX5_lane 81 = .ok (.iaload, 1)))))) := by decide +kernel
theorem dX5_lane_52 : decode cX5_lane 52 = .ok (.iconst 1, 1) := dbc_237.1.1.1.1
theorem dX5_lane_53 : decode cX5_lane 53 = .ok (.goto 4, 3) := dbc_237.1.1.1.2
theorem dX5_lane_56 : decode cX5_lane 56 = .ok (.iconst 0, 1) := dbc_237.1.1.2.1
theorem dX5_lane_57 : decode cX5_lane 57 = .ok (.istore 4, 2) := dbc_237.1.1.2.2
theorem dX5_lane_59 : decode cX5_lane 59 = .ok (.iload 4, 2) := dbc_237.1.2.1.1
theorem dX5_lane_61 : decode cX5_lane 61 = .ok (.ifCond .eq 31, 3) := dbc_237.1.2.1.2
theorem dX5_lane_64 : decode cX5_lane 64 = .ok (.aload_n 0, 1) := dbc_237.1.2.2.1
theorem dX5_lane_65 : decode cX5_lane 65 = .ok (.getfield 12, 3) := dbc_237.1.2.2.2
theorem dX5_lane_68 : decode cX5_lane 68 = .ok (.getfield 100, 3) := dbc_237.2.1.1.1
theorem dX5_lane_71 : decode cX5_lane 71 = .ok (.iload_n 2, 1) := dbc_237.2.1.1.2
theorem dX5_lane_72 : decode cX5_lane 72 = .ok (.iaload, 1) := dbc_237.2.1.2.1
theorem dX5_lane_73 : decode cX5_lane 73 = .ok (.aload_n 0, 1) := dbc_237.2.1.2.2
theorem dX5_lane_74 : decode cX5_lane 74 = .ok (.getfield 12, 3) := dbc_237.2.2.1.1
theorem dX5_lane_77 : decode cX5_lane 77 = .ok (.getfield 100, 3) := dbc_237.2.2.1.2
theorem dX5_lane_80 : decode cX5_lane 80 = .ok (.iload_n 3, 1) := dbc_237.2.2.2.1
theorem dX5_lane_81 : decode cX5_lane 81 = .ok (.iaload, 1) := dbc_237.2.2.2.2
theorem dbc_238 : (((((decode cX5_lane 82 = .ok (.invokestatic 204, 3)) ∧ (decode cX5_lane 85 = .ok (.iconst 2, 1))) ∧ ((decode cX5_lane 86 = .ok (.if_icmp .gt 6, 3)) ∧ (decode cX5_lane 89 = .ok (.iinc 1 1, 3)))) ∧ (((decode cX5_lane 92 = .ok (.iinc 3 1, 3)) ∧ (decode cX5_lane 95 = .ok (.goto (-76), 3))) ∧ ((decode cX5_lane 98 = .ok (.iinc 2 1, 3)) ∧ (decode cX5_lane 101 = .ok (.goto (-97), 3))))) ∧ ((((decode cX5_lane 104 = .ok (.iload_n 1, 1)) ∧ (decode cX5_lane 105 = .ok (.ireturn, 1))) ∧ ((decode cX5_eveningsOfNewDebts 0 = .ok (.lconst 0, 1)) ∧ (decode cX5_eveningsOfNewDebts 1 = .ok (.lstore_n 1, 1)))) ∧ (((decode cX5_eveningsOfNewDebts 2 = .ok (.iconst 0, 1)) ∧ (decode cX5_eveningsOfNewDebts 3 = .ok (.istore_n 3, 1))) ∧ ((decode cX5_eveningsOfNewDebts 4 = .ok (.iload_n 3, 1)) ∧ (decode cX5_eveningsOfNewDebts 5 = .ok (.aload_n 0, 1)))))) := by decide +kernel
theorem dX5_lane_82 : decode cX5_lane 82 = .ok (.invokestatic 204, 3) := dbc_238.1.1.1.1
theorem dX5_lane_85 : decode cX5_lane 85 = .ok (.iconst 2, 1) := dbc_238.1.1.1.2
theorem dX5_lane_86 : decode cX5_lane 86 = .ok (.if_icmp .gt 6, 3) := dbc_238.1.1.2.1
theorem dX5_lane_89 : decode cX5_lane 89 = .ok (.iinc 1 1, 3) := dbc_238.1.1.2.2
theorem dX5_lane_92 : decode cX5_lane 92 = .ok (.iinc 3 1, 3) := dbc_238.1.2.1.1
theorem dX5_lane_95 : decode cX5_lane 95 = .ok (.goto (-76), 3) := dbc_238.1.2.1.2
theorem dX5_lane_98 : decode cX5_lane 98 = .ok (.iinc 2 1, 3) := dbc_238.1.2.2.1
theorem dX5_lane_101 : decode cX5_lane 101 = .ok (.goto (-97), 3) := dbc_238.1.2.2.2
theorem dX5_lane_104 : decode cX5_lane 104 = .ok (.iload_n 1, 1) := dbc_238.2.1.1.1
theorem dX5_lane_105 : decode cX5_lane 105 = .ok (.ireturn, 1) := dbc_238.2.1.1.2
theorem dX5_eveningsOfNewDebts_0 : decode cX5_eveningsOfNewDebts 0 = .ok (.lconst 0, 1) := dbc_238.2.1.2.1
theorem dX5_eveningsOfNewDebts_1 : decode cX5_eveningsOfNewDebts 1 = .ok (.lstore_n 1, 1) := dbc_238.2.1.2.2
theorem dX5_eveningsOfNewDebts_2 : decode cX5_eveningsOfNewDebts 2 = .ok (.iconst 0, 1) := dbc_238.2.2.1.1
theorem dX5_eveningsOfNewDebts_3 : decode cX5_eveningsOfNewDebts 3 = .ok (.istore_n 3, 1) := dbc_238.2.2.1.2
theorem dX5_eveningsOfNewDebts_4 : decode cX5_eveningsOfNewDebts 4 = .ok (.iload_n 3, 1) := dbc_238.2.2.2.1
theorem dX5_eveningsOfNewDebts_5 : decode cX5_eveningsOfNewDebts 5 = .ok (.aload_n 0, 1) := dbc_238.2.2.2.2
theorem dbc_239 : (((((decode cX5_eveningsOfNewDebts 6 = .ok (.getfield 12, 3)) ∧ (decode cX5_eveningsOfNewDebts 9 = .ok (.getfield 158, 3))) ∧ ((decode cX5_eveningsOfNewDebts 12 = .ok (.if_icmp .ge 72, 3)) ∧ (decode cX5_eveningsOfNewDebts 15 = .ok (.iconst 0, 1)))) ∧ (((decode cX5_eveningsOfNewDebts 16 = .ok (.istore 4, 2)) ∧ (decode cX5_eveningsOfNewDebts 18 = .ok (.iload 4, 2))) ∧ ((decode cX5_eveningsOfNewDebts 20 = .ok (.aload_n 0, 1)) ∧ (decode cX5_eveningsOfNewDebts 21 = .ok (.getfield 12, 3))))) ∧ ((((decode cX5_eveningsOfNewDebts 24 = .ok (.getfield 148, 3)) ∧ (decode cX5_eveningsOfNewDebts 27 = .ok (.if_icmp .ge 51, 3))) ∧ ((decode cX5_eveningsOfNewDebts 30 = .ok (.aload_n 0, 1)) ∧ (decode cX5_eveningsOfNewDebts 31 = .ok (.getfield 12, 3)))) ∧ (((decode cX5_eveningsOfNewDebts 34 = .ok (.iload_n 3, 1)) ∧ (decode cX5_eveningsOfNewDebts 35 = .ok (.iload 4, 2))) ∧ ((decode cX5_eveningsOfNewDebts 37 = .ok (.invokevirtual 140, 3)) ∧ (decode cX5_eveningsOfNewDebts 40 = .ok (.ifCond .eq 6, 3)))))) := by decide +kernel
theorem dX5_eveningsOfNewDebts_6 : decode cX5_eveningsOfNewDebts 6 = .ok (.getfield 12, 3) := dbc_239.1.1.1.1
theorem dX5_eveningsOfNewDebts_9 : decode cX5_eveningsOfNewDebts 9 = .ok (.getfield 158, 3) := dbc_239.1.1.1.2
theorem dX5_eveningsOfNewDebts_12 : decode cX5_eveningsOfNewDebts 12 = .ok (.if_icmp .ge 72, 3) := dbc_239.1.1.2.1
theorem dX5_eveningsOfNewDebts_15 : decode cX5_eveningsOfNewDebts 15 = .ok (.iconst 0, 1) := dbc_239.1.1.2.2
theorem dX5_eveningsOfNewDebts_16 : decode cX5_eveningsOfNewDebts 16 = .ok (.istore 4, 2) := dbc_239.1.2.1.1
theorem dX5_eveningsOfNewDebts_18 : decode cX5_eveningsOfNewDebts 18 = .ok (.iload 4, 2) := dbc_239.1.2.1.2
theorem dX5_eveningsOfNewDebts_20 : decode cX5_eveningsOfNewDebts 20 = .ok (.aload_n 0, 1) := dbc_239.1.2.2.1
theorem dX5_eveningsOfNewDebts_21 : decode cX5_eveningsOfNewDebts 21 = .ok (.getfield 12, 3) := dbc_239.1.2.2.2
theorem dX5_eveningsOfNewDebts_24 : decode cX5_eveningsOfNewDebts 24 = .ok (.getfield 148, 3) := dbc_239.2.1.1.1
theorem dX5_eveningsOfNewDebts_27 : decode cX5_eveningsOfNewDebts 27 = .ok (.if_icmp .ge 51, 3) := dbc_239.2.1.1.2
theorem dX5_eveningsOfNewDebts_30 : decode cX5_eveningsOfNewDebts 30 = .ok (.aload_n 0, 1) := dbc_239.2.1.2.1
theorem dX5_eveningsOfNewDebts_31 : decode cX5_eveningsOfNewDebts 31 = .ok (.getfield 12, 3) := dbc_239.2.1.2.2
theorem dX5_eveningsOfNewDebts_34 : decode cX5_eveningsOfNewDebts 34 = .ok (.iload_n 3, 1) := dbc_239.2.2.1.1
theorem dX5_eveningsOfNewDebts_35 : decode cX5_eveningsOfNewDebts 35 = .ok (.iload 4, 2) := dbc_239.2.2.1.2
theorem dX5_eveningsOfNewDebts_37 : decode cX5_eveningsOfNewDebts 37 = .ok (.invokevirtual 140, 3) := dbc_239.2.2.2.1
theorem dX5_eveningsOfNewDebts_40 : decode cX5_eveningsOfNewDebts 40 = .ok (.ifCond .eq 6, 3) := dbc_239.2.2.2.2
theorem dbc_240 : (((((decode cX5_eveningsOfNewDebts 43 = .ok (.goto 29, 3)) ∧ (decode cX5_eveningsOfNewDebts 46 = .ok (.aload_n 0, 1))) ∧ ((decode cX5_eveningsOfNewDebts 47 = .ok (.getfield 12, 3)) ∧ (decode cX5_eveningsOfNewDebts 50 = .ok (.iload_n 3, 1)))) ∧ (((decode cX5_eveningsOfNewDebts 51 = .ok (.iload 4, 2)) ∧ (decode cX5_eveningsOfNewDebts 53 = .ok (.bipush 61, 2))) ∧ ((decode cX5_eveningsOfNewDebts 55 = .ok (.invokevirtual 201, 3)) ∧ (decode cX5_eveningsOfNewDebts 58 = .ok (.istore 5, 2))))) ∧ ((((decode cX5_eveningsOfNewDebts 60 = .ok (.iload 5, 2)) ∧ (decode cX5_eveningsOfNewDebts 62 = .ok (.ifCond .le 10, 3))) ∧ ((decode cX5_eveningsOfNewDebts 65 = .ok (.lload_n 1, 1)) ∧ (decode cX5_eveningsOfNewDebts 66 = .ok (.lconst 1, 1)))) ∧ (((decode cX5_eveningsOfNewDebts 67 = .ok (.iload 5, 2)) ∧ (decode cX5_eveningsOfNewDebts 69 = .ok (.lshl, 1))) ∧ ((decode cX5_eveningsOfNewDebts 70 = .ok (.lor, 1)) ∧ (decode cX5_eveningsOfNewDebts 71 = .ok (.lstore_n 1, 1)))))) := by decide +kernel
theorem dX5_eveningsOfNewDebts_43 : decode cX5_eveningsOfNewDebts 43 = .ok (.goto 29, 3) := dbc_240.1.1.1.1
theorem dX5_eveningsOfNewDebts_46 : decode cX5_eveningsOfNewDebts 46 = .ok (.aload_n 0, 1) := dbc_240.1.1.1.2
theorem dX5_eveningsOfNewDebts_47 : decode cX5_eveningsOfNewDebts 47 = .ok (.getfield 12, 3) := dbc_240.1.1.2.1
theorem dX5_eveningsOfNewDebts_50 : decode cX5_eveningsOfNewDebts 50 = .ok (.iload_n 3, 1) := dbc_240.1.1.2.2
theorem dX5_eveningsOfNewDebts_51 : decode cX5_eveningsOfNewDebts 51 = .ok (.iload 4, 2) := dbc_240.1.2.1.1
theorem dX5_eveningsOfNewDebts_53 : decode cX5_eveningsOfNewDebts 53 = .ok (.bipush 61, 2) := dbc_240.1.2.1.2
theorem dX5_eveningsOfNewDebts_55 : decode cX5_eveningsOfNewDebts 55 = .ok (.invokevirtual 201, 3) := dbc_240.1.2.2.1
theorem dX5_eveningsOfNewDebts_58 : decode cX5_eveningsOfNewDebts 58 = .ok (.istore 5, 2) := dbc_240.1.2.2.2
theorem dX5_eveningsOfNewDebts_60 : decode cX5_eveningsOfNewDebts 60 = .ok (.iload 5, 2) := dbc_240.2.1.1.1
theorem dX5_eveningsOfNewDebts_62 : decode cX5_eveningsOfNewDebts 62 = .ok (.ifCond .le 10, 3) := dbc_240.2.1.1.2
theorem dX5_eveningsOfNewDebts_65 : decode cX5_eveningsOfNewDebts 65 = .ok (.lload_n 1, 1) := dbc_240.2.1.2.1
theorem dX5_eveningsOfNewDebts_66 : decode cX5_eveningsOfNewDebts 66 = .ok (.lconst 1, 1) := dbc_240.2.1.2.2
theorem dX5_eveningsOfNewDebts_67 : decode cX5_eveningsOfNewDebts 67 = .ok (.iload 5, 2) := dbc_240.2.2.1.1
theorem dX5_eveningsOfNewDebts_69 : decode cX5_eveningsOfNewDebts 69 = .ok (.lshl, 1) := dbc_240.2.2.1.2
theorem dX5_eveningsOfNewDebts_70 : decode cX5_eveningsOfNewDebts 70 = .ok (.lor, 1) := dbc_240.2.2.2.1
theorem dX5_eveningsOfNewDebts_71 : decode cX5_eveningsOfNewDebts 71 = .ok (.lstore_n 1, 1) := dbc_240.2.2.2.2
theorem dbc_241 : (((((decode cX5_eveningsOfNewDebts 72 = .ok (.iinc 4 1, 3)) ∧ (decode cX5_eveningsOfNewDebts 75 = .ok (.goto (-57), 3))) ∧ ((decode cX5_eveningsOfNewDebts 78 = .ok (.iinc 3 1, 3)) ∧ (decode cX5_eveningsOfNewDebts 81 = .ok (.goto (-77), 3)))) ∧ (((decode cX5_eveningsOfNewDebts 84 = .ok (.lload_n 1, 1)) ∧ (decode cX5_eveningsOfNewDebts 85 = .ok (.lreturn, 1))) ∧ ((decode cX5_nextSeed 0 = .ok (.iload_n 0, 1)) ∧ (decode cX5_nextSeed 1 = .ok (.ldc_w 308, 3))))) ∧ ((((decode cX5_nextSeed 4 = .ok (.imul, 1)) ∧ (decode cX5_nextSeed 5 = .ok (.sipush 12345, 3))) ∧ ((decode cX5_nextSeed 8 = .ok (.iadd, 1)) ∧ (decode cX5_nextSeed 9 = .ok (.ireturn, 1)))) ∧ (((decode cX5_drawnCell 0 = .ok (.iload_n 0, 1)) ∧ (decode cX5_drawnCell 1 = .ok (.ldc_w 309, 3))) ∧ ((decode cX5_drawnCell 4 = .ok (.iand, 1)) ∧ (decode cX5_drawnCell 5 = .ok (.ldc_w 310, 3)))))) := by decide +kernel
theorem dX5_eveningsOfNewDebts_72 : decode cX5_eveningsOfNewDebts 72 = .ok (.iinc 4 1, 3) := dbc_241.1.1.1.1
theorem dX5_eveningsOfNewDebts_75 : decode cX5_eveningsOfNewDebts 75 = .ok (.goto (-57), 3) := dbc_241.1.1.1.2
theorem dX5_eveningsOfNewDebts_78 : decode cX5_eveningsOfNewDebts 78 = .ok (.iinc 3 1, 3) := dbc_241.1.1.2.1
theorem dX5_eveningsOfNewDebts_81 : decode cX5_eveningsOfNewDebts 81 = .ok (.goto (-77), 3) := dbc_241.1.1.2.2
theorem dX5_eveningsOfNewDebts_84 : decode cX5_eveningsOfNewDebts 84 = .ok (.lload_n 1, 1) := dbc_241.1.2.1.1
theorem dX5_eveningsOfNewDebts_85 : decode cX5_eveningsOfNewDebts 85 = .ok (.lreturn, 1) := dbc_241.1.2.1.2
theorem dX5_nextSeed_0 : decode cX5_nextSeed 0 = .ok (.iload_n 0, 1) := dbc_241.1.2.2.1
theorem dX5_nextSeed_1 : decode cX5_nextSeed 1 = .ok (.ldc_w 308, 3) := dbc_241.1.2.2.2
theorem dX5_nextSeed_4 : decode cX5_nextSeed 4 = .ok (.imul, 1) := dbc_241.2.1.1.1
theorem dX5_nextSeed_5 : decode cX5_nextSeed 5 = .ok (.sipush 12345, 3) := dbc_241.2.1.1.2
theorem dX5_nextSeed_8 : decode cX5_nextSeed 8 = .ok (.iadd, 1) := dbc_241.2.1.2.1
theorem dX5_nextSeed_9 : decode cX5_nextSeed 9 = .ok (.ireturn, 1) := dbc_241.2.1.2.2
theorem dX5_drawnCell_0 : decode cX5_drawnCell 0 = .ok (.iload_n 0, 1) := dbc_241.2.2.1.1
theorem dX5_drawnCell_1 : decode cX5_drawnCell 1 = .ok (.ldc_w 309, 3) := dbc_241.2.2.1.2
theorem dX5_drawnCell_4 : decode cX5_drawnCell 4 = .ok (.iand, 1) := dbc_241.2.2.2.1
theorem dX5_drawnCell_5 : decode cX5_drawnCell 5 = .ok (.ldc_w 310, 3) := dbc_241.2.2.2.2
theorem dbc_242 : (((((decode cX5_drawnCell 8 = .ok (.idiv, 1)) ∧ (decode cX5_drawnCell 9 = .ok (.bipush 49, 2))) ∧ ((decode cX5_drawnCell 11 = .ok (.irem, 1)) ∧ (decode cX5_drawnCell 12 = .ok (.ireturn, 1)))) ∧ (((decode cX5_isCell 0 = .ok (.iload_n 0, 1)) ∧ (decode cX5_isCell 1 = .ok (.ifCond .lt 13, 3))) ∧ ((decode cX5_isCell 4 = .ok (.iload_n 0, 1)) ∧ (decode cX5_isCell 5 = .ok (.bipush 49, 2))))) ∧ ((((decode cX5_isCell 7 = .ok (.if_icmp .ge 7, 3)) ∧ (decode cX5_isCell 10 = .ok (.iconst 1, 1))) ∧ ((decode cX5_isCell 11 = .ok (.goto 4, 3)) ∧ (decode cX5_isCell 14 = .ok (.iconst 0, 1)))) ∧ (((decode cX5_isCell 15 = .ok (.ireturn, 1)) ∧ (decode cX5_steps 0 = .ok (.iload_n 0, 1))) ∧ ((decode cX5_steps 1 = .ok (.bipush 7, 2)) ∧ (decode cX5_steps 3 = .ok (.idiv, 1)))))) := by decide +kernel
theorem dX5_drawnCell_8 : decode cX5_drawnCell 8 = .ok (.idiv, 1) := dbc_242.1.1.1.1
theorem dX5_drawnCell_9 : decode cX5_drawnCell 9 = .ok (.bipush 49, 2) := dbc_242.1.1.1.2
theorem dX5_drawnCell_11 : decode cX5_drawnCell 11 = .ok (.irem, 1) := dbc_242.1.1.2.1
theorem dX5_drawnCell_12 : decode cX5_drawnCell 12 = .ok (.ireturn, 1) := dbc_242.1.1.2.2
theorem dX5_isCell_0 : decode cX5_isCell 0 = .ok (.iload_n 0, 1) := dbc_242.1.2.1.1
theorem dX5_isCell_1 : decode cX5_isCell 1 = .ok (.ifCond .lt 13, 3) := dbc_242.1.2.1.2
theorem dX5_isCell_4 : decode cX5_isCell 4 = .ok (.iload_n 0, 1) := dbc_242.1.2.2.1
theorem dX5_isCell_5 : decode cX5_isCell 5 = .ok (.bipush 49, 2) := dbc_242.1.2.2.2
theorem dX5_isCell_7 : decode cX5_isCell 7 = .ok (.if_icmp .ge 7, 3) := dbc_242.2.1.1.1
theorem dX5_isCell_10 : decode cX5_isCell 10 = .ok (.iconst 1, 1) := dbc_242.2.1.1.2
theorem dX5_isCell_11 : decode cX5_isCell 11 = .ok (.goto 4, 3) := dbc_242.2.1.2.1
theorem dX5_isCell_14 : decode cX5_isCell 14 = .ok (.iconst 0, 1) := dbc_242.2.1.2.2
theorem dX5_isCell_15 : decode cX5_isCell 15 = .ok (.ireturn, 1) := dbc_242.2.2.1.1
theorem dX5_steps_0 : decode cX5_steps 0 = .ok (.iload_n 0, 1) := dbc_242.2.2.1.2
theorem dX5_steps_1 : decode cX5_steps 1 = .ok (.bipush 7, 2) := dbc_242.2.2.2.1
theorem dX5_steps_3 : decode cX5_steps 3 = .ok (.idiv, 1) := dbc_242.2.2.2.2
theorem dbc_243 : (((((decode cX5_steps 4 = .ok (.iload_n 1, 1)) ∧ (decode cX5_steps 5 = .ok (.bipush 7, 2))) ∧ ((decode cX5_steps 7 = .ok (.idiv, 1)) ∧ (decode cX5_steps 8 = .ok (.isub, 1)))) ∧ (((decode cX5_steps 9 = .ok (.invokestatic 311, 3)) ∧ (decode cX5_steps 12 = .ok (.iload_n 0, 1))) ∧ ((decode cX5_steps 13 = .ok (.bipush 7, 2)) ∧ (decode cX5_steps 15 = .ok (.irem, 1))))) ∧ ((((decode cX5_steps 16 = .ok (.iload_n 1, 1)) ∧ (decode cX5_steps 17 = .ok (.bipush 7, 2))) ∧ ((decode cX5_steps 19 = .ok (.irem, 1)) ∧ (decode cX5_steps 20 = .ok (.isub, 1)))) ∧ (((decode cX5_steps 21 = .ok (.invokestatic 311, 3)) ∧ (decode cX5_steps 24 = .ok (.iadd, 1))) ∧ ((decode cX5_steps 25 = .ok (.ireturn, 1)) ∧ (decode cX5_stepTowards 0 = .ok (.iload_n 0, 1)))))) := by decide +kernel
theorem dX5_steps_4 : decode cX5_steps 4 = .ok (.iload_n 1, 1) := dbc_243.1.1.1.1
theorem dX5_steps_5 : decode cX5_steps 5 = .ok (.bipush 7, 2) := dbc_243.1.1.1.2
theorem dX5_steps_7 : decode cX5_steps 7 = .ok (.idiv, 1) := dbc_243.1.1.2.1
theorem dX5_steps_8 : decode cX5_steps 8 = .ok (.isub, 1) := dbc_243.1.1.2.2
theorem dX5_steps_9 : decode cX5_steps 9 = .ok (.invokestatic 311, 3) := dbc_243.1.2.1.1
theorem dX5_steps_12 : decode cX5_steps 12 = .ok (.iload_n 0, 1) := dbc_243.1.2.1.2
theorem dX5_steps_13 : decode cX5_steps 13 = .ok (.bipush 7, 2) := dbc_243.1.2.2.1
theorem dX5_steps_15 : decode cX5_steps 15 = .ok (.irem, 1) := dbc_243.1.2.2.2
theorem dX5_steps_16 : decode cX5_steps 16 = .ok (.iload_n 1, 1) := dbc_243.2.1.1.1
theorem dX5_steps_17 : decode cX5_steps 17 = .ok (.bipush 7, 2) := dbc_243.2.1.1.2
theorem dX5_steps_19 : decode cX5_steps 19 = .ok (.irem, 1) := dbc_243.2.1.2.1
theorem dX5_steps_20 : decode cX5_steps 20 = .ok (.isub, 1) := dbc_243.2.1.2.2
theorem dX5_steps_21 : decode cX5_steps 21 = .ok (.invokestatic 311, 3) := dbc_243.2.2.1.1
theorem dX5_steps_24 : decode cX5_steps 24 = .ok (.iadd, 1) := dbc_243.2.2.1.2
theorem dX5_steps_25 : decode cX5_steps 25 = .ok (.ireturn, 1) := dbc_243.2.2.2.1
theorem dX5_stepTowards_0 : decode cX5_stepTowards 0 = .ok (.iload_n 0, 1) := dbc_243.2.2.2.2
theorem dbc_244 : (((((decode cX5_stepTowards 1 = .ok (.bipush 7, 2)) ∧ (decode cX5_stepTowards 3 = .ok (.idiv, 1))) ∧ ((decode cX5_stepTowards 4 = .ok (.iload_n 1, 1)) ∧ (decode cX5_stepTowards 5 = .ok (.bipush 7, 2)))) ∧ (((decode cX5_stepTowards 7 = .ok (.idiv, 1)) ∧ (decode cX5_stepTowards 8 = .ok (.if_icmp .ge 8, 3))) ∧ ((decode cX5_stepTowards 11 = .ok (.iload_n 0, 1)) ∧ (decode cX5_stepTowards 12 = .ok (.bipush 7, 2))))) ∧ ((((decode cX5_stepTowards 14 = .ok (.iadd, 1)) ∧ (decode cX5_stepTowards 15 = .ok (.ireturn, 1))) ∧ ((decode cX5_stepTowards 16 = .ok (.iload_n 0, 1)) ∧ (decode cX5_stepTowards 17 = .ok (.bipush 7, 2)))) ∧ (((decode cX5_stepTowards 19 = .ok (.idiv, 1)) ∧ (decode cX5_stepTowards 20 = .ok (.iload_n 1, 1))) ∧ ((decode cX5_stepTowards 21 = .ok (.bipush 7, 2)) ∧ (decode cX5_stepTowards 23 = .ok (.idiv, 1)))))) := by decide +kernel
theorem dX5_stepTowards_1 : decode cX5_stepTowards 1 = .ok (.bipush 7, 2) := dbc_244.1.1.1.1
theorem dX5_stepTowards_3 : decode cX5_stepTowards 3 = .ok (.idiv, 1) := dbc_244.1.1.1.2
theorem dX5_stepTowards_4 : decode cX5_stepTowards 4 = .ok (.iload_n 1, 1) := dbc_244.1.1.2.1
theorem dX5_stepTowards_5 : decode cX5_stepTowards 5 = .ok (.bipush 7, 2) := dbc_244.1.1.2.2
theorem dX5_stepTowards_7 : decode cX5_stepTowards 7 = .ok (.idiv, 1) := dbc_244.1.2.1.1
theorem dX5_stepTowards_8 : decode cX5_stepTowards 8 = .ok (.if_icmp .ge 8, 3) := dbc_244.1.2.1.2
theorem dX5_stepTowards_11 : decode cX5_stepTowards 11 = .ok (.iload_n 0, 1) := dbc_244.1.2.2.1
theorem dX5_stepTowards_12 : decode cX5_stepTowards 12 = .ok (.bipush 7, 2) := dbc_244.1.2.2.2
theorem dX5_stepTowards_14 : decode cX5_stepTowards 14 = .ok (.iadd, 1) := dbc_244.2.1.1.1
theorem dX5_stepTowards_15 : decode cX5_stepTowards 15 = .ok (.ireturn, 1) := dbc_244.2.1.1.2
theorem dX5_stepTowards_16 : decode cX5_stepTowards 16 = .ok (.iload_n 0, 1) := dbc_244.2.1.2.1
theorem dX5_stepTowards_17 : decode cX5_stepTowards 17 = .ok (.bipush 7, 2) := dbc_244.2.1.2.2
theorem dX5_stepTowards_19 : decode cX5_stepTowards 19 = .ok (.idiv, 1) := dbc_244.2.2.1.1
theorem dX5_stepTowards_20 : decode cX5_stepTowards 20 = .ok (.iload_n 1, 1) := dbc_244.2.2.1.2
theorem dX5_stepTowards_21 : decode cX5_stepTowards 21 = .ok (.bipush 7, 2) := dbc_244.2.2.2.1
theorem dX5_stepTowards_23 : decode cX5_stepTowards 23 = .ok (.idiv, 1) := dbc_244.2.2.2.2
theorem dbc_245 : (((((decode cX5_stepTowards 24 = .ok (.if_icmp .le 8, 3)) ∧ (decode cX5_stepTowards 27 = .ok (.iload_n 0, 1))) ∧ ((decode cX5_stepTowards 28 = .ok (.bipush 7, 2)) ∧ (decode cX5_stepTowards 30 = .ok (.isub, 1)))) ∧ (((decode cX5_stepTowards 31 = .ok (.ireturn, 1)) ∧ (decode cX5_stepTowards 32 = .ok (.iload_n 0, 1))) ∧ ((decode cX5_stepTowards 33 = .ok (.iload_n 1, 1)) ∧ (decode cX5_stepTowards 34 = .ok (.iload_n 0, 1))))) ∧ ((((decode cX5_stepTowards 35 = .ok (.invokestatic 314, 3)) ∧ (decode cX5_stepTowards 38 = .ok (.iadd, 1))) ∧ ((decode cX5_stepTowards 39 = .ok (.ireturn, 1)) ∧ (decode cX5_reach 0 = .ok (.iload_n 0, 1)))) ∧ (((decode cX5_reach 1 = .ok (.tableswitch 57 0 5 #[39, 41, 57, 43, 49, 51], 39)) ∧ (decode cX5_reach 40 = .ok (.iconst 2, 1))) ∧ ((decode cX5_reach 41 = .ok (.ireturn, 1)) ∧ (decode cX5_reach 42 = .ok (.iconst 3, 1)))))) := by decide +kernel
theorem dX5_stepTowards_24 : decode cX5_stepTowards 24 = .ok (.if_icmp .le 8, 3) := dbc_245.1.1.1.1
theorem dX5_stepTowards_27 : decode cX5_stepTowards 27 = .ok (.iload_n 0, 1) := dbc_245.1.1.1.2
theorem dX5_stepTowards_28 : decode cX5_stepTowards 28 = .ok (.bipush 7, 2) := dbc_245.1.1.2.1
theorem dX5_stepTowards_30 : decode cX5_stepTowards 30 = .ok (.isub, 1) := dbc_245.1.1.2.2
theorem dX5_stepTowards_31 : decode cX5_stepTowards 31 = .ok (.ireturn, 1) := dbc_245.1.2.1.1
theorem dX5_stepTowards_32 : decode cX5_stepTowards 32 = .ok (.iload_n 0, 1) := dbc_245.1.2.1.2
theorem dX5_stepTowards_33 : decode cX5_stepTowards 33 = .ok (.iload_n 1, 1) := dbc_245.1.2.2.1
theorem dX5_stepTowards_34 : decode cX5_stepTowards 34 = .ok (.iload_n 0, 1) := dbc_245.1.2.2.2
theorem dX5_stepTowards_35 : decode cX5_stepTowards 35 = .ok (.invokestatic 314, 3) := dbc_245.2.1.1.1
theorem dX5_stepTowards_38 : decode cX5_stepTowards 38 = .ok (.iadd, 1) := dbc_245.2.1.1.2
theorem dX5_stepTowards_39 : decode cX5_stepTowards 39 = .ok (.ireturn, 1) := dbc_245.2.1.2.1
theorem dX5_reach_0 : decode cX5_reach 0 = .ok (.iload_n 0, 1) := dbc_245.2.1.2.2
theorem dX5_reach_1 : decode cX5_reach 1 = .ok (.tableswitch 57 0 5 #[39, 41, 57, 43, 49, 51], 39) := dbc_245.2.2.1.1
theorem dX5_reach_40 : decode cX5_reach 40 = .ok (.iconst 2, 1) := dbc_245.2.2.1.2
theorem dX5_reach_41 : decode cX5_reach 41 = .ok (.ireturn, 1) := dbc_245.2.2.2.1
theorem dX5_reach_42 : decode cX5_reach 42 = .ok (.iconst 3, 1) := dbc_245.2.2.2.2
theorem dbc_246 : (((((decode cX5_reach 43 = .ok (.ireturn, 1)) ∧ (decode cX5_reach 44 = .ok (.iconst 2, 1))) ∧ ((decode cX5_reach 45 = .ok (.iload_n 1, 1)) ∧ (decode cX5_reach 46 = .ok (.iconst 2, 1)))) ∧ (((decode cX5_reach 47 = .ok (.idiv, 1)) ∧ (decode cX5_reach 48 = .ok (.iadd, 1))) ∧ ((decode cX5_reach 49 = .ok (.ireturn, 1)) ∧ (decode cX5_reach 50 = .ok (.iconst 1, 1))))) ∧ ((((decode cX5_reach 51 = .ok (.ireturn, 1)) ∧ (decode cX5_reach 52 = .ok (.iconst 4, 1))) ∧ ((decode cX5_reach 53 = .ok (.iload_n 1, 1)) ∧ (decode cX5_reach 54 = .ok (.iconst 2, 1)))) ∧ (((decode cX5_reach 55 = .ok (.idiv, 1)) ∧ (decode cX5_reach 56 = .ok (.iadd, 1))) ∧ ((decode cX5_reach 57 = .ok (.ireturn, 1)) ∧ (decode cX5_reach 58 = .ok (.iconst 0, 1)))))) := by decide +kernel
theorem dX5_reach_43 : decode cX5_reach 43 = .ok (.ireturn, 1) := dbc_246.1.1.1.1
theorem dX5_reach_44 : decode cX5_reach 44 = .ok (.iconst 2, 1) := dbc_246.1.1.1.2
theorem dX5_reach_45 : decode cX5_reach 45 = .ok (.iload_n 1, 1) := dbc_246.1.1.2.1
theorem dX5_reach_46 : decode cX5_reach 46 = .ok (.iconst 2, 1) := dbc_246.1.1.2.2
theorem dX5_reach_47 : decode cX5_reach 47 = .ok (.idiv, 1) := dbc_246.1.2.1.1
theorem dX5_reach_48 : decode cX5_reach 48 = .ok (.iadd, 1) := dbc_246.1.2.1.2
theorem dX5_reach_49 : decode cX5_reach 49 = .ok (.ireturn, 1) := dbc_246.1.2.2.1
theorem dX5_reach_50 : decode cX5_reach 50 = .ok (.iconst 1, 1) := dbc_246.1.2.2.2
theorem dX5_reach_51 : decode cX5_reach 51 = .ok (.ireturn, 1) := dbc_246.2.1.1.1
theorem dX5_reach_52 : decode cX5_reach 52 = .ok (.iconst 4, 1) := dbc_246.2.1.1.2
theorem dX5_reach_53 : decode cX5_reach 53 = .ok (.iload_n 1, 1) := dbc_246.2.1.2.1
theorem dX5_reach_54 : decode cX5_reach 54 = .ok (.iconst 2, 1) := dbc_246.2.1.2.2
theorem dX5_reach_55 : decode cX5_reach 55 = .ok (.idiv, 1) := dbc_246.2.2.1.1
theorem dX5_reach_56 : decode cX5_reach 56 = .ok (.iadd, 1) := dbc_246.2.2.1.2
theorem dX5_reach_57 : decode cX5_reach 57 = .ok (.ireturn, 1) := dbc_246.2.2.2.1
theorem dX5_reach_58 : decode cX5_reach 58 = .ok (.iconst 0, 1) := dbc_246.2.2.2.2
theorem dbc_247 : (((((decode cX5_reach 59 = .ok (.ireturn, 1)) ∧ (decode cX5_minutes 0 = .ok (.iload_n 1, 1))) ∧ ((decode cX5_minutes 1 = .ok (.iconst 5, 1)) ∧ (decode cX5_minutes 2 = .ok (.iadd, 1)))) ∧ (((decode cX5_minutes 3 = .ok (.istore_n 3, 1)) ∧ (decode cX5_minutes 4 = .ok (.iload_n 0, 1))) ∧ ((decode cX5_minutes 5 = .ok (.tableswitch 63 1 5 #[35, 39, 43, 48, 54], 35)) ∧ (decode cX5_minutes 40 = .ok (.iconst 2, 1))))) ∧ ((((decode cX5_minutes 41 = .ok (.iload_n 3, 1)) ∧ (decode cX5_minutes 42 = .ok (.imul, 1))) ∧ ((decode cX5_minutes 43 = .ok (.ireturn, 1)) ∧ (decode cX5_minutes 44 = .ok (.iload_n 3, 1)))) ∧ (((decode cX5_minutes 45 = .ok (.iconst 2, 1)) ∧ (decode cX5_minutes 46 = .ok (.idiv, 1))) ∧ ((decode cX5_minutes 47 = .ok (.ireturn, 1)) ∧ (decode cX5_minutes 48 = .ok (.iload_n 3, 1)))))) := by decide +kernel
theorem dX5_reach_59 : decode cX5_reach 59 = .ok (.ireturn, 1) := dbc_247.1.1.1.1
theorem dX5_minutes_0 : decode cX5_minutes 0 = .ok (.iload_n 1, 1) := dbc_247.1.1.1.2
theorem dX5_minutes_1 : decode cX5_minutes 1 = .ok (.iconst 5, 1) := dbc_247.1.1.2.1
theorem dX5_minutes_2 : decode cX5_minutes 2 = .ok (.iadd, 1) := dbc_247.1.1.2.2
theorem dX5_minutes_3 : decode cX5_minutes 3 = .ok (.istore_n 3, 1) := dbc_247.1.2.1.1
theorem dX5_minutes_4 : decode cX5_minutes 4 = .ok (.iload_n 0, 1) := dbc_247.1.2.1.2
theorem dX5_minutes_5 : decode cX5_minutes 5 = .ok (.tableswitch 63 1 5 #[35, 39, 43, 48, 54], 35) := dbc_247.1.2.2.1
theorem dX5_minutes_40 : decode cX5_minutes 40 = .ok (.iconst 2, 1) := dbc_247.1.2.2.2
theorem dX5_minutes_41 : decode cX5_minutes 41 = .ok (.iload_n 3, 1) := dbc_247.2.1.1.1
theorem dX5_minutes_42 : decode cX5_minutes 42 = .ok (.imul, 1) := dbc_247.2.1.1.2
theorem dX5_minutes_43 : decode cX5_minutes 43 = .ok (.ireturn, 1) := dbc_247.2.1.2.1
theorem dX5_minutes_44 : decode cX5_minutes 44 = .ok (.iload_n 3, 1) := dbc_247.2.1.2.2
theorem dX5_minutes_45 : decode cX5_minutes 45 = .ok (.iconst 2, 1) := dbc_247.2.2.1.1
theorem dX5_minutes_46 : decode cX5_minutes 46 = .ok (.idiv, 1) := dbc_247.2.2.1.2
theorem dX5_minutes_47 : decode cX5_minutes 47 = .ok (.ireturn, 1) := dbc_247.2.2.2.1
theorem dX5_minutes_48 : decode cX5_minutes 48 = .ok (.iload_n 3, 1) := dbc_247.2.2.2.2
theorem dbc_248 : (((((decode cX5_minutes 49 = .ok (.bipush 20, 2)) ∧ (decode cX5_minutes 51 = .ok (.iadd, 1))) ∧ ((decode cX5_minutes 52 = .ok (.ireturn, 1)) ∧ (decode cX5_minutes 53 = .ok (.iload_n 3, 1)))) ∧ (((decode cX5_minutes 54 = .ok (.iconst 2, 1)) ∧ (decode cX5_minutes 55 = .ok (.idiv, 1))) ∧ ((decode cX5_minutes 56 = .ok (.iload_n 2, 1)) ∧ (decode cX5_minutes 57 = .ok (.iadd, 1))))) ∧ ((((decode cX5_minutes 58 = .ok (.ireturn, 1)) ∧ (decode cX5_minutes 59 = .ok (.iload_n 3, 1))) ∧ ((decode cX5_minutes 60 = .ok (.bipush 20, 2)) ∧ (decode cX5_minutes 62 = .ok (.iadd, 1)))) ∧ (((decode cX5_minutes 63 = .ok (.iconst 2, 1)) ∧ (decode cX5_minutes 64 = .ok (.iload_n 2, 1))) ∧ ((decode cX5_minutes 65 = .ok (.imul, 1)) ∧ (decode cX5_minutes 66 = .ok (.iadd, 1)))))) := by decide +kernel
theorem dX5_minutes_49 : decode cX5_minutes 49 = .ok (.bipush 20, 2) := dbc_248.1.1.1.1
theorem dX5_minutes_51 : decode cX5_minutes 51 = .ok (.iadd, 1) := dbc_248.1.1.1.2
theorem dX5_minutes_52 : decode cX5_minutes 52 = .ok (.ireturn, 1) := dbc_248.1.1.2.1
theorem dX5_minutes_53 : decode cX5_minutes 53 = .ok (.iload_n 3, 1) := dbc_248.1.1.2.2
theorem dX5_minutes_54 : decode cX5_minutes 54 = .ok (.iconst 2, 1) := dbc_248.1.2.1.1
theorem dX5_minutes_55 : decode cX5_minutes 55 = .ok (.idiv, 1) := dbc_248.1.2.1.2
theorem dX5_minutes_56 : decode cX5_minutes 56 = .ok (.iload_n 2, 1) := dbc_248.1.2.2.1
theorem dX5_minutes_57 : decode cX5_minutes 57 = .ok (.iadd, 1) := dbc_248.1.2.2.2
theorem dX5_minutes_58 : decode cX5_minutes 58 = .ok (.ireturn, 1) := dbc_248.2.1.1.1
theorem dX5_minutes_59 : decode cX5_minutes 59 = .ok (.iload_n 3, 1) := dbc_248.2.1.1.2
theorem dX5_minutes_60 : decode cX5_minutes 60 = .ok (.bipush 20, 2) := dbc_248.2.1.2.1
theorem dX5_minutes_62 : decode cX5_minutes 62 = .ok (.iadd, 1) := dbc_248.2.1.2.2
theorem dX5_minutes_63 : decode cX5_minutes 63 = .ok (.iconst 2, 1) := dbc_248.2.2.1.1
theorem dX5_minutes_64 : decode cX5_minutes 64 = .ok (.iload_n 2, 1) := dbc_248.2.2.1.2
theorem dX5_minutes_65 : decode cX5_minutes 65 = .ok (.imul, 1) := dbc_248.2.2.2.1
theorem dX5_minutes_66 : decode cX5_minutes 66 = .ok (.iadd, 1) := dbc_248.2.2.2.2
theorem dbc_249 : (((((decode cX5_minutes 67 = .ok (.ireturn, 1)) ∧ (decode cX5_minutes 68 = .ok (.iload_n 3, 1))) ∧ ((decode cX5_minutes 69 = .ok (.ireturn, 1)) ∧ (decode cJ6_compare_7cf53 0 = .ok (.iload_n 0, 1)))) ∧ (((decode cJ6_compare_7cf53 1 = .ok (.iload_n 1, 1)) ∧ (decode cJ6_compare_7cf53 2 = .ok (.if_icmp .ge 7, 3))) ∧ ((decode cJ6_compare_7cf53 5 = .ok (.iconst (-1), 1)) ∧ (decode cJ6_compare_7cf53 6 = .ok (.goto 13, 3))))) ∧ ((((decode cJ6_compare_7cf53 9 = .ok (.iload_n 0, 1)) ∧ (decode cJ6_compare_7cf53 10 = .ok (.iload_n 1, 1))) ∧ ((decode cJ6_compare_7cf53 11 = .ok (.if_icmp .ne 7, 3)) ∧ (decode cJ6_compare_7cf53 14 = .ok (.iconst 0, 1)))) ∧ (((decode cJ6_compare_7cf53 15 = .ok (.goto 4, 3)) ∧ (decode cJ6_compare_7cf53 18 = .ok (.iconst 1, 1))) ∧ ((decode cJ6_compare_7cf53 19 = .ok (.ireturn, 1)) ∧ (decode cJ6_bitCount_0f7a4 0 = .ok (.iload_n 0, 1)))))) := by decide +kernel
theorem dX5_minutes_67 : decode cX5_minutes 67 = .ok (.ireturn, 1) := dbc_249.1.1.1.1
theorem dX5_minutes_68 : decode cX5_minutes 68 = .ok (.iload_n 3, 1) := dbc_249.1.1.1.2
theorem dX5_minutes_69 : decode cX5_minutes 69 = .ok (.ireturn, 1) := dbc_249.1.1.2.1
theorem dJ6_compare_7cf53_0 : decode cJ6_compare_7cf53 0 = .ok (.iload_n 0, 1) := dbc_249.1.1.2.2
theorem dJ6_compare_7cf53_1 : decode cJ6_compare_7cf53 1 = .ok (.iload_n 1, 1) := dbc_249.1.2.1.1
theorem dJ6_compare_7cf53_2 : decode cJ6_compare_7cf53 2 = .ok (.if_icmp .ge 7, 3) := dbc_249.1.2.1.2
theorem dJ6_compare_7cf53_5 : decode cJ6_compare_7cf53 5 = .ok (.iconst (-1), 1) := dbc_249.1.2.2.1
theorem dJ6_compare_7cf53_6 : decode cJ6_compare_7cf53 6 = .ok (.goto 13, 3) := dbc_249.1.2.2.2
theorem dJ6_compare_7cf53_9 : decode cJ6_compare_7cf53 9 = .ok (.iload_n 0, 1) := dbc_249.2.1.1.1
theorem dJ6_compare_7cf53_10 : decode cJ6_compare_7cf53 10 = .ok (.iload_n 1, 1) := dbc_249.2.1.1.2
theorem dJ6_compare_7cf53_11 : decode cJ6_compare_7cf53 11 = .ok (.if_icmp .ne 7, 3) := dbc_249.2.1.2.1
theorem dJ6_compare_7cf53_14 : decode cJ6_compare_7cf53 14 = .ok (.iconst 0, 1) := dbc_249.2.1.2.2
theorem dJ6_compare_7cf53_15 : decode cJ6_compare_7cf53 15 = .ok (.goto 4, 3) := dbc_249.2.2.1.1
theorem dJ6_compare_7cf53_18 : decode cJ6_compare_7cf53 18 = .ok (.iconst 1, 1) := dbc_249.2.2.1.2
theorem dJ6_compare_7cf53_19 : decode cJ6_compare_7cf53 19 = .ok (.ireturn, 1) := dbc_249.2.2.2.1
theorem dJ6_bitCount_0f7a4_0 : decode cJ6_bitCount_0f7a4 0 = .ok (.iload_n 0, 1) := dbc_249.2.2.2.2
theorem dbc_250 : (((((decode cJ6_bitCount_0f7a4 1 = .ok (.iload_n 0, 1)) ∧ (decode cJ6_bitCount_0f7a4 2 = .ok (.iconst 1, 1))) ∧ ((decode cJ6_bitCount_0f7a4 3 = .ok (.iushr, 1)) ∧ (decode cJ6_bitCount_0f7a4 4 = .ok (.ldc_w 265, 3)))) ∧ (((decode cJ6_bitCount_0f7a4 7 = .ok (.iand, 1)) ∧ (decode cJ6_bitCount_0f7a4 8 = .ok (.isub, 1))) ∧ ((decode cJ6_bitCount_0f7a4 9 = .ok (.istore_n 0, 1)) ∧ (decode cJ6_bitCount_0f7a4 10 = .ok (.iload_n 0, 1))))) ∧ ((((decode cJ6_bitCount_0f7a4 11 = .ok (.ldc_w 266, 3)) ∧ (decode cJ6_bitCount_0f7a4 14 = .ok (.iand, 1))) ∧ ((decode cJ6_bitCount_0f7a4 15 = .ok (.iload_n 0, 1)) ∧ (decode cJ6_bitCount_0f7a4 16 = .ok (.iconst 2, 1)))) ∧ (((decode cJ6_bitCount_0f7a4 17 = .ok (.iushr, 1)) ∧ (decode cJ6_bitCount_0f7a4 18 = .ok (.ldc_w 266, 3))) ∧ ((decode cJ6_bitCount_0f7a4 21 = .ok (.iand, 1)) ∧ (decode cJ6_bitCount_0f7a4 22 = .ok (.iadd, 1)))))) := by decide +kernel
theorem dJ6_bitCount_0f7a4_1 : decode cJ6_bitCount_0f7a4 1 = .ok (.iload_n 0, 1) := dbc_250.1.1.1.1
theorem dJ6_bitCount_0f7a4_2 : decode cJ6_bitCount_0f7a4 2 = .ok (.iconst 1, 1) := dbc_250.1.1.1.2
theorem dJ6_bitCount_0f7a4_3 : decode cJ6_bitCount_0f7a4 3 = .ok (.iushr, 1) := dbc_250.1.1.2.1
theorem dJ6_bitCount_0f7a4_4 : decode cJ6_bitCount_0f7a4 4 = .ok (.ldc_w 265, 3) := dbc_250.1.1.2.2
theorem dJ6_bitCount_0f7a4_7 : decode cJ6_bitCount_0f7a4 7 = .ok (.iand, 1) := dbc_250.1.2.1.1
theorem dJ6_bitCount_0f7a4_8 : decode cJ6_bitCount_0f7a4 8 = .ok (.isub, 1) := dbc_250.1.2.1.2
theorem dJ6_bitCount_0f7a4_9 : decode cJ6_bitCount_0f7a4 9 = .ok (.istore_n 0, 1) := dbc_250.1.2.2.1
theorem dJ6_bitCount_0f7a4_10 : decode cJ6_bitCount_0f7a4 10 = .ok (.iload_n 0, 1) := dbc_250.1.2.2.2
theorem dJ6_bitCount_0f7a4_11 : decode cJ6_bitCount_0f7a4 11 = .ok (.ldc_w 266, 3) := dbc_250.2.1.1.1
theorem dJ6_bitCount_0f7a4_14 : decode cJ6_bitCount_0f7a4 14 = .ok (.iand, 1) := dbc_250.2.1.1.2
theorem dJ6_bitCount_0f7a4_15 : decode cJ6_bitCount_0f7a4 15 = .ok (.iload_n 0, 1) := dbc_250.2.1.2.1
theorem dJ6_bitCount_0f7a4_16 : decode cJ6_bitCount_0f7a4 16 = .ok (.iconst 2, 1) := dbc_250.2.1.2.2
theorem dJ6_bitCount_0f7a4_17 : decode cJ6_bitCount_0f7a4 17 = .ok (.iushr, 1) := dbc_250.2.2.1.1
theorem dJ6_bitCount_0f7a4_18 : decode cJ6_bitCount_0f7a4 18 = .ok (.ldc_w 266, 3) := dbc_250.2.2.1.2
theorem dJ6_bitCount_0f7a4_21 : decode cJ6_bitCount_0f7a4 21 = .ok (.iand, 1) := dbc_250.2.2.2.1
theorem dJ6_bitCount_0f7a4_22 : decode cJ6_bitCount_0f7a4 22 = .ok (.iadd, 1) := dbc_250.2.2.2.2
theorem dbc_251 : (((((decode cJ6_bitCount_0f7a4 23 = .ok (.istore_n 0, 1)) ∧ (decode cJ6_bitCount_0f7a4 24 = .ok (.iload_n 0, 1))) ∧ ((decode cJ6_bitCount_0f7a4 25 = .ok (.iload_n 0, 1)) ∧ (decode cJ6_bitCount_0f7a4 26 = .ok (.iconst 4, 1)))) ∧ (((decode cJ6_bitCount_0f7a4 27 = .ok (.iushr, 1)) ∧ (decode cJ6_bitCount_0f7a4 28 = .ok (.iadd, 1))) ∧ ((decode cJ6_bitCount_0f7a4 29 = .ok (.ldc_w 267, 3)) ∧ (decode cJ6_bitCount_0f7a4 32 = .ok (.iand, 1))))) ∧ ((((decode cJ6_bitCount_0f7a4 33 = .ok (.istore_n 0, 1)) ∧ (decode cJ6_bitCount_0f7a4 34 = .ok (.iload_n 0, 1))) ∧ ((decode cJ6_bitCount_0f7a4 35 = .ok (.iload_n 0, 1)) ∧ (decode cJ6_bitCount_0f7a4 36 = .ok (.bipush 8, 2)))) ∧ (((decode cJ6_bitCount_0f7a4 38 = .ok (.iushr, 1)) ∧ (decode cJ6_bitCount_0f7a4 39 = .ok (.iadd, 1))) ∧ ((decode cJ6_bitCount_0f7a4 40 = .ok (.istore_n 0, 1)) ∧ (decode cJ6_bitCount_0f7a4 41 = .ok (.iload_n 0, 1)))))) := by decide +kernel
theorem dJ6_bitCount_0f7a4_23 : decode cJ6_bitCount_0f7a4 23 = .ok (.istore_n 0, 1) := dbc_251.1.1.1.1
theorem dJ6_bitCount_0f7a4_24 : decode cJ6_bitCount_0f7a4 24 = .ok (.iload_n 0, 1) := dbc_251.1.1.1.2
theorem dJ6_bitCount_0f7a4_25 : decode cJ6_bitCount_0f7a4 25 = .ok (.iload_n 0, 1) := dbc_251.1.1.2.1
theorem dJ6_bitCount_0f7a4_26 : decode cJ6_bitCount_0f7a4 26 = .ok (.iconst 4, 1) := dbc_251.1.1.2.2
theorem dJ6_bitCount_0f7a4_27 : decode cJ6_bitCount_0f7a4 27 = .ok (.iushr, 1) := dbc_251.1.2.1.1
theorem dJ6_bitCount_0f7a4_28 : decode cJ6_bitCount_0f7a4 28 = .ok (.iadd, 1) := dbc_251.1.2.1.2
theorem dJ6_bitCount_0f7a4_29 : decode cJ6_bitCount_0f7a4 29 = .ok (.ldc_w 267, 3) := dbc_251.1.2.2.1
theorem dJ6_bitCount_0f7a4_32 : decode cJ6_bitCount_0f7a4 32 = .ok (.iand, 1) := dbc_251.1.2.2.2
theorem dJ6_bitCount_0f7a4_33 : decode cJ6_bitCount_0f7a4 33 = .ok (.istore_n 0, 1) := dbc_251.2.1.1.1
theorem dJ6_bitCount_0f7a4_34 : decode cJ6_bitCount_0f7a4 34 = .ok (.iload_n 0, 1) := dbc_251.2.1.1.2
theorem dJ6_bitCount_0f7a4_35 : decode cJ6_bitCount_0f7a4 35 = .ok (.iload_n 0, 1) := dbc_251.2.1.2.1
theorem dJ6_bitCount_0f7a4_36 : decode cJ6_bitCount_0f7a4 36 = .ok (.bipush 8, 2) := dbc_251.2.1.2.2
theorem dJ6_bitCount_0f7a4_38 : decode cJ6_bitCount_0f7a4 38 = .ok (.iushr, 1) := dbc_251.2.2.1.1
theorem dJ6_bitCount_0f7a4_39 : decode cJ6_bitCount_0f7a4 39 = .ok (.iadd, 1) := dbc_251.2.2.1.2
theorem dJ6_bitCount_0f7a4_40 : decode cJ6_bitCount_0f7a4 40 = .ok (.istore_n 0, 1) := dbc_251.2.2.2.1
theorem dJ6_bitCount_0f7a4_41 : decode cJ6_bitCount_0f7a4 41 = .ok (.iload_n 0, 1) := dbc_251.2.2.2.2
theorem dbc_252 : (((((decode cJ6_bitCount_0f7a4 42 = .ok (.iload_n 0, 1)) ∧ (decode cJ6_bitCount_0f7a4 43 = .ok (.bipush 16, 2))) ∧ ((decode cJ6_bitCount_0f7a4 45 = .ok (.iushr, 1)) ∧ (decode cJ6_bitCount_0f7a4 46 = .ok (.iadd, 1)))) ∧ (((decode cJ6_bitCount_0f7a4 47 = .ok (.istore_n 0, 1)) ∧ (decode cJ6_bitCount_0f7a4 48 = .ok (.iload_n 0, 1))) ∧ ((decode cJ6_bitCount_0f7a4 49 = .ok (.bipush 63, 2)) ∧ (decode cJ6_bitCount_0f7a4 51 = .ok (.iand, 1))))) ∧ ((((decode cJ6_bitCount_0f7a4 52 = .ok (.ireturn, 1)) ∧ (decode cJ9_abs_0f7a4 0 = .ok (.iload_n 0, 1))) ∧ ((decode cJ9_abs_0f7a4 1 = .ok (.ifCond .ge 8, 3)) ∧ (decode cJ9_abs_0f7a4 4 = .ok (.iload_n 0, 1)))) ∧ (((decode cJ9_abs_0f7a4 5 = .ok (.ineg, 1)) ∧ (decode cJ9_abs_0f7a4 6 = .ok (.goto 4, 3))) ∧ ((decode cJ9_abs_0f7a4 9 = .ok (.iload_n 0, 1)) ∧ (decode cJ9_abs_0f7a4 10 = .ok (.ireturn, 1)))))) := by decide +kernel
theorem dJ6_bitCount_0f7a4_42 : decode cJ6_bitCount_0f7a4 42 = .ok (.iload_n 0, 1) := dbc_252.1.1.1.1
theorem dJ6_bitCount_0f7a4_43 : decode cJ6_bitCount_0f7a4 43 = .ok (.bipush 16, 2) := dbc_252.1.1.1.2
theorem dJ6_bitCount_0f7a4_45 : decode cJ6_bitCount_0f7a4 45 = .ok (.iushr, 1) := dbc_252.1.1.2.1
theorem dJ6_bitCount_0f7a4_46 : decode cJ6_bitCount_0f7a4 46 = .ok (.iadd, 1) := dbc_252.1.1.2.2
theorem dJ6_bitCount_0f7a4_47 : decode cJ6_bitCount_0f7a4 47 = .ok (.istore_n 0, 1) := dbc_252.1.2.1.1
theorem dJ6_bitCount_0f7a4_48 : decode cJ6_bitCount_0f7a4 48 = .ok (.iload_n 0, 1) := dbc_252.1.2.1.2
theorem dJ6_bitCount_0f7a4_49 : decode cJ6_bitCount_0f7a4 49 = .ok (.bipush 63, 2) := dbc_252.1.2.2.1
theorem dJ6_bitCount_0f7a4_51 : decode cJ6_bitCount_0f7a4 51 = .ok (.iand, 1) := dbc_252.1.2.2.2
theorem dJ6_bitCount_0f7a4_52 : decode cJ6_bitCount_0f7a4 52 = .ok (.ireturn, 1) := dbc_252.2.1.1.1
theorem dJ9_abs_0f7a4_0 : decode cJ9_abs_0f7a4 0 = .ok (.iload_n 0, 1) := dbc_252.2.1.1.2
theorem dJ9_abs_0f7a4_1 : decode cJ9_abs_0f7a4 1 = .ok (.ifCond .ge 8, 3) := dbc_252.2.1.2.1
theorem dJ9_abs_0f7a4_4 : decode cJ9_abs_0f7a4 4 = .ok (.iload_n 0, 1) := dbc_252.2.1.2.2
theorem dJ9_abs_0f7a4_5 : decode cJ9_abs_0f7a4 5 = .ok (.ineg, 1) := dbc_252.2.2.1.1
theorem dJ9_abs_0f7a4_6 : decode cJ9_abs_0f7a4 6 = .ok (.goto 4, 3) := dbc_252.2.2.1.2
theorem dJ9_abs_0f7a4_9 : decode cJ9_abs_0f7a4 9 = .ok (.iload_n 0, 1) := dbc_252.2.2.2.1
theorem dJ9_abs_0f7a4_10 : decode cJ9_abs_0f7a4 10 = .ok (.ireturn, 1) := dbc_252.2.2.2.2
theorem dbc_253 : (((((decode cJ9_max_7cf53 0 = .ok (.iload_n 0, 1)) ∧ (decode cJ9_max_7cf53 1 = .ok (.iload_n 1, 1))) ∧ ((decode cJ9_max_7cf53 2 = .ok (.if_icmp .lt 7, 3)) ∧ (decode cJ9_max_7cf53 5 = .ok (.iload_n 0, 1)))) ∧ (((decode cJ9_max_7cf53 6 = .ok (.goto 4, 3)) ∧ (decode cJ9_max_7cf53 9 = .ok (.iload_n 1, 1))) ∧ ((decode cJ9_max_7cf53 10 = .ok (.ireturn, 1)) ∧ (decode cJ9_min_7cf53 0 = .ok (.iload_n 0, 1))))) ∧ ((((decode cJ9_min_7cf53 1 = .ok (.iload_n 1, 1)) ∧ (decode cJ9_min_7cf53 2 = .ok (.if_icmp .gt 7, 3))) ∧ ((decode cJ9_min_7cf53 5 = .ok (.iload_n 0, 1)) ∧ (decode cJ9_min_7cf53 6 = .ok (.goto 4, 3)))) ∧ (((decode cJ9_min_7cf53 9 = .ok (.iload_n 1, 1)) ∧ (decode cJ9_min_7cf53 10 = .ok (.ireturn, 1))) ∧ ((decode cJ7_fill_53178 0 = .ok (.iconst 0, 1)) ∧ (decode cJ7_fill_53178 1 = .ok (.istore_n 2, 1)))))) := by decide +kernel
theorem dJ9_max_7cf53_0 : decode cJ9_max_7cf53 0 = .ok (.iload_n 0, 1) := dbc_253.1.1.1.1
theorem dJ9_max_7cf53_1 : decode cJ9_max_7cf53 1 = .ok (.iload_n 1, 1) := dbc_253.1.1.1.2
theorem dJ9_max_7cf53_2 : decode cJ9_max_7cf53 2 = .ok (.if_icmp .lt 7, 3) := dbc_253.1.1.2.1
theorem dJ9_max_7cf53_5 : decode cJ9_max_7cf53 5 = .ok (.iload_n 0, 1) := dbc_253.1.1.2.2
theorem dJ9_max_7cf53_6 : decode cJ9_max_7cf53 6 = .ok (.goto 4, 3) := dbc_253.1.2.1.1
theorem dJ9_max_7cf53_9 : decode cJ9_max_7cf53 9 = .ok (.iload_n 1, 1) := dbc_253.1.2.1.2
theorem dJ9_max_7cf53_10 : decode cJ9_max_7cf53 10 = .ok (.ireturn, 1) := dbc_253.1.2.2.1
theorem dJ9_min_7cf53_0 : decode cJ9_min_7cf53 0 = .ok (.iload_n 0, 1) := dbc_253.1.2.2.2
theorem dJ9_min_7cf53_1 : decode cJ9_min_7cf53 1 = .ok (.iload_n 1, 1) := dbc_253.2.1.1.1
theorem dJ9_min_7cf53_2 : decode cJ9_min_7cf53 2 = .ok (.if_icmp .gt 7, 3) := dbc_253.2.1.1.2
theorem dJ9_min_7cf53_5 : decode cJ9_min_7cf53 5 = .ok (.iload_n 0, 1) := dbc_253.2.1.2.1
theorem dJ9_min_7cf53_6 : decode cJ9_min_7cf53 6 = .ok (.goto 4, 3) := dbc_253.2.1.2.2
theorem dJ9_min_7cf53_9 : decode cJ9_min_7cf53 9 = .ok (.iload_n 1, 1) := dbc_253.2.2.1.1
theorem dJ9_min_7cf53_10 : decode cJ9_min_7cf53 10 = .ok (.ireturn, 1) := dbc_253.2.2.1.2
theorem dJ7_fill_53178_0 : decode cJ7_fill_53178 0 = .ok (.iconst 0, 1) := dbc_253.2.2.2.1
theorem dJ7_fill_53178_1 : decode cJ7_fill_53178 1 = .ok (.istore_n 2, 1) := dbc_253.2.2.2.2
theorem dbc_254 : ((((decode cJ7_fill_53178 2 = .ok (.aload_n 0, 1)) ∧ ((decode cJ7_fill_53178 3 = .ok (.arraylength, 1)) ∧ (decode cJ7_fill_53178 4 = .ok (.istore_n 3, 1)))) ∧ ((decode cJ7_fill_53178 5 = .ok (.iload_n 2, 1)) ∧ ((decode cJ7_fill_53178 6 = .ok (.iload_n 3, 1)) ∧ (decode cJ7_fill_53178 7 = .ok (.if_icmp .ge 13, 3))))) ∧ (((decode cJ7_fill_53178 10 = .ok (.aload_n 0, 1)) ∧ ((decode cJ7_fill_53178 11 = .ok (.iload_n 2, 1)) ∧ (decode cJ7_fill_53178 12 = .ok (.iload_n 1, 1)))) ∧ (((decode cJ7_fill_53178 13 = .ok (.iastore, 1)) ∧ (decode cJ7_fill_53178 14 = .ok (.iinc 2 1, 3))) ∧ ((decode cJ7_fill_53178 17 = .ok (.goto (-12), 3)) ∧ (decode cJ7_fill_53178 20 = .ok (.return_, 1)))))) := by decide +kernel
theorem dJ7_fill_53178_2 : decode cJ7_fill_53178 2 = .ok (.aload_n 0, 1) := dbc_254.1.1.1
theorem dJ7_fill_53178_3 : decode cJ7_fill_53178 3 = .ok (.arraylength, 1) := dbc_254.1.1.2.1
theorem dJ7_fill_53178_4 : decode cJ7_fill_53178 4 = .ok (.istore_n 3, 1) := dbc_254.1.1.2.2
theorem dJ7_fill_53178_5 : decode cJ7_fill_53178 5 = .ok (.iload_n 2, 1) := dbc_254.1.2.1
theorem dJ7_fill_53178_6 : decode cJ7_fill_53178 6 = .ok (.iload_n 3, 1) := dbc_254.1.2.2.1
theorem dJ7_fill_53178_7 : decode cJ7_fill_53178 7 = .ok (.if_icmp .ge 13, 3) := dbc_254.1.2.2.2
theorem dJ7_fill_53178_10 : decode cJ7_fill_53178 10 = .ok (.aload_n 0, 1) := dbc_254.2.1.1
theorem dJ7_fill_53178_11 : decode cJ7_fill_53178 11 = .ok (.iload_n 2, 1) := dbc_254.2.1.2.1
theorem dJ7_fill_53178_12 : decode cJ7_fill_53178 12 = .ok (.iload_n 1, 1) := dbc_254.2.1.2.2
theorem dJ7_fill_53178_13 : decode cJ7_fill_53178 13 = .ok (.iastore, 1) := dbc_254.2.2.1.1
theorem dJ7_fill_53178_14 : decode cJ7_fill_53178 14 = .ok (.iinc 2 1, 3) := dbc_254.2.2.1.2
theorem dJ7_fill_53178_17 : decode cJ7_fill_53178 17 = .ok (.goto (-12), 3) := dbc_254.2.2.2.1
theorem dJ7_fill_53178_20 : decode cJ7_fill_53178 20 = .ok (.return_, 1) := dbc_254.2.2.2.2
