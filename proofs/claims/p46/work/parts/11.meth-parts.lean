def f_X0_keep (M : jm) (o1 : Nat) : Option jm := (jgd (M 12 1 0) 8 (jb (f_X4_become M (4 + Int32.toNatClampNeg (M 12 1 0)) o1) fun M_1 => (some (ju (ju M_1 12 1 0 (((M_1 12 1 0) + 1) - ((M_1 12 1 0) + 1) / 8 * 8)) 12 2 0 (if (((ju M_1 12 1 0 (((M_1 12 1 0) + 1) - ((M_1 12 1 0) + 1) / 8 * 8)) 12 2 0) + 1) < 8 then (((ju M_1 12 1 0 (((M_1 12 1 0) + 1) - ((M_1 12 1 0) + 1) / 8 * 8)) 12 2 0) + 1) else 8)))))
set_option maxRecDepth 100000 in
theorem m_X0_keep (l : Launch) (X : jX) (A : Nat → Prop) (hs : jst X A) (M : jm) {o1 : Nat} (hj1 : job o1 4) (N : jm) (h : f_X0_keep M o1 = some N) : Met l yX0_keep (jws yX0_keep cX0_keep 2 none) (jrm 2 61) (va_Pc [.ref (jO X 12), .ref (jO X o1)] (jB X M)) (jQm X A none N) 0 0 A := by
  refine jm_of (by decide) (Nat.le_of_ble_eq_true rfl) ?_
  intro p e s m args below meth c ls S hr hlocks hB hl
  have S : CallFix p m c cX0_keep 2 s args jtb RX0 := S
  obtain ⟨hx, hb, hml, hown, hts⟩ := id S
  obtain ⟨hP, hK⟩ := hB
  have hN := hK.2
  have hS : va_S A s.heap s.heap [] := va_S.rf
  have hl : lv_has ls 2 [(0, .ref (jO X 12)), (1, .ref (jO X o1))] := hl
  refine lv_aload_n hx hb dX0_keep_0 rfl (lv_at hl 0 rfl) ?_
  refine jr_get (k := 0) hx hb hts hown hK hP jb_12 (Nat.le_of_ble_eq_true rfl) jlX0_11 rfl dX0_keep_1 ?_
  refine lv_aload_n hx hb dX0_keep_4 rfl (lv_at hl 0 rfl) ?_
  refine jr_get (k := 1) hx hb hts hown hK hP jb_12 (Nat.le_of_ble_eq_true rfl) jlX0_16 rfl dX0_keep_5 ?_
  obtain ⟨g8, h⟩ := jh_gd h
  refine jr_kld hx hb hK hP g8 dX0_keep_8 ?_
  refine lv_aload_n hx hb dX0_keep_9 rfl (lv_at hl 1 rfl) ?_
  obtain ⟨M_1, e1, h⟩ := jh_b h
  refine jr_kv (jr_rv (As := [.ref (jO X o1)]) (rest := []) S hK hP (jb_w g8) rfl (m_X4_become l X A hs M (jb_w g8) hj1 M_1 e1) jw_X4_become ji_X4_become jmX0_20 rfl rfl ⟨(Nat.le_of_ble_eq_true rfl), (Nat.le_of_ble_eq_true rfl)⟩ rfl hl.1 rfl (Nat.le_of_ble_eq_true rfl) dX0_keep_10 ⟨Nat.zero_le _, Nat.zero_le _⟩) hS (fun H locs hP hS => ?_)
  refine lv_aload_n hx hb dX0_keep_13 rfl (lv_at hl 0 rfl) ?_
  refine lv_aload_n hx hb dX0_keep_14 rfl (lv_at hl 0 rfl) ?_
  refine jr_get (k := 1) hx hb hts hown hK hP jb_12 (Nat.le_of_ble_eq_true rfl) jlX0_16 rfl dX0_keep_15 ?_
  refine lv_iconst (v := 1) hx hb dX0_keep_18 jci_1 ?_
  refine lv_iadd hx hb dX0_keep_19 ?_
  refine lv_bipush (v := 8) hx hb dX0_keep_20 jcb_8 ?_
  refine lv_irem hx hb dX0_keep_22 (by decide) ?_
  refine jr_put (k := 1) (z := (((M_1 12 1 0) + 1) - ((M_1 12 1 0) + 1) / 8 * 8)) hx hb hts hown hK hP hs hS jb_12 (Nat.le_of_ble_eq_true rfl) jlX0_16 rfl (Or.inl rfl) rfl rfl rfl dX0_keep_23 (fun H locs hP hS => ?_)
  refine lv_aload_n hx hb dX0_keep_26 rfl (lv_at hl 0 rfl) ?_
  refine lv_bipush (v := 8) hx hb dX0_keep_27 jcb_8 ?_
  refine lv_aload_n hx hb dX0_keep_29 rfl (lv_at hl 0 rfl) ?_
  refine jr_get (k := 2) hx hb hts hown hK hP jb_12 (Nat.le_of_ble_eq_true rfl) jlX0_24 rfl dX0_keep_30 ?_
  refine lv_iconst (v := 1) hx hb dX0_keep_33 jci_1 ?_
  refine lv_iadd hx hb dX0_keep_34 ?_
  refine va_mmin hx hb (hml.trans hl.1.symm) hown (hts _ jmX0_27) (hts _ jstM_min) (hts _ jinM) (hts _ jcoM_min) (Nat.le_of_ble_eq_true rfl) (Nat.le_of_ble_eq_true rfl) (Nat.zero_le _) (Nat.zero_le _) dX0_keep_35 ?_
  refine jr_put (k := 2) (z := (if (((ju M_1 12 1 0 (((M_1 12 1 0) + 1) - ((M_1 12 1 0) + 1) / 8 * 8)) 12 2 0) + 1) < 8 then (((ju M_1 12 1 0 (((M_1 12 1 0) + 1) - ((M_1 12 1 0) + 1) / 8 * 8)) 12 2 0) + 1) else 8)) hx hb hts hown hK hP hs hS jb_12 (Nat.le_of_ble_eq_true rfl) jlX0_24 rfl (Or.inl rfl) rfl rfl rfl dX0_keep_38 (fun H locs hP hS => ?_)
  exact je_mv hx hb hr hlocks hK hP hS h dX0_keep_41
def f_X0_takeBack (M : jm) (o1 : Nat) : Option jm := (if (M 12 2 0) = 0 then (some M) else (jgd ((ju (ju M 12 1 0 ((((M 12 1 0) + 8) - 1) - (((M 12 1 0) + 8) - 1) / 8 * 8)) 12 2 0 (((ju M 12 1 0 ((((M 12 1 0) + 8) - 1) - (((M 12 1 0) + 8) - 1) / 8 * 8)) 12 2 0) - 1)) 12 1 0) 8 (jb (f_X4_become (ju (ju M 12 1 0 ((((M 12 1 0) + 8) - 1) - (((M 12 1 0) + 8) - 1) / 8 * 8)) 12 2 0 (((ju M 12 1 0 ((((M 12 1 0) + 8) - 1) - (((M 12 1 0) + 8) - 1) / 8 * 8)) 12 2 0) - 1)) o1 (4 + Int32.toNatClampNeg ((ju (ju M 12 1 0 ((((M 12 1 0) + 8) - 1) - (((M 12 1 0) + 8) - 1) / 8 * 8)) 12 2 0 (((ju M 12 1 0 ((((M 12 1 0) + 8) - 1) - (((M 12 1 0) + 8) - 1) / 8 * 8)) 12 2 0) - 1)) 12 1 0))) fun M_1 => (some M_1))))
set_option maxRecDepth 100000 in
theorem m_X0_takeBack (l : Launch) (X : jX) (A : Nat → Prop) (hs : jst X A) (M : jm) {o1 : Nat} (hj1 : job o1 4) (N : jm) (h : f_X0_takeBack M o1 = some N) : Met l yX0_takeBack (jws yX0_takeBack cX0_takeBack 2 none) (jrm 2 61) (va_Pc [.ref (jO X 12), .ref (jO X o1)] (jB X M)) (jQm X A none N) 0 0 A := by
  refine jm_of (by decide) (Nat.le_of_ble_eq_true rfl) ?_
  intro p e s m args below meth c ls S hr hlocks hB hl
  have S : CallFix p m c cX0_takeBack 2 s args jtb RX0 := S
  obtain ⟨hx, hb, hml, hown, hts⟩ := id S
  obtain ⟨hP, hK⟩ := hB
  have hN := hK.2
  have hS : va_S A s.heap s.heap [] := va_S.rf
  have hl : lv_has ls 2 [(0, .ref (jO X 12)), (1, .ref (jO X o1))] := hl
  refine lv_aload_n hx hb dX0_takeBack_0 rfl (lv_at hl 0 rfl) ?_
  refine jr_get (k := 2) hx hb hts hown hK hP jb_12 (Nat.le_of_ble_eq_true rfl) jlX0_24 rfl dX0_takeBack_1 ?_
  refine lv_if_ne (tgt := 8) hx hb dX0_takeBack_4 rfl (fun c4 => ?_) (fun c4 => ?_)
  · replace h := jh_f h c4
    refine lv_aload_n hx hb dX0_takeBack_8 rfl (lv_at hl 0 rfl) ?_
    refine lv_aload_n hx hb dX0_takeBack_9 rfl (lv_at hl 0 rfl) ?_
    refine jr_get (k := 1) hx hb hts hown hK hP jb_12 (Nat.le_of_ble_eq_true rfl) jlX0_16 rfl dX0_takeBack_10 ?_
    refine lv_bipush (v := 8) hx hb dX0_takeBack_13 jcb_8 ?_
    refine lv_iadd hx hb dX0_takeBack_15 ?_
    refine lv_iconst (v := 1) hx hb dX0_takeBack_16 jci_1 ?_
    refine lv_isub hx hb dX0_takeBack_17 ?_
    refine lv_bipush (v := 8) hx hb dX0_takeBack_18 jcb_8 ?_
    refine lv_irem hx hb dX0_takeBack_20 (by decide) ?_
    refine jr_put (k := 1) (z := ((((M 12 1 0) + 8) - 1) - (((M 12 1 0) + 8) - 1) / 8 * 8)) hx hb hts hown hK hP hs hS jb_12 (Nat.le_of_ble_eq_true rfl) jlX0_16 rfl (Or.inl rfl) rfl rfl rfl dX0_takeBack_21 (fun H locs hP hS => ?_)
    refine lv_aload_n hx hb dX0_takeBack_24 rfl (lv_at hl 0 rfl) ?_
    refine lv_dup hx hb dX0_takeBack_25 rfl ?_
    refine jr_get (k := 2) hx hb hts hown hK hP jb_12 (Nat.le_of_ble_eq_true rfl) jlX0_24 rfl dX0_takeBack_26 ?_
    refine lv_iconst (v := 1) hx hb dX0_takeBack_29 jci_1 ?_
    refine lv_isub hx hb dX0_takeBack_30 ?_
    refine jr_put (k := 2) (z := (((ju M 12 1 0 ((((M 12 1 0) + 8) - 1) - (((M 12 1 0) + 8) - 1) / 8 * 8)) 12 2 0) - 1)) hx hb hts hown hK hP hs hS jb_12 (Nat.le_of_ble_eq_true rfl) jlX0_24 rfl (Or.inl rfl) rfl rfl rfl dX0_takeBack_31 (fun H locs hP hS => ?_)
    refine lv_aload_n hx hb dX0_takeBack_34 rfl (lv_at hl 1 rfl) ?_
    refine lv_aload_n hx hb dX0_takeBack_35 rfl (lv_at hl 0 rfl) ?_
    refine jr_get (k := 0) hx hb hts hown hK hP jb_12 (Nat.le_of_ble_eq_true rfl) jlX0_11 rfl dX0_takeBack_36 ?_
    refine lv_aload_n hx hb dX0_takeBack_39 rfl (lv_at hl 0 rfl) ?_
    refine jr_get (k := 1) hx hb hts hown hK hP jb_12 (Nat.le_of_ble_eq_true rfl) jlX0_16 rfl dX0_takeBack_40 ?_
    obtain ⟨g43, h⟩ := jh_gd h
    refine jr_kld hx hb hK hP g43 dX0_takeBack_43 ?_
    obtain ⟨M_1, e1, h⟩ := jh_b h
    refine jr_kv (jr_rv (As := [.ref (jO X (4 + Int32.toNatClampNeg ((ju (ju M 12 1 0 ((((M 12 1 0) + 8) - 1) - (((M 12 1 0) + 8) - 1) / 8 * 8)) 12 2 0 (((ju M 12 1 0 ((((M 12 1 0) + 8) - 1) - (((M 12 1 0) + 8) - 1) / 8 * 8)) 12 2 0) - 1)) 12 1 0)))]) (rest := []) S hK hP hj1 rfl (m_X4_become l X A hs (ju (ju M 12 1 0 ((((M 12 1 0) + 8) - 1) - (((M 12 1 0) + 8) - 1) / 8 * 8)) 12 2 0 (((ju M 12 1 0 ((((M 12 1 0) + 8) - 1) - (((M 12 1 0) + 8) - 1) / 8 * 8)) 12 2 0) - 1)) hj1 (jb_w g43) M_1 e1) jw_X4_become ji_X4_become jmX0_20 rfl rfl ⟨(Nat.le_of_ble_eq_true rfl), (Nat.le_of_ble_eq_true rfl)⟩ rfl hl.1 rfl (Nat.le_of_ble_eq_true rfl) dX0_takeBack_44 ⟨Nat.zero_le _, Nat.zero_le _⟩) hS (fun H locs hP hS => ?_)
    exact je_mv hx hb hr hlocks hK hP hS h dX0_takeBack_47
  · replace h := jh_t h c4
    exact je_mv hx hb hr hlocks hK hP hS h dX0_takeBack_7
def f_X0_forget (M : jm) : Option jm := (some (ju M 12 2 0 0))
set_option maxRecDepth 100000 in
theorem m_X0_forget (l : Launch) (X : jX) (A : Nat → Prop) (hs : jst X A) (M : jm) (N : jm) (h : f_X0_forget M = some N) : Met l yX0_forget (jws yX0_forget cX0_forget 1 none) (jrm 0 0) (va_Pc [.ref (jO X 12)] (jB X M)) (jQm X A none N) 0 0 A := by
  refine jm_of (by decide) (Nat.le_of_ble_eq_true rfl) ?_
  intro p e s m args below meth c ls S hr hlocks hB hl
  have S : CallFix p m c cX0_forget 1 s args jtb RX0 := S
  obtain ⟨hx, hb, hml, hown, hts⟩ := id S
  obtain ⟨hP, hK⟩ := hB
  have hN := hK.2
  have hS : va_S A s.heap s.heap [] := va_S.rf
  have hl : lv_has ls 1 [(0, .ref (jO X 12))] := hl
  refine lv_aload_n hx hb dX0_forget_0 rfl (lv_at hl 0 rfl) ?_
  refine lv_iconst (v := 0) hx hb dX0_forget_1 jci_0 ?_
  refine jr_put (k := 2) (z := 0) hx hb hts hown hK hP hs hS jb_12 (Nat.le_of_ble_eq_true rfl) jlX0_24 rfl (Or.inl rfl) rfl rfl rfl dX0_forget_2 (fun H locs hP hS => ?_)
  exact je_mv hx hb hr hlocks hK hP hS h dX0_forget_5
def f_X1_areFull (M : jm) : Int32 := (if (M 13 1 0) < 96 then 0 else 1)
theorem z_X1_areFull (M : jm) : f_X1_areFull M = 0 ∨ f_X1_areFull M = 1 := by
  unfold f_X1_areFull
  repeat' split
  all_goals first | exact Or.inl rfl | exact Or.inr rfl
set_option maxRecDepth 100000 in
theorem m_X1_areFull (l : Launch) (X : jX) (M : jm) (r : Int32) (h : f_X1_areFull M = r) : Met l yX1_areFull (jws yX1_areFull cX1_areFull 1 (some .boolean)) (jrm 0 0) (va_Pc [.ref (jO X 13)] (jB X M)) (jQ (.int r)) 0 0 (fun _ => False) := by
  refine jm_of (by decide) (Nat.le_of_ble_eq_true rfl) ?_
  intro p e s m args below meth c ls S hr hlocks hB hl
  have S : CallFix p m c cX1_areFull 1 s args jtb RX1 := S
  obtain ⟨hx, hb, hml, hown, hts⟩ := id S
  obtain ⟨hP, hK⟩ := hB
  have hN := hK.2
  have hl : lv_has ls 1 [(0, .ref (jO X 13))] := hl
  refine lv_aload_n hx hb dX1_areFull_0 rfl (lv_at hl 0 rfl) ?_
  refine jr_get (k := 1) hx hb hts hown hK hP jb_13 (Nat.le_of_ble_eq_true rfl) jlX1_15 rfl dX1_areFull_1 ?_
  refine lv_bipush (v := 96) hx hb dX1_areFull_4 jcb_96 ?_
  refine lv_icmp_lt (tgt := 13) hx hb dX1_areFull_6 rfl (fun c6 => ?_) (fun c6 => ?_)
  · replace h := jh_t h c6
    refine lv_iconst (v := 0) hx hb dX1_areFull_13 jci_0 ?_
    exact je_z hx hb hr hlocks (Or.inl rfl) h dX1_areFull_14
  · replace h := jh_f h c6
    refine lv_iconst (v := 1) hx hb dX1_areFull_9 jci_1 ?_
    refine lv_goto (tgt := 14) hx hb dX1_areFull_10 rfl ?_
    exact je_z hx hb hr hlocks (Or.inr rfl) h dX1_areFull_14
def f_X1_take (M : jm) (v1 : Int32) : Option (Int32 × jm) := (if (f_X1_areFull M) = 0 then (jgd (M 13 1 0) 96 (some (((ju (ju M 13 0 (Int32.toNatClampNeg (M 13 1 0)) v1) 13 1 0 (((ju M 13 0 (Int32.toNatClampNeg (M 13 1 0)) v1) 13 1 0) + 1)) 13 1 0), (ju (ju M 13 0 (Int32.toNatClampNeg (M 13 1 0)) v1) 13 1 0 (((ju M 13 0 (Int32.toNatClampNeg (M 13 1 0)) v1) 13 1 0) + 1))))) else (some ((M 13 1 0), M)))
set_option maxRecDepth 100000 in
theorem m_X1_take (l : Launch) (X : jX) (A : Nat → Prop) (hs : jst X A) (M : jm) (v1 : Int32) (r : Int32) (N : jm) (h : f_X1_take M v1 = some (r, N)) : Met l yX1_take (jws yX1_take cX1_take 2 (some .int)) (jrm 1 20) (va_Pc [.ref (jO X 13), .int v1] (jB X M)) (jQm X A (some (.int r)) N) 0 0 A := by
  refine jm_of (by decide) (Nat.le_of_ble_eq_true rfl) ?_
  intro p e s m args below meth c ls S hr hlocks hB hl
  have S : CallFix p m c cX1_take 2 s args jtb RX1 := S
  obtain ⟨hx, hb, hml, hown, hts⟩ := id S
  obtain ⟨hP, hK⟩ := hB
  have hN := hK.2
  have hS : va_S A s.heap s.heap [] := va_S.rf
  have hl : lv_has ls 2 [(0, .ref (jO X 13)), (1, .int v1)] := hl
  refine lv_aload_n hx hb dX1_take_0 rfl (lv_at hl 0 rfl) ?_
  refine jr_kp (jr_rv (As := []) (rest := []) S hK hP jb_13 rfl (m_X1_areFull l X M  _ rfl) jw_X1_areFull ji_X1_areFull jmX1_19 rfl rfl ⟨(Nat.le_of_ble_eq_true rfl), (Nat.le_of_ble_eq_true rfl)⟩ rfl hl.1 rfl (Nat.le_of_ble_eq_true rfl) dX1_take_1 ⟨Nat.zero_le _, Nat.zero_le _⟩) ?_
  refine lv_if_eq (tgt := 12) hx hb dX1_take_4 rfl (fun c4 => ?_) (fun c4 => ?_)
  · replace h := jh_t h c4
    refine lv_aload_n hx hb dX1_take_12 rfl (lv_at hl 0 rfl) ?_
    refine jr_get (k := 0) hx hb hts hown hK hP jb_13 (Nat.le_of_ble_eq_true rfl) jlX1_9 rfl dX1_take_13 ?_
    refine lv_aload_n hx hb dX1_take_16 rfl (lv_at hl 0 rfl) ?_
    refine jr_get (k := 1) hx hb hts hown hK hP jb_13 (Nat.le_of_ble_eq_true rfl) jlX1_15 rfl dX1_take_17 ?_
    refine lv_iload_n hx hb dX1_take_20 rfl (lv_at hl 1 rfl) ?_
    obtain ⟨g21, h⟩ := jh_gd h
    refine jr_ast (n := 96) hx hb hK hP hs hS jb_13 rfl g21 dX1_take_21 (fun H locs hP hS => ?_)
    refine lv_aload_n hx hb dX1_take_22 rfl (lv_at hl 0 rfl) ?_
    refine lv_dup hx hb dX1_take_23 rfl ?_
    refine jr_get (k := 1) hx hb hts hown hK hP jb_13 (Nat.le_of_ble_eq_true rfl) jlX1_15 rfl dX1_take_24 ?_
    refine lv_iconst (v := 1) hx hb dX1_take_27 jci_1 ?_
    refine lv_iadd hx hb dX1_take_28 ?_
    refine jr_put (k := 1) (z := (((ju M 13 0 (Int32.toNatClampNeg (M 13 1 0)) v1) 13 1 0) + 1)) hx hb hts hown hK hP hs hS jb_13 (Nat.le_of_ble_eq_true rfl) jlX1_15 rfl (Or.inl rfl) rfl rfl rfl dX1_take_29 (fun H locs hP hS => ?_)
    refine lv_aload_n hx hb dX1_take_32 rfl (lv_at hl 0 rfl) ?_
    refine jr_get (k := 1) hx hb hts hown hK hP jb_13 (Nat.le_of_ble_eq_true rfl) jlX1_15 rfl dX1_take_33 ?_
    exact je_mi hx hb hr hlocks hK hP hS h dX1_take_36
  · replace h := jh_f h c4
    refine lv_aload_n hx hb dX1_take_7 rfl (lv_at hl 0 rfl) ?_
    refine jr_get (k := 1) hx hb hts hown hK hP jb_13 (Nat.le_of_ble_eq_true rfl) jlX1_15 rfl dX1_take_8 ?_
    exact je_mi hx hb hr hlocks hK hP hS h dX1_take_11
def f_X1_drop (M : jm) : Option jm := (some (ju M 13 1 0 0))
set_option maxRecDepth 100000 in
theorem m_X1_drop (l : Launch) (X : jX) (A : Nat → Prop) (hs : jst X A) (M : jm) (N : jm) (h : f_X1_drop M = some N) : Met l yX1_drop (jws yX1_drop cX1_drop 1 none) (jrm 0 0) (va_Pc [.ref (jO X 13)] (jB X M)) (jQm X A none N) 0 0 A := by
  refine jm_of (by decide) (Nat.le_of_ble_eq_true rfl) ?_
  intro p e s m args below meth c ls S hr hlocks hB hl
  have S : CallFix p m c cX1_drop 1 s args jtb RX1 := S
  obtain ⟨hx, hb, hml, hown, hts⟩ := id S
  obtain ⟨hP, hK⟩ := hB
  have hN := hK.2
  have hS : va_S A s.heap s.heap [] := va_S.rf
  have hl : lv_has ls 1 [(0, .ref (jO X 13))] := hl
  refine lv_aload_n hx hb dX1_drop_0 rfl (lv_at hl 0 rfl) ?_
  refine lv_iconst (v := 0) hx hb dX1_drop_1 jci_0 ?_
  refine jr_put (k := 1) (z := 0) hx hb hts hown hK hP hs hS jb_13 (Nat.le_of_ble_eq_true rfl) jlX1_15 rfl (Or.inl rfl) rfl rfl rfl dX1_drop_2 (fun H locs hP hS => ?_)
  exact je_mv hx hb hr hlocks hK hP hS h dX1_drop_5
def f_X1_digitsBehind (v0 : Int32) : Int32 := (if v0 = 101 then 2 else (if v0 = 103 then 3 else (if v0 = 104 then 4 else (if v0 = 108 then 1 else (if v0 = 111 then 2 else (if v0 = 119 then 5 else 0))))))
set_option maxRecDepth 100000 in
theorem m_X1_digitsBehind (l : Launch) (v0 : Int32) (r : Int32) (h : f_X1_digitsBehind v0 = r) : Met l yX1_digitsBehind (jws yX1_digitsBehind cX1_digitsBehind 1 (some .int)) (jrm 0 0) (va_Pc [.int v0] jN) (jQ (.int r)) 0 0 (fun _ => False) := by
  refine jm_of (by decide) (Nat.le_of_ble_eq_true rfl) ?_
  intro p e s m args below meth c ls S hr hlocks hB hl
  have S : CallFix p m c cX1_digitsBehind 1 s args jtb RX1 := S
  obtain ⟨hx, hb, hml, hown, hts⟩ := id S
  have hN := hB
  have hl : lv_has ls 1 [(0, .int v0)] := hl
  refine lv_iload_n hx hb dX1_digitsBehind_0 rfl (lv_at hl 0 rfl) ?_
  by_cases c1_101 : v0 = 101
  · replace h := jh_t h c1_101
    refine lv_tableIn (off := 101) (tgt := 102) hx hb dX1_digitsBehind_1 (by rw [c1_101]; decide) (by rw [c1_101]; decide) (by rw [c1_101]; rfl) rfl ?_
    refine lv_iconst (v := 2) hx hb dX1_digitsBehind_102 jci_2 ?_
    exact je_i hx hb hr hlocks h dX1_digitsBehind_103
  replace h := jh_f h c1_101
  by_cases c1_103 : v0 = 103
  · replace h := jh_t h c1_103
    refine lv_tableIn (off := 97) (tgt := 98) hx hb dX1_digitsBehind_1 (by rw [c1_103]; decide) (by rw [c1_103]; decide) (by rw [c1_103]; rfl) rfl ?_
    refine lv_iconst (v := 3) hx hb dX1_digitsBehind_98 jci_3 ?_
    exact je_i hx hb hr hlocks h dX1_digitsBehind_99
  replace h := jh_f h c1_103
  by_cases c1_104 : v0 = 104
  · replace h := jh_t h c1_104
    refine lv_tableIn (off := 91) (tgt := 92) hx hb dX1_digitsBehind_1 (by rw [c1_104]; decide) (by rw [c1_104]; decide) (by rw [c1_104]; rfl) rfl ?_
    refine lv_iconst (v := 4) hx hb dX1_digitsBehind_92 jci_4 ?_
    exact je_i hx hb hr hlocks h dX1_digitsBehind_93
  replace h := jh_f h c1_104
  by_cases c1_108 : v0 = 108
  · replace h := jh_t h c1_108
    refine lv_tableIn (off := 95) (tgt := 96) hx hb dX1_digitsBehind_1 (by rw [c1_108]; decide) (by rw [c1_108]; decide) (by rw [c1_108]; rfl) rfl ?_
    refine lv_iconst (v := 1) hx hb dX1_digitsBehind_96 jci_1 ?_
    exact je_i hx hb hr hlocks h dX1_digitsBehind_97
  replace h := jh_f h c1_108
  by_cases c1_111 : v0 = 111
  · replace h := jh_t h c1_111
    refine lv_tableIn (off := 99) (tgt := 100) hx hb dX1_digitsBehind_1 (by rw [c1_111]; decide) (by rw [c1_111]; decide) (by rw [c1_111]; rfl) rfl ?_
    refine lv_iconst (v := 2) hx hb dX1_digitsBehind_100 jci_2 ?_
    exact je_i hx hb hr hlocks h dX1_digitsBehind_101
  replace h := jh_f h c1_111
  by_cases c1_119 : v0 = 119
  · replace h := jh_t h c1_119
    refine lv_tableIn (off := 93) (tgt := 94) hx hb dX1_digitsBehind_1 (by rw [c1_119]; decide) (by rw [c1_119]; decide) (by rw [c1_119]; rfl) rfl ?_
    refine lv_iconst (v := 5) hx hb dX1_digitsBehind_94 jci_5 ?_
    exact je_i hx hb hr hlocks h dX1_digitsBehind_95
  replace h := jh_f h c1_119
  refine jr_tdef (ks := [101, 103, 104, 108, 111, 119]) (tgt := 104) hx hb dX1_digitsBehind_1 (jsw_cons (jsw_ne c1_101 rfl) (jsw_cons (jsw_ne c1_103 rfl) (jsw_cons (jsw_ne c1_104 rfl) (jsw_cons (jsw_ne c1_108 rfl) (jsw_cons (jsw_ne c1_111 rfl) (jsw_cons (jsw_ne c1_119 rfl) (jsw_nil))))))) (by decide) rfl ?_
  refine lv_iconst (v := 0) hx hb dX1_digitsBehind_104 jci_0 ?_
  exact je_i hx hb hr hlocks h dX1_digitsBehind_105
def f_X1_firstMisspelt_l6 (M : jm) : Nat → Int32 → Int32 → Int32 → Option Int32
  | 0, _, _, _ => none
  | k_1 + 1, v1_1, v2_1, v3_1 => (if (M 13 1 0) ≤ v3_1 then (if v1_1 = 0 then (if (M 13 1 0) = 0 then (some (M 13 1 0)) else (some (-9))) else (some (M 13 1 0))) else (jgd v3_1 96 (if v1_1 = 0 then (if (f_X1_digitsBehind (M 13 0 (Int32.toNatClampNeg v3_1))) = 0 then (some v3_1) else ((f_X1_firstMisspelt_l6 M k_1) 1 (f_X1_digitsBehind (M 13 0 (Int32.toNatClampNeg v3_1))) (v3_1 + 1))) else (if v2_1 ≤ 0 then (if (M 13 0 (Int32.toNatClampNeg v3_1)) = 59 then ((f_X1_firstMisspelt_l6 M k_1) 0 v2_1 (v3_1 + 1)) else (some v3_1)) else (if (M 13 0 (Int32.toNatClampNeg v3_1)) < 48 then (some v3_1) else (if (M 13 0 (Int32.toNatClampNeg v3_1)) ≤ 57 then ((f_X1_firstMisspelt_l6 M k_1) v1_1 (v2_1 + (-1)) (v3_1 + 1)) else (some v3_1)))))))
def f_X1_firstMisspelt (M : jm) : Option Int32 := (f_X1_firstMisspelt_l6 M 10000 0 0 0)
set_option maxRecDepth 100000 in
theorem m_X1_firstMisspelt (l : Launch) (X : jX) (M : jm) (r : Int32) (h : f_X1_firstMisspelt M = some r) : Met l yX1_firstMisspelt (jws yX1_firstMisspelt cX1_firstMisspelt 5 (some .int)) (jrm 1 20) (va_Pc [.ref (jO X 13)] (jB X M)) (jQ (.int r)) 0 0 (fun _ => False) := by
  refine jm_of (by decide) (Nat.le_of_ble_eq_true rfl) ?_
  intro p e s m args below meth c ls S hr hlocks hB hl
  have S : CallFix p m c cX1_firstMisspelt 5 s args jtb RX1 := S
  obtain ⟨hx, hb, hml, hown, hts⟩ := id S
  obtain ⟨hP, hK⟩ := hB
  have hN := hK.2
  have hl : lv_has ls 5 [(0, .ref (jO X 13))] := hl
  refine lv_iconst (v := 0) hx hb dX1_firstMisspelt_0 jci_0 ?_
  refine lv_istore_n (lv' := [(1, .int 0), (0, .ref (jO X 13))]) hx hb dX1_firstMisspelt_1 rfl hl (Nat.le_of_ble_eq_true rfl) rfl (fun ls hl => ?_)
  refine lv_iconst (v := 0) hx hb dX1_firstMisspelt_2 jci_0 ?_
  refine lv_istore_n (lv' := [(2, .int 0), (1, .int 0), (0, .ref (jO X 13))]) hx hb dX1_firstMisspelt_3 rfl hl (Nat.le_of_ble_eq_true rfl) rfl (fun ls hl => ?_)
  refine lv_iconst (v := 0) hx hb dX1_firstMisspelt_4 jci_0 ?_
  refine lv_istore_n (lv' := [(3, .int 0), (2, .int 0), (1, .int 0), (0, .ref (jO X 13))]) hx hb dX1_firstMisspelt_5 rfl hl (Nat.le_of_ble_eq_true rfl) rfl (fun ls hl => ?_)
  have L6 : ∀ (k_1 : Nat) (v1_1 : Int32) (v2_1 : Int32) (v3_1 : Int32) (ls : Array Slot), f_X1_firstMisspelt_l6 M k_1 v1_1 v2_1 v3_1 = some r → lv_has ls 5 [(0, .ref (jO X 13)), (1, .int v1_1), (2, .int v2_1), (3, .int v3_1)] → W p l e (jrm 1 20) s m args below meth c s.heap [] 0 0 (MQ below (jQ (.int r)) args s 0 0 (fun _ => False)) (F0 m 6 ls []) := by
    intro k_1
    induction k_1 with
    | zero => intro v1_1 v2_1 v3_1 ls h; exact jh_0 h
    | succ k_1 ih6 =>
      intro v1_1 v2_1 v3_1 ls h hl
      refine lv_iload_n hx hb dX1_firstMisspelt_6 rfl (lv_at hl 3 rfl) ?_
      refine lv_aload_n hx hb dX1_firstMisspelt_7 rfl (lv_at hl 0 rfl) ?_
      refine jr_get (k := 1) hx hb hts hown hK hP jb_13 (Nat.le_of_ble_eq_true rfl) jlX1_15 rfl dX1_firstMisspelt_8 ?_
      refine lv_icmp_ge (tgt := 86) hx hb dX1_firstMisspelt_11 rfl (fun c11 => ?_) (fun c11 => ?_)
      · replace h := jh_t h c11
        refine lv_iload_n hx hb dX1_firstMisspelt_86 rfl (lv_at hl 1 rfl) ?_
        refine lv_if_ne (tgt := 97) hx hb dX1_firstMisspelt_87 rfl (fun c87 => ?_) (fun c87 => ?_)
        · replace h := jh_f h c87
          refine lv_aload_n hx hb dX1_firstMisspelt_97 rfl (lv_at hl 0 rfl) ?_
          refine jr_get (k := 1) hx hb hts hown hK hP jb_13 (Nat.le_of_ble_eq_true rfl) jlX1_15 rfl dX1_firstMisspelt_98 ?_
          refine lv_goto (tgt := 106) hx hb dX1_firstMisspelt_101 rfl ?_
          exact je_i hx hb hr hlocks (Option.some.inj h) dX1_firstMisspelt_106
        · replace h := jh_t h c87
          refine lv_aload_n hx hb dX1_firstMisspelt_90 rfl (lv_at hl 0 rfl) ?_
          refine jr_get (k := 1) hx hb hts hown hK hP jb_13 (Nat.le_of_ble_eq_true rfl) jlX1_15 rfl dX1_firstMisspelt_91 ?_
          refine lv_if_ne (tgt := 104) hx hb dX1_firstMisspelt_94 rfl (fun c94 => ?_) (fun c94 => ?_)
          · replace h := jh_f h c94
            refine lv_bipush (v := (-9)) hx hb dX1_firstMisspelt_104 jcb_m9 ?_
            exact je_i hx hb hr hlocks (Option.some.inj h) dX1_firstMisspelt_106
          · replace h := jh_t h c94
            refine lv_aload_n hx hb dX1_firstMisspelt_97 rfl (lv_at hl 0 rfl) ?_
            refine jr_get (k := 1) hx hb hts hown hK hP jb_13 (Nat.le_of_ble_eq_true rfl) jlX1_15 rfl dX1_firstMisspelt_98 ?_
            refine lv_goto (tgt := 106) hx hb dX1_firstMisspelt_101 rfl ?_
            exact je_i hx hb hr hlocks (Option.some.inj h) dX1_firstMisspelt_106
      · replace h := jh_f h c11
        refine lv_aload_n hx hb dX1_firstMisspelt_14 rfl (lv_at hl 0 rfl) ?_
        refine jr_get (k := 0) hx hb hts hown hK hP jb_13 (Nat.le_of_ble_eq_true rfl) jlX1_9 rfl dX1_firstMisspelt_15 ?_
        refine lv_iload_n hx hb dX1_firstMisspelt_18 rfl (lv_at hl 3 rfl) ?_
        obtain ⟨g19, h⟩ := jh_gd h
        refine jr_ald (n := 96) hx hb hK hP jb_13 rfl g19 dX1_firstMisspelt_19 ?_
        refine lv_istore (lv' := [(4, .int (M 13 0 (Int32.toNatClampNeg v3_1))), (0, .ref (jO X 13)), (1, .int v1_1), (2, .int v2_1), (3, .int v3_1)]) hx hb dX1_firstMisspelt_20 hl (Nat.le_of_ble_eq_true rfl) rfl (fun ls hl => ?_)
        refine lv_iload_n hx hb dX1_firstMisspelt_22 rfl (lv_at hl 2 rfl) ?_
        refine lv_if_ne (tgt := 43) hx hb dX1_firstMisspelt_23 rfl (fun c23 => ?_) (fun c23 => ?_)
        · replace h := jh_f h c23
          refine lv_iload_n hx hb dX1_firstMisspelt_43 rfl (lv_at hl 3 rfl) ?_
          refine lv_if_le (tgt := 69) hx hb dX1_firstMisspelt_44 rfl (fun c44 => ?_) (fun c44 => ?_)
          · replace h := jh_t h c44
            refine lv_iload hx hb dX1_firstMisspelt_69 (lv_at hl 0 rfl) ?_
            refine lv_bipush (v := 59) hx hb dX1_firstMisspelt_71 jcb_59 ?_
            refine lv_icmp_eq (tgt := 78) hx hb dX1_firstMisspelt_73 rfl (fun c73 => ?_) (fun c73 => ?_)
            · replace h := jh_t h c73
              refine lv_iconst (v := 0) hx hb dX1_firstMisspelt_78 jci_0 ?_
              refine lv_istore_n (lv' := [(1, .int 0), (4, .int (M 13 0 (Int32.toNatClampNeg v3_1))), (0, .ref (jO X 13)), (2, .int v2_1), (3, .int v3_1)]) hx hb dX1_firstMisspelt_79 rfl hl (Nat.le_of_ble_eq_true rfl) rfl (fun ls hl => ?_)
              refine lv_iinc (v := (v3_1 + 1)) (lv' := [(3, .int (v3_1 + 1)), (1, .int 0), (4, .int (M 13 0 (Int32.toNatClampNeg v3_1))), (0, .ref (jO X 13)), (2, .int v2_1)]) hx hb dX1_firstMisspelt_80 hl (k := 4) rfl (congrArg _ jci_1) (Nat.le_of_ble_eq_true rfl) rfl (fun ls hl => ?_)
              refine lv_goto (tgt := 6) hx hb dX1_firstMisspelt_83 rfl ?_
              exact ih6 0 v2_1 (v3_1 + 1) _ h (lv_sub hl [3, 1, 4, 0] rfl)
            · replace h := jh_f h c73
              refine lv_iload_n hx hb dX1_firstMisspelt_76 rfl (lv_at hl 4 rfl) ?_
              exact je_i hx hb hr hlocks (Option.some.inj h) dX1_firstMisspelt_77
          · replace h := jh_f h c44
            refine lv_iload hx hb dX1_firstMisspelt_47 (lv_at hl 0 rfl) ?_
            refine lv_bipush (v := 48) hx hb dX1_firstMisspelt_49 jcb_48 ?_
            refine lv_icmp_lt (tgt := 61) hx hb dX1_firstMisspelt_51 rfl (fun c51 => ?_) (fun c51 => ?_)
            · replace h := jh_t h c51
              refine lv_iload_n hx hb dX1_firstMisspelt_61 rfl (lv_at hl 4 rfl) ?_
              exact je_i hx hb hr hlocks (Option.some.inj h) dX1_firstMisspelt_62
            · replace h := jh_f h c51
              refine lv_iload hx hb dX1_firstMisspelt_54 (lv_at hl 0 rfl) ?_
              refine lv_bipush (v := 57) hx hb dX1_firstMisspelt_56 jcb_57 ?_
              refine lv_icmp_le (tgt := 63) hx hb dX1_firstMisspelt_58 rfl (fun c58 => ?_) (fun c58 => ?_)
              · replace h := jh_t h c58
                refine lv_iinc (v := (v2_1 + (-1))) (lv' := [(2, .int (v2_1 + (-1))), (4, .int (M 13 0 (Int32.toNatClampNeg v3_1))), (0, .ref (jO X 13)), (1, .int v1_1), (3, .int v3_1)]) hx hb dX1_firstMisspelt_63 hl (k := 3) rfl (congrArg _ jci_m1) (Nat.le_of_ble_eq_true rfl) rfl (fun ls hl => ?_)
                refine lv_goto (tgt := 80) hx hb dX1_firstMisspelt_66 rfl ?_
                refine lv_iinc (v := (v3_1 + 1)) (lv' := [(3, .int (v3_1 + 1)), (2, .int (v2_1 + (-1))), (4, .int (M 13 0 (Int32.toNatClampNeg v3_1))), (0, .ref (jO X 13)), (1, .int v1_1)]) hx hb dX1_firstMisspelt_80 hl (k := 4) rfl (congrArg _ jci_1) (Nat.le_of_ble_eq_true rfl) rfl (fun ls hl => ?_)
                refine lv_goto (tgt := 6) hx hb dX1_firstMisspelt_83 rfl ?_
                exact ih6 v1_1 (v2_1 + (-1)) (v3_1 + 1) _ h (lv_sub hl [3, 4, 1, 0] rfl)
              · replace h := jh_f h c58
                refine lv_iload_n hx hb dX1_firstMisspelt_61 rfl (lv_at hl 4 rfl) ?_
                exact je_i hx hb hr hlocks (Option.some.inj h) dX1_firstMisspelt_62
        · replace h := jh_t h c23
          refine lv_iload hx hb dX1_firstMisspelt_26 (lv_at hl 0 rfl) ?_
          refine jr_kp (jr_rs (As := [.int (M 13 0 (Int32.toNatClampNeg v3_1))]) (rest := []) S hN (m_X1_digitsBehind l (M 13 0 (Int32.toNatClampNeg v3_1)) _ rfl) jw_X1_digitsBehind js_X1_digitsBehind jmX1_31 rfl rfl ⟨(Nat.le_of_ble_eq_true rfl), (Nat.le_of_ble_eq_true rfl)⟩ rfl hl.1 rfl (Nat.le_of_ble_eq_true rfl) dX1_firstMisspelt_28 ⟨Nat.zero_le _, Nat.zero_le _⟩) ?_
          refine lv_istore_n (lv' := [(2, .int (f_X1_digitsBehind (M 13 0 (Int32.toNatClampNeg v3_1)))), (4, .int (M 13 0 (Int32.toNatClampNeg v3_1))), (0, .ref (jO X 13)), (1, .int v1_1), (3, .int v3_1)]) hx hb dX1_firstMisspelt_31 rfl hl (Nat.le_of_ble_eq_true rfl) rfl (fun ls hl => ?_)
          refine lv_iload_n hx hb dX1_firstMisspelt_32 rfl (lv_at hl 0 rfl) ?_
          refine lv_if_ne (tgt := 38) hx hb dX1_firstMisspelt_33 rfl (fun c33 => ?_) (fun c33 => ?_)
          · replace h := jh_f h c33
            refine lv_iconst (v := 1) hx hb dX1_firstMisspelt_38 jci_1 ?_
            refine lv_istore_n (lv' := [(1, .int 1), (2, .int (f_X1_digitsBehind (M 13 0 (Int32.toNatClampNeg v3_1)))), (4, .int (M 13 0 (Int32.toNatClampNeg v3_1))), (0, .ref (jO X 13)), (3, .int v3_1)]) hx hb dX1_firstMisspelt_39 rfl hl (Nat.le_of_ble_eq_true rfl) rfl (fun ls hl => ?_)
            refine lv_goto (tgt := 80) hx hb dX1_firstMisspelt_40 rfl ?_
            refine lv_iinc (v := (v3_1 + 1)) (lv' := [(3, .int (v3_1 + 1)), (1, .int 1), (2, .int (f_X1_digitsBehind (M 13 0 (Int32.toNatClampNeg v3_1)))), (4, .int (M 13 0 (Int32.toNatClampNeg v3_1))), (0, .ref (jO X 13))]) hx hb dX1_firstMisspelt_80 hl (k := 4) rfl (congrArg _ jci_1) (Nat.le_of_ble_eq_true rfl) rfl (fun ls hl => ?_)
            refine lv_goto (tgt := 6) hx hb dX1_firstMisspelt_83 rfl ?_
            exact ih6 1 (f_X1_digitsBehind (M 13 0 (Int32.toNatClampNeg v3_1))) (v3_1 + 1) _ h (lv_sub hl [4, 1, 2, 0] rfl)
          · replace h := jh_t h c33
            refine lv_iload_n hx hb dX1_firstMisspelt_36 rfl (lv_at hl 4 rfl) ?_
            exact je_i hx hb hr hlocks (Option.some.inj h) dX1_firstMisspelt_37
  exact L6 10000 0 0 0 _ h (lv_sub hl [3, 2, 1, 0] rfl)
def f_X1_digit (M : jm) (v1 : Int32) : Option Int32 := (if (M 13 1 0) ≤ v1 then (some 0) else (jgd v1 96 (some ((M 13 0 (Int32.toNatClampNeg v1)) - 48))))
set_option maxRecDepth 100000 in
theorem m_X1_digit (l : Launch) (X : jX) (M : jm) (v1 : Int32) (r : Int32) (h : f_X1_digit M v1 = some r) : Met l yX1_digit (jws yX1_digit cX1_digit 2 (some .int)) (jrm 0 0) (va_Pc [.ref (jO X 13), .int v1] (jB X M)) (jQ (.int r)) 0 0 (fun _ => False) := by
  refine jm_of (by decide) (Nat.le_of_ble_eq_true rfl) ?_
  intro p e s m args below meth c ls S hr hlocks hB hl
  have S : CallFix p m c cX1_digit 2 s args jtb RX1 := S
  obtain ⟨hx, hb, hml, hown, hts⟩ := id S
  obtain ⟨hP, hK⟩ := hB
  have hN := hK.2
  have hl : lv_has ls 2 [(0, .ref (jO X 13)), (1, .int v1)] := hl
  refine lv_iload_n hx hb dX1_digit_0 rfl (lv_at hl 1 rfl) ?_
  refine lv_aload_n hx hb dX1_digit_1 rfl (lv_at hl 0 rfl) ?_
  refine jr_get (k := 1) hx hb hts hown hK hP jb_13 (Nat.le_of_ble_eq_true rfl) jlX1_15 rfl dX1_digit_2 ?_
  refine lv_icmp_ge (tgt := 20) hx hb dX1_digit_5 rfl (fun c5 => ?_) (fun c5 => ?_)
  · replace h := jh_t h c5
    refine lv_iconst (v := 0) hx hb dX1_digit_20 jci_0 ?_
    exact je_i hx hb hr hlocks (Option.some.inj h) dX1_digit_21
  · replace h := jh_f h c5
    refine lv_aload_n hx hb dX1_digit_8 rfl (lv_at hl 0 rfl) ?_
    refine jr_get (k := 0) hx hb hts hown hK hP jb_13 (Nat.le_of_ble_eq_true rfl) jlX1_9 rfl dX1_digit_9 ?_
    refine lv_iload_n hx hb dX1_digit_12 rfl (lv_at hl 1 rfl) ?_
    obtain ⟨g13, h⟩ := jh_gd h
    refine jr_ald (n := 96) hx hb hK hP jb_13 rfl g13 dX1_digit_13 ?_
    refine lv_bipush (v := 48) hx hb dX1_digit_14 jcb_48 ?_
    refine lv_isub hx hb dX1_digit_16 ?_
    refine lv_goto (tgt := 21) hx hb dX1_digit_17 rfl ?_
    exact je_i hx hb hr hlocks (Option.some.inj h) dX1_digit_21
def f_X1_pair (M : jm) (v1 : Int32) : Option Int32 := (jb (f_X1_digit M v1) fun r1 => (jb (f_X1_digit M (v1 + 1)) fun r2 => (some ((10 * r1) + r2))))
set_option maxRecDepth 100000 in
theorem m_X1_pair (l : Launch) (X : jX) (M : jm) (v1 : Int32) (r : Int32) (h : f_X1_pair M v1 = some r) : Met l yX1_pair (jws yX1_pair cX1_pair 2 (some .int)) (jrm 1 21) (va_Pc [.ref (jO X 13), .int v1] (jB X M)) (jQ (.int r)) 0 0 (fun _ => False) := by
  refine jm_of (by decide) (Nat.le_of_ble_eq_true rfl) ?_
  intro p e s m args below meth c ls S hr hlocks hB hl
  have S : CallFix p m c cX1_pair 2 s args jtb RX1 := S
  obtain ⟨hx, hb, hml, hown, hts⟩ := id S
  obtain ⟨hP, hK⟩ := hB
  have hN := hK.2
  have hl : lv_has ls 2 [(0, .ref (jO X 13)), (1, .int v1)] := hl
  refine lv_bipush (v := 10) hx hb dX1_pair_0 jcb_10 ?_
  refine lv_aload_n hx hb dX1_pair_2 rfl (lv_at hl 0 rfl) ?_
  refine lv_iload_n hx hb dX1_pair_3 rfl (lv_at hl 1 rfl) ?_
  obtain ⟨r1, e1, h⟩ := jh_b h
  refine jr_kp (jr_rv (As := [.int v1]) (rest := [.int 10]) S hK hP jb_13 rfl (m_X1_digit l X M v1 r1 e1) jw_X1_digit ji_X1_digit jmX1_35 rfl rfl ⟨(Nat.le_of_ble_eq_true rfl), (Nat.le_of_ble_eq_true rfl)⟩ rfl hl.1 rfl (Nat.le_of_ble_eq_true rfl) dX1_pair_4 ⟨Nat.zero_le _, Nat.zero_le _⟩) ?_
  refine lv_imul hx hb dX1_pair_7 ?_
  refine lv_aload_n hx hb dX1_pair_8 rfl (lv_at hl 0 rfl) ?_
  refine lv_iload_n hx hb dX1_pair_9 rfl (lv_at hl 1 rfl) ?_
  refine lv_iconst (v := 1) hx hb dX1_pair_10 jci_1 ?_
  refine lv_iadd hx hb dX1_pair_11 ?_
  obtain ⟨r2, e2, h⟩ := jh_b h
  refine jr_kp (jr_rv (As := [.int (v1 + 1)]) (rest := [.int (10 * r1)]) S hK hP jb_13 rfl (m_X1_digit l X M (v1 + 1) r2 e2) jw_X1_digit ji_X1_digit jmX1_35 rfl rfl ⟨(Nat.le_of_ble_eq_true rfl), (Nat.le_of_ble_eq_true rfl)⟩ rfl hl.1 rfl (Nat.le_of_ble_eq_true rfl) dX1_pair_12 ⟨Nat.zero_le _, Nat.zero_le _⟩) ?_
  refine lv_iadd hx hb dX1_pair_15 ?_
  exact je_i hx hb hr hlocks (Option.some.inj h) dX1_pair_16
def f_X1_tellStatement (M : jm) (o1 : Nat) (v2 : Int32) : Option (Int32 × jm) := (jgd v2 96 (if (M 13 0 (Int32.toNatClampNeg v2)) = 101 then (jb (f_X1_pair M (v2 + 1)) fun r1 => (jb2 (f_X4_pass M o1 r1) fun r2 M_2 => (jgb r2 (some (r2, M_2))))) else (if (M 13 0 (Int32.toNatClampNeg v2)) = 103 then (jb (f_X1_digit M (v2 + 1)) fun r3 => (jb (f_X1_pair M (v2 + 2)) fun r4 => (jb2 (f_X4_aim M o1 r3 r4) fun r5 M_5 => (jgb r5 (some (r5, M_5)))))) else (if (M 13 0 (Int32.toNatClampNeg v2)) = 104 then (jb (f_X1_digit M (v2 + 1)) fun r6 => (jb (f_X1_digit M (v2 + 2)) fun r7 => (jb (f_X1_pair M (v2 + 3)) fun r8 => (jb2 (f_X4_addHouse M o1 r6 r7 r8) fun r9 M_9 => (jgb r9 (some (r9, M_9))))))) else (if (M 13 0 (Int32.toNatClampNeg v2)) = 108 then (jb (f_X1_digit M (v2 + 1)) fun r10 => (jb2 (f_X4_turn M o1 r10) fun r11 M_11 => (jgb r11 (some (r11, M_11))))) else (if (M 13 0 (Int32.toNatClampNeg v2)) = 111 then (jb (f_X1_digit M (v2 + 1)) fun r12 => (jb (f_X1_digit M (v2 + 2)) fun r13 => (jb2 (f_X4_addDebt M o1 r12 r13) fun r14 M_14 => (jgb r14 (some (r14, M_14)))))) else (if (M 13 0 (Int32.toNatClampNeg v2)) = 119 then (jb (f_X1_pair M (v2 + 1)) fun r15 => (jb (f_X1_pair M (v2 + 3)) fun r16 => (jb (f_X1_digit M (v2 + 5)) fun r17 => (jb2 (f_X4_addWalker M o1 r15 r16 r17) fun r18 M_18 => (jgb r18 (some (r18, M_18))))))) else (some (0, M)))))))))
set_option maxRecDepth 100000 in
theorem m_X1_tellStatement (l : Launch) (X : jX) (A : Nat → Prop) (hs : jst X A) (M : jm) {o1 : Nat} (hj1 : job o1 4) (v2 : Int32) (r : Int32) (N : jm) (h : f_X1_tellStatement M o1 v2 = some (r, N)) : Met l yX1_tellStatement (jws yX1_tellStatement cX1_tellStatement 3 (some .boolean)) (jrm 5 118) (va_Pc [.ref (jO X 13), .ref (jO X o1), .int v2] (jB X M)) (jQm X A (some (.int r)) N) 0 0 A := by
  refine jm_of (by decide) (Nat.le_of_ble_eq_true rfl) ?_
  intro p e s m args below meth c ls S hr hlocks hB hl
  have S : CallFix p m c cX1_tellStatement 3 s args jtb RX1 := S
  obtain ⟨hx, hb, hml, hown, hts⟩ := id S
  obtain ⟨hP, hK⟩ := hB
  have hN := hK.2
  have hS : va_S A s.heap s.heap [] := va_S.rf
  have hl : lv_has ls 3 [(0, .ref (jO X 13)), (1, .ref (jO X o1)), (2, .int v2)] := hl
  refine lv_aload_n hx hb dX1_tellStatement_0 rfl (lv_at hl 0 rfl) ?_
  refine jr_get (k := 0) hx hb hts hown hK hP jb_13 (Nat.le_of_ble_eq_true rfl) jlX1_9 rfl dX1_tellStatement_1 ?_
  refine lv_iload_n hx hb dX1_tellStatement_4 rfl (lv_at hl 2 rfl) ?_
  obtain ⟨g5, h⟩ := jh_gd h
  refine jr_ald (n := 96) hx hb hK hP jb_13 rfl g5 dX1_tellStatement_5 ?_
  by_cases c6_101 : (M 13 0 (Int32.toNatClampNeg v2)) = 101
  · replace h := jh_t h c6_101
    refine lv_tableIn (off := 192) (tgt := 198) hx hb dX1_tellStatement_6 (by rw [c6_101]; decide) (by rw [c6_101]; decide) (by rw [c6_101]; rfl) rfl ?_
    refine lv_aload_n hx hb dX1_tellStatement_198 rfl (lv_at hl 1 rfl) ?_
    refine lv_aload_n hx hb dX1_tellStatement_199 rfl (lv_at hl 0 rfl) ?_
    refine lv_iload_n hx hb dX1_tellStatement_200 rfl (lv_at hl 2 rfl) ?_
    refine lv_iconst (v := 1) hx hb dX1_tellStatement_201 jci_1 ?_
    refine lv_iadd hx hb dX1_tellStatement_202 ?_
    obtain ⟨r1, e1, h⟩ := jh_b h
    refine jr_kp (jr_rv (As := [.int (v2 + 1)]) (rest := [.ref (jO X o1)]) S hK hP jb_13 rfl (m_X1_pair l X M (v2 + 1) r1 e1) jw_X1_pair ji_X1_pair jmX1_38 rfl rfl ⟨(Nat.le_of_ble_eq_true rfl), (Nat.le_of_ble_eq_true rfl)⟩ rfl hl.1 rfl (Nat.le_of_ble_eq_true rfl) dX1_tellStatement_203 ⟨Nat.zero_le _, Nat.zero_le _⟩) ?_
    obtain ⟨r2, M_2, e2, h⟩ := jh_b2 h
    refine jr_km (jr_rv (As := [.int r1]) (rest := []) S hK hP hj1 rfl (m_X4_pass l X A hs M hj1 r1 r2 M_2 e2) jw_X4_pass ji_X4_pass jmX1_61 rfl rfl ⟨(Nat.le_of_ble_eq_true rfl), (Nat.le_of_ble_eq_true rfl)⟩ rfl hl.1 rfl (Nat.le_of_ble_eq_true rfl) dX1_tellStatement_206 ⟨Nat.zero_le _, Nat.zero_le _⟩) hS (fun H locs hP hS => ?_)
    obtain ⟨gz, h⟩ := jh_gb h
    exact je_mz hx hb hr hlocks hK hP hS gz h dX1_tellStatement_209
  replace h := jh_f h c6_101
  by_cases c6_103 : (M 13 0 (Int32.toNatClampNeg v2)) = 103
  · replace h := jh_t h c6_103
    refine lv_tableIn (off := 154) (tgt := 160) hx hb dX1_tellStatement_6 (by rw [c6_103]; decide) (by rw [c6_103]; decide) (by rw [c6_103]; rfl) rfl ?_
    refine lv_aload_n hx hb dX1_tellStatement_160 rfl (lv_at hl 1 rfl) ?_
    refine lv_aload_n hx hb dX1_tellStatement_161 rfl (lv_at hl 0 rfl) ?_
    refine lv_iload_n hx hb dX1_tellStatement_162 rfl (lv_at hl 2 rfl) ?_
    refine lv_iconst (v := 1) hx hb dX1_tellStatement_163 jci_1 ?_
    refine lv_iadd hx hb dX1_tellStatement_164 ?_
    obtain ⟨r3, e3, h⟩ := jh_b h
    refine jr_kp (jr_rv (As := [.int (v2 + 1)]) (rest := [.ref (jO X o1)]) S hK hP jb_13 rfl (m_X1_digit l X M (v2 + 1) r3 e3) jw_X1_digit ji_X1_digit jmX1_35 rfl rfl ⟨(Nat.le_of_ble_eq_true rfl), (Nat.le_of_ble_eq_true rfl)⟩ rfl hl.1 rfl (Nat.le_of_ble_eq_true rfl) dX1_tellStatement_165 ⟨Nat.zero_le _, Nat.zero_le _⟩) ?_
    refine lv_aload_n hx hb dX1_tellStatement_168 rfl (lv_at hl 0 rfl) ?_
    refine lv_iload_n hx hb dX1_tellStatement_169 rfl (lv_at hl 2 rfl) ?_
    refine lv_iconst (v := 2) hx hb dX1_tellStatement_170 jci_2 ?_
    refine lv_iadd hx hb dX1_tellStatement_171 ?_
    obtain ⟨r4, e4, h⟩ := jh_b h
    refine jr_kp (jr_rv (As := [.int (v2 + 2)]) (rest := [.int r3, .ref (jO X o1)]) S hK hP jb_13 rfl (m_X1_pair l X M (v2 + 2) r4 e4) jw_X1_pair ji_X1_pair jmX1_38 rfl rfl ⟨(Nat.le_of_ble_eq_true rfl), (Nat.le_of_ble_eq_true rfl)⟩ rfl hl.1 rfl (Nat.le_of_ble_eq_true rfl) dX1_tellStatement_172 ⟨Nat.zero_le _, Nat.zero_le _⟩) ?_
    obtain ⟨r5, M_5, e5, h⟩ := jh_b2 h
    refine jr_km (jr_rv (As := [.int r3, .int r4]) (rest := []) S hK hP hj1 rfl (m_X4_aim l X A hs M hj1 r3 r4 r5 M_5 e5) jw_X4_aim ji_X4_aim jmX1_54 rfl rfl ⟨(Nat.le_of_ble_eq_true rfl), (Nat.le_of_ble_eq_true rfl)⟩ rfl hl.1 rfl (Nat.le_of_ble_eq_true rfl) dX1_tellStatement_175 ⟨Nat.zero_le _, Nat.zero_le _⟩) hS (fun H locs hP hS => ?_)
    obtain ⟨gz, h⟩ := jh_gb h
    exact je_mz hx hb hr hlocks hK hP hS gz h dX1_tellStatement_178
  replace h := jh_f h c6_103
  by_cases c6_104 : (M 13 0 (Int32.toNatClampNeg v2)) = 104
  · replace h := jh_t h c6_104
    refine lv_tableIn (off := 90) (tgt := 96) hx hb dX1_tellStatement_6 (by rw [c6_104]; decide) (by rw [c6_104]; decide) (by rw [c6_104]; rfl) rfl ?_
    refine lv_aload_n hx hb dX1_tellStatement_96 rfl (lv_at hl 1 rfl) ?_
    refine lv_aload_n hx hb dX1_tellStatement_97 rfl (lv_at hl 0 rfl) ?_
    refine lv_iload_n hx hb dX1_tellStatement_98 rfl (lv_at hl 2 rfl) ?_
    refine lv_iconst (v := 1) hx hb dX1_tellStatement_99 jci_1 ?_
    refine lv_iadd hx hb dX1_tellStatement_100 ?_
    obtain ⟨r6, e6, h⟩ := jh_b h
    refine jr_kp (jr_rv (As := [.int (v2 + 1)]) (rest := [.ref (jO X o1)]) S hK hP jb_13 rfl (m_X1_digit l X M (v2 + 1) r6 e6) jw_X1_digit ji_X1_digit jmX1_35 rfl rfl ⟨(Nat.le_of_ble_eq_true rfl), (Nat.le_of_ble_eq_true rfl)⟩ rfl hl.1 rfl (Nat.le_of_ble_eq_true rfl) dX1_tellStatement_101 ⟨Nat.zero_le _, Nat.zero_le _⟩) ?_
    refine lv_aload_n hx hb dX1_tellStatement_104 rfl (lv_at hl 0 rfl) ?_
    refine lv_iload_n hx hb dX1_tellStatement_105 rfl (lv_at hl 2 rfl) ?_
    refine lv_iconst (v := 2) hx hb dX1_tellStatement_106 jci_2 ?_
    refine lv_iadd hx hb dX1_tellStatement_107 ?_
    obtain ⟨r7, e7, h⟩ := jh_b h
    refine jr_kp (jr_rv (As := [.int (v2 + 2)]) (rest := [.int r6, .ref (jO X o1)]) S hK hP jb_13 rfl (m_X1_digit l X M (v2 + 2) r7 e7) jw_X1_digit ji_X1_digit jmX1_35 rfl rfl ⟨(Nat.le_of_ble_eq_true rfl), (Nat.le_of_ble_eq_true rfl)⟩ rfl hl.1 rfl (Nat.le_of_ble_eq_true rfl) dX1_tellStatement_108 ⟨Nat.zero_le _, Nat.zero_le _⟩) ?_
    refine lv_aload_n hx hb dX1_tellStatement_111 rfl (lv_at hl 0 rfl) ?_
    refine lv_iload_n hx hb dX1_tellStatement_112 rfl (lv_at hl 2 rfl) ?_
    refine lv_iconst (v := 3) hx hb dX1_tellStatement_113 jci_3 ?_
    refine lv_iadd hx hb dX1_tellStatement_114 ?_
    obtain ⟨r8, e8, h⟩ := jh_b h
    refine jr_kp (jr_rv (As := [.int (v2 + 3)]) (rest := [.int r7, .int r6, .ref (jO X o1)]) S hK hP jb_13 rfl (m_X1_pair l X M (v2 + 3) r8 e8) jw_X1_pair ji_X1_pair jmX1_38 rfl rfl ⟨(Nat.le_of_ble_eq_true rfl), (Nat.le_of_ble_eq_true rfl)⟩ rfl hl.1 rfl (Nat.le_of_ble_eq_true rfl) dX1_tellStatement_115 ⟨Nat.zero_le _, Nat.zero_le _⟩) ?_
    obtain ⟨r9, M_9, e9, h⟩ := jh_b2 h
    refine jr_km (jr_rv (As := [.int r6, .int r7, .int r8]) (rest := []) S hK hP hj1 rfl (m_X4_addHouse l X A hs M hj1 r6 r7 r8 r9 M_9 e9) jw_X4_addHouse ji_X4_addHouse jmX1_41 rfl rfl ⟨(Nat.le_of_ble_eq_true rfl), (Nat.le_of_ble_eq_true rfl)⟩ rfl hl.1 rfl (Nat.le_of_ble_eq_true rfl) dX1_tellStatement_118 ⟨Nat.zero_le _, Nat.zero_le _⟩) hS (fun H locs hP hS => ?_)
    obtain ⟨gz, h⟩ := jh_gb h
    exact je_mz hx hb hr hlocks hK hP hS gz h dX1_tellStatement_121
  replace h := jh_f h c6_104
  by_cases c6_108 : (M 13 0 (Int32.toNatClampNeg v2)) = 108
  · replace h := jh_t h c6_108
    refine lv_tableIn (off := 142) (tgt := 148) hx hb dX1_tellStatement_6 (by rw [c6_108]; decide) (by rw [c6_108]; decide) (by rw [c6_108]; rfl) rfl ?_
    refine lv_aload_n hx hb dX1_tellStatement_148 rfl (lv_at hl 1 rfl) ?_
    refine lv_aload_n hx hb dX1_tellStatement_149 rfl (lv_at hl 0 rfl) ?_
    refine lv_iload_n hx hb dX1_tellStatement_150 rfl (lv_at hl 2 rfl) ?_
    refine lv_iconst (v := 1) hx hb dX1_tellStatement_151 jci_1 ?_
    refine lv_iadd hx hb dX1_tellStatement_152 ?_
    obtain ⟨r10, e10, h⟩ := jh_b h
    refine jr_kp (jr_rv (As := [.int (v2 + 1)]) (rest := [.ref (jO X o1)]) S hK hP jb_13 rfl (m_X1_digit l X M (v2 + 1) r10 e10) jw_X1_digit ji_X1_digit jmX1_35 rfl rfl ⟨(Nat.le_of_ble_eq_true rfl), (Nat.le_of_ble_eq_true rfl)⟩ rfl hl.1 rfl (Nat.le_of_ble_eq_true rfl) dX1_tellStatement_153 ⟨Nat.zero_le _, Nat.zero_le _⟩) ?_
    obtain ⟨r11, M_11, e11, h⟩ := jh_b2 h
    refine jr_km (jr_rv (As := [.int r10]) (rest := []) S hK hP hj1 rfl (m_X4_turn l X A hs M hj1 r10 r11 M_11 e11) jw_X4_turn ji_X4_turn jmX1_50 rfl rfl ⟨(Nat.le_of_ble_eq_true rfl), (Nat.le_of_ble_eq_true rfl)⟩ rfl hl.1 rfl (Nat.le_of_ble_eq_true rfl) dX1_tellStatement_156 ⟨Nat.zero_le _, Nat.zero_le _⟩) hS (fun H locs hP hS => ?_)
    obtain ⟨gz, h⟩ := jh_gb h
    exact je_mz hx hb hr hlocks hK hP hS gz h dX1_tellStatement_159
  replace h := jh_f h c6_108
  by_cases c6_111 : (M 13 0 (Int32.toNatClampNeg v2)) = 111
  · replace h := jh_t h c6_111
    refine lv_tableIn (off := 173) (tgt := 179) hx hb dX1_tellStatement_6 (by rw [c6_111]; decide) (by rw [c6_111]; decide) (by rw [c6_111]; rfl) rfl ?_
    refine lv_aload_n hx hb dX1_tellStatement_179 rfl (lv_at hl 1 rfl) ?_
    refine lv_aload_n hx hb dX1_tellStatement_180 rfl (lv_at hl 0 rfl) ?_
    refine lv_iload_n hx hb dX1_tellStatement_181 rfl (lv_at hl 2 rfl) ?_
    refine lv_iconst (v := 1) hx hb dX1_tellStatement_182 jci_1 ?_
    refine lv_iadd hx hb dX1_tellStatement_183 ?_
    obtain ⟨r12, e12, h⟩ := jh_b h
    refine jr_kp (jr_rv (As := [.int (v2 + 1)]) (rest := [.ref (jO X o1)]) S hK hP jb_13 rfl (m_X1_digit l X M (v2 + 1) r12 e12) jw_X1_digit ji_X1_digit jmX1_35 rfl rfl ⟨(Nat.le_of_ble_eq_true rfl), (Nat.le_of_ble_eq_true rfl)⟩ rfl hl.1 rfl (Nat.le_of_ble_eq_true rfl) dX1_tellStatement_184 ⟨Nat.zero_le _, Nat.zero_le _⟩) ?_
    refine lv_aload_n hx hb dX1_tellStatement_187 rfl (lv_at hl 0 rfl) ?_
    refine lv_iload_n hx hb dX1_tellStatement_188 rfl (lv_at hl 2 rfl) ?_
    refine lv_iconst (v := 2) hx hb dX1_tellStatement_189 jci_2 ?_
    refine lv_iadd hx hb dX1_tellStatement_190 ?_
    obtain ⟨r13, e13, h⟩ := jh_b h
    refine jr_kp (jr_rv (As := [.int (v2 + 2)]) (rest := [.int r12, .ref (jO X o1)]) S hK hP jb_13 rfl (m_X1_digit l X M (v2 + 2) r13 e13) jw_X1_digit ji_X1_digit jmX1_35 rfl rfl ⟨(Nat.le_of_ble_eq_true rfl), (Nat.le_of_ble_eq_true rfl)⟩ rfl hl.1 rfl (Nat.le_of_ble_eq_true rfl) dX1_tellStatement_191 ⟨Nat.zero_le _, Nat.zero_le _⟩) ?_
    obtain ⟨r14, M_14, e14, h⟩ := jh_b2 h
    refine jr_km (jr_rv (As := [.int r12, .int r13]) (rest := []) S hK hP hj1 rfl (m_X4_addDebt l X A hs M hj1 r12 r13 r14 M_14 e14) jw_X4_addDebt ji_X4_addDebt jmX1_58 rfl rfl ⟨(Nat.le_of_ble_eq_true rfl), (Nat.le_of_ble_eq_true rfl)⟩ rfl hl.1 rfl (Nat.le_of_ble_eq_true rfl) dX1_tellStatement_194 ⟨Nat.zero_le _, Nat.zero_le _⟩) hS (fun H locs hP hS => ?_)
    obtain ⟨gz, h⟩ := jh_gb h
    exact je_mz hx hb hr hlocks hK hP hS gz h dX1_tellStatement_197
  replace h := jh_f h c6_111
  by_cases c6_119 : (M 13 0 (Int32.toNatClampNeg v2)) = 119
  · replace h := jh_t h c6_119
    refine lv_tableIn (off := 116) (tgt := 122) hx hb dX1_tellStatement_6 (by rw [c6_119]; decide) (by rw [c6_119]; decide) (by rw [c6_119]; rfl) rfl ?_
    refine lv_aload_n hx hb dX1_tellStatement_122 rfl (lv_at hl 1 rfl) ?_
    refine lv_aload_n hx hb dX1_tellStatement_123 rfl (lv_at hl 0 rfl) ?_
    refine lv_iload_n hx hb dX1_tellStatement_124 rfl (lv_at hl 2 rfl) ?_
    refine lv_iconst (v := 1) hx hb dX1_tellStatement_125 jci_1 ?_
    refine lv_iadd hx hb dX1_tellStatement_126 ?_
    obtain ⟨r15, e15, h⟩ := jh_b h
    refine jr_kp (jr_rv (As := [.int (v2 + 1)]) (rest := [.ref (jO X o1)]) S hK hP jb_13 rfl (m_X1_pair l X M (v2 + 1) r15 e15) jw_X1_pair ji_X1_pair jmX1_38 rfl rfl ⟨(Nat.le_of_ble_eq_true rfl), (Nat.le_of_ble_eq_true rfl)⟩ rfl hl.1 rfl (Nat.le_of_ble_eq_true rfl) dX1_tellStatement_127 ⟨Nat.zero_le _, Nat.zero_le _⟩) ?_
    refine lv_aload_n hx hb dX1_tellStatement_130 rfl (lv_at hl 0 rfl) ?_
    refine lv_iload_n hx hb dX1_tellStatement_131 rfl (lv_at hl 2 rfl) ?_
    refine lv_iconst (v := 3) hx hb dX1_tellStatement_132 jci_3 ?_
    refine lv_iadd hx hb dX1_tellStatement_133 ?_
    obtain ⟨r16, e16, h⟩ := jh_b h
    refine jr_kp (jr_rv (As := [.int (v2 + 3)]) (rest := [.int r15, .ref (jO X o1)]) S hK hP jb_13 rfl (m_X1_pair l X M (v2 + 3) r16 e16) jw_X1_pair ji_X1_pair jmX1_38 rfl rfl ⟨(Nat.le_of_ble_eq_true rfl), (Nat.le_of_ble_eq_true rfl)⟩ rfl hl.1 rfl (Nat.le_of_ble_eq_true rfl) dX1_tellStatement_134 ⟨Nat.zero_le _, Nat.zero_le _⟩) ?_
    refine lv_aload_n hx hb dX1_tellStatement_137 rfl (lv_at hl 0 rfl) ?_
    refine lv_iload_n hx hb dX1_tellStatement_138 rfl (lv_at hl 2 rfl) ?_
    refine lv_iconst (v := 5) hx hb dX1_tellStatement_139 jci_5 ?_
    refine lv_iadd hx hb dX1_tellStatement_140 ?_
    obtain ⟨r17, e17, h⟩ := jh_b h
    refine jr_kp (jr_rv (As := [.int (v2 + 5)]) (rest := [.int r16, .int r15, .ref (jO X o1)]) S hK hP jb_13 rfl (m_X1_digit l X M (v2 + 5) r17 e17) jw_X1_digit ji_X1_digit jmX1_35 rfl rfl ⟨(Nat.le_of_ble_eq_true rfl), (Nat.le_of_ble_eq_true rfl)⟩ rfl hl.1 rfl (Nat.le_of_ble_eq_true rfl) dX1_tellStatement_141 ⟨Nat.zero_le _, Nat.zero_le _⟩) ?_
    obtain ⟨r18, M_18, e18, h⟩ := jh_b2 h
    refine jr_km (jr_rv (As := [.int r15, .int r16, .int r17]) (rest := []) S hK hP hj1 rfl (m_X4_addWalker l X A hs M hj1 r15 r16 r17 r18 M_18 e18) jw_X4_addWalker ji_X4_addWalker jmX1_47 rfl rfl ⟨(Nat.le_of_ble_eq_true rfl), (Nat.le_of_ble_eq_true rfl)⟩ rfl hl.1 rfl (Nat.le_of_ble_eq_true rfl) dX1_tellStatement_144 ⟨Nat.zero_le _, Nat.zero_le _⟩) hS (fun H locs hP hS => ?_)
    obtain ⟨gz, h⟩ := jh_gb h
    exact je_mz hx hb hr hlocks hK hP hS gz h dX1_tellStatement_147
  replace h := jh_f h c6_119
  refine jr_tdef (ks := [101, 103, 104, 108, 111, 119]) (tgt := 210) hx hb dX1_tellStatement_6 (jsw_cons (jsw_ne c6_101 rfl) (jsw_cons (jsw_ne c6_103 rfl) (jsw_cons (jsw_ne c6_104 rfl) (jsw_cons (jsw_ne c6_108 rfl) (jsw_cons (jsw_ne c6_111 rfl) (jsw_cons (jsw_ne c6_119 rfl) (jsw_nil))))))) (by decide) rfl ?_
  refine lv_iconst (v := 0) hx hb dX1_tellStatement_210 jci_0 ?_
  exact je_mz hx hb hr hlocks hK hP hS (Or.inl rfl) h dX1_tellStatement_211
def f_X1_tell_l25 (o1 : Nat) : Nat → jm → Int32 → Int32 → Int32 → Option (Int32 × jm)
  | 0, _, _, _, _ => none
  | k_2 + 1, M_2, v3_2, v4_2, v5_2 => (if (M_2 13 1 0) ≤ v5_2 then (some (v3_2, M_2)) else (jgd v5_2 96 (if (M_2 13 0 (Int32.toNatClampNeg v5_2)) = 59 then (jb2 (f_X1_tellStatement M_2 o1 v4_2) fun r3 M_3 => (if r3 = 0 then (some (((-2000) - v4_2), M_3)) else ((f_X1_tell_l25 o1 k_2) M_3 (v3_2 + 1) (v5_2 + 1) (v5_2 + 1)))) else ((f_X1_tell_l25 o1 k_2) M_2 v3_2 v4_2 (v5_2 + 1)))))
def f_X1_tell (M : jm) (o1 : Nat) : Option (Int32 × jm) := (jb (f_X1_firstMisspelt M) fun r1 => (if r1 = (-9) then (f_X1_tell_l25 o1 10000 M 0 0 0) else (some (((-1000) - r1), M))))
set_option maxRecDepth 100000 in
theorem m_X1_tell (l : Launch) (X : jX) (A : Nat → Prop) (hs : jst X A) (M : jm) {o1 : Nat} (hj1 : job o1 4) (r : Int32) (N : jm) (h : f_X1_tell M o1 = some (r, N)) : Met l yX1_tell (jws yX1_tell cX1_tell 6 (some .int)) (jrm 6 140) (va_Pc [.ref (jO X 13), .ref (jO X o1)] (jB X M)) (jQm X A (some (.int r)) N) 0 0 A := by
  refine jm_of (by decide) (Nat.le_of_ble_eq_true rfl) ?_
  intro p e s m args below meth c ls S hr hlocks hB hl
  have S : CallFix p m c cX1_tell 6 s args jtb RX1 := S
  obtain ⟨hx, hb, hml, hown, hts⟩ := id S
  obtain ⟨hP, hK⟩ := hB
  have hN := hK.2
  have hS : va_S A s.heap s.heap [] := va_S.rf
  have hl : lv_has ls 6 [(0, .ref (jO X 13)), (1, .ref (jO X o1))] := hl
  refine lv_aload_n hx hb dX1_tell_0 rfl (lv_at hl 0 rfl) ?_
  obtain ⟨r1, e1, h⟩ := jh_b h
  refine jr_kp (jr_rv (As := []) (rest := []) S hK hP jb_13 rfl (m_X1_firstMisspelt l X M  r1 e1) jw_X1_firstMisspelt ji_X1_firstMisspelt jmX1_23 rfl rfl ⟨(Nat.le_of_ble_eq_true rfl), (Nat.le_of_ble_eq_true rfl)⟩ rfl hl.1 rfl (Nat.le_of_ble_eq_true rfl) dX1_tell_1 ⟨Nat.zero_le _, Nat.zero_le _⟩) ?_
  refine lv_istore_n (lv' := [(2, .int r1), (0, .ref (jO X 13)), (1, .ref (jO X o1))]) hx hb dX1_tell_4 rfl hl (Nat.le_of_ble_eq_true rfl) rfl (fun ls hl => ?_)
  refine lv_iload_n hx hb dX1_tell_5 rfl (lv_at hl 0 rfl) ?_
  refine lv_bipush (v := (-9)) hx hb dX1_tell_6 jcb_m9 ?_
  refine lv_icmp_eq (tgt := 17) hx hb dX1_tell_8 rfl (fun c8 => ?_) (fun c8 => ?_)
  · replace h := jh_t h c8
    refine lv_iconst (v := 0) hx hb dX1_tell_17 jci_0 ?_
    refine lv_istore_n (lv' := [(3, .int 0), (2, .int r1), (0, .ref (jO X 13)), (1, .ref (jO X o1))]) hx hb dX1_tell_18 rfl hl (Nat.le_of_ble_eq_true rfl) rfl (fun ls hl => ?_)
    refine lv_iconst (v := 0) hx hb dX1_tell_19 jci_0 ?_
    refine lv_istore (lv' := [(4, .int 0), (3, .int 0), (2, .int r1), (0, .ref (jO X 13)), (1, .ref (jO X o1))]) hx hb dX1_tell_20 hl (Nat.le_of_ble_eq_true rfl) rfl (fun ls hl => ?_)
    refine lv_iconst (v := 0) hx hb dX1_tell_22 jci_0 ?_
    refine lv_istore (lv' := [(5, .int 0), (4, .int 0), (3, .int 0), (2, .int r1), (0, .ref (jO X 13)), (1, .ref (jO X o1))]) hx hb dX1_tell_23 hl (Nat.le_of_ble_eq_true rfl) rfl (fun ls hl => ?_)
    have L25 : ∀ (k_2 : Nat) (M_2 : jm) (H : Heap) (locs : List Loc) (v3_2 : Int32) (v4_2 : Int32) (v5_2 : Int32) (ls : Array Slot), f_X1_tell_l25 o1 k_2 M_2 v3_2 v4_2 v5_2 = some (r, N) → jrp X M_2 H → va_S A s.heap H locs → lv_has ls 6 [(0, .ref (jO X 13)), (1, .ref (jO X o1)), (3, .int v3_2), (4, .int v4_2), (5, .int v5_2)] → W p l e (jrm 6 140) s m args below meth c H locs 0 0 (MQ below (jQm X A (some (.int r)) N) args s 0 0 A) (F0 m 25 ls []) := by
      intro k_2
      induction k_2 with
      | zero => intro M_2 H locs v3_2 v4_2 v5_2 ls h; exact jh_0 h
      | succ k_2 ih25 =>
        intro M_2 H locs v3_2 v4_2 v5_2 ls h hP hS hl
        refine lv_iload hx hb dX1_tell_25 (lv_at hl 4 rfl) ?_
        refine lv_aload_n hx hb dX1_tell_27 rfl (lv_at hl 0 rfl) ?_
        refine jr_get (k := 1) hx hb hts hown hK hP jb_13 (Nat.le_of_ble_eq_true rfl) jlX1_15 rfl dX1_tell_28 ?_
        refine lv_icmp_ge (tgt := 81) hx hb dX1_tell_31 rfl (fun c31 => ?_) (fun c31 => ?_)
        · replace h := jh_t h c31
          refine lv_iload_n hx hb dX1_tell_81 rfl (lv_at hl 2 rfl) ?_
          exact je_mi hx hb hr hlocks hK hP hS h dX1_tell_82
        · replace h := jh_f h c31
          refine lv_aload_n hx hb dX1_tell_34 rfl (lv_at hl 0 rfl) ?_
          refine jr_get (k := 0) hx hb hts hown hK hP jb_13 (Nat.le_of_ble_eq_true rfl) jlX1_9 rfl dX1_tell_35 ?_
          refine lv_iload hx hb dX1_tell_38 (lv_at hl 4 rfl) ?_
          obtain ⟨g40, h⟩ := jh_gd h
          refine jr_ald (n := 96) hx hb hK hP jb_13 rfl g40 dX1_tell_40 ?_
          refine lv_bipush (v := 59) hx hb dX1_tell_41 jcb_59 ?_
          refine lv_icmp_eq (tgt := 49) hx hb dX1_tell_43 rfl (fun c43 => ?_) (fun c43 => ?_)
          · replace h := jh_t h c43
            refine lv_aload_n hx hb dX1_tell_49 rfl (lv_at hl 0 rfl) ?_
            refine lv_aload_n hx hb dX1_tell_50 rfl (lv_at hl 1 rfl) ?_
            refine lv_iload hx hb dX1_tell_51 (lv_at hl 3 rfl) ?_
            obtain ⟨r3, M_3, e3, h⟩ := jh_b2 h
            refine jr_km (jr_rv (As := [.ref (jO X o1), .int v4_2]) (rest := []) S hK hP jb_13 rfl (m_X1_tellStatement l X A hs M_2 hj1 v4_2 r3 M_3 e3) jw_X1_tellStatement ji_X1_tellStatement jmX1_27 rfl rfl ⟨(Nat.le_of_ble_eq_true rfl), (Nat.le_of_ble_eq_true rfl)⟩ rfl hl.1 rfl (Nat.le_of_ble_eq_true rfl) dX1_tell_53 ⟨Nat.zero_le _, Nat.zero_le _⟩) hS (fun H locs hP hS => ?_)
            refine lv_if_ne (tgt := 66) hx hb dX1_tell_56 rfl (fun c56 => ?_) (fun c56 => ?_)
            · replace h := jh_f h c56
              refine lv_iinc (v := (v3_2 + 1)) (lv' := [(3, .int (v3_2 + 1)), (0, .ref (jO X 13)), (1, .ref (jO X o1)), (4, .int v4_2), (5, .int v5_2)]) hx hb dX1_tell_66 hl (k := 2) rfl (congrArg _ jci_1) (Nat.le_of_ble_eq_true rfl) rfl (fun ls hl => ?_)
              refine lv_iload hx hb dX1_tell_69 (lv_at hl 4 rfl) ?_
              refine lv_iconst (v := 1) hx hb dX1_tell_71 jci_1 ?_
              refine lv_iadd hx hb dX1_tell_72 ?_
              refine lv_istore (lv' := [(4, .int (v5_2 + 1)), (3, .int (v3_2 + 1)), (0, .ref (jO X 13)), (1, .ref (jO X o1)), (5, .int v5_2)]) hx hb dX1_tell_73 hl (Nat.le_of_ble_eq_true rfl) rfl (fun ls hl => ?_)
              refine lv_iinc (v := (v5_2 + 1)) (lv' := [(5, .int (v5_2 + 1)), (4, .int (v5_2 + 1)), (3, .int (v3_2 + 1)), (0, .ref (jO X 13)), (1, .ref (jO X o1))]) hx hb dX1_tell_75 hl (k := 4) rfl (congrArg _ jci_1) (Nat.le_of_ble_eq_true rfl) rfl (fun ls hl => ?_)
              refine lv_goto (tgt := 25) hx hb dX1_tell_78 rfl ?_
              exact ih25 M_3 _ _ (v3_2 + 1) (v5_2 + 1) (v5_2 + 1) _ h hP hS (lv_sub hl [3, 4, 2, 1, 0] rfl)
            · replace h := jh_t h c56
              refine lv_sipush (v := (-2000)) hx hb dX1_tell_59 jcs_m2000 ?_
              refine lv_iload hx hb dX1_tell_62 (lv_at hl 3 rfl) ?_
              refine lv_isub hx hb dX1_tell_64 ?_
              exact je_mi hx hb hr hlocks hK hP hS h dX1_tell_65
          · replace h := jh_f h c43
            refine lv_goto (tgt := 75) hx hb dX1_tell_46 rfl ?_
            refine lv_iinc (v := (v5_2 + 1)) (lv' := [(5, .int (v5_2 + 1)), (0, .ref (jO X 13)), (1, .ref (jO X o1)), (3, .int v3_2), (4, .int v4_2)]) hx hb dX1_tell_75 hl (k := 4) rfl (congrArg _ jci_1) (Nat.le_of_ble_eq_true rfl) rfl (fun ls hl => ?_)
            refine lv_goto (tgt := 25) hx hb dX1_tell_78 rfl ?_
            exact ih25 M_2 _ _ v3_2 v4_2 (v5_2 + 1) _ h hP hS (lv_sub hl [1, 2, 3, 4, 0] rfl)
    exact L25 10000 M _ _ 0 0 0 _ h hP hS (lv_sub hl [4, 5, 2, 1, 0] rfl)
  · replace h := jh_f h c8
    refine lv_sipush (v := (-1000)) hx hb dX1_tell_11 jcs_m1000 ?_
    refine lv_iload_n hx hb dX1_tell_14 rfl (lv_at hl 0 rfl) ?_
    refine lv_isub hx hb dX1_tell_15 ?_
    exact je_mi hx hb hr hlocks hK hP hS h dX1_tell_16
def f_X2_stepsBy (M : jm) (o1 : Nat) (v2 : Int32) (v3 : Int32) (v4 : Int32) : Option Int32 := (jgd v4 8 (jgd (((v3 &&& (((1 : Int32) <<< (v4 &&& 31)) ^^^ (-1))) * 7) + v4) 896 (some ((f_X5_steps v2 (M o1 3 (Int32.toNatClampNeg v4))) + (M 15 0 (Int32.toNatClampNeg (((v3 &&& (((1 : Int32) <<< (v4 &&& 31)) ^^^ (-1))) * 7) + v4)))))))
set_option maxRecDepth 100000 in
theorem m_X2_stepsBy (l : Launch) (X : jX) (M : jm) {o1 : Nat} (hj1 : job o1 4) (v2 : Int32) (v3 : Int32) (v4 : Int32) (r : Int32) (h : f_X2_stepsBy M o1 v2 v3 v4 = some r) : Met l yX2_stepsBy (jws yX2_stepsBy cX2_stepsBy 5 (some .int)) (jrm 2 42) (va_Pc [.ref (jO X 15), .ref (jO X o1), .int v2, .int v3, .int v4] (jB X M)) (jQ (.int r)) 0 0 (fun _ => False) := by
  refine jm_of (by decide) (Nat.le_of_ble_eq_true rfl) ?_
  intro p e s m args below meth c ls S hr hlocks hB hl
  have S : CallFix p m c cX2_stepsBy 5 s args jtb RX2 := S
  obtain ⟨hx, hb, hml, hown, hts⟩ := id S
  obtain ⟨hP, hK⟩ := hB
  have hN := hK.2
  have hl : lv_has ls 5 [(0, .ref (jO X 15)), (1, .ref (jO X o1)), (2, .int v2), (3, .int v3), (4, .int v4)] := hl
  refine lv_iload_n hx hb dX2_stepsBy_0 rfl (lv_at hl 2 rfl) ?_
  refine lv_aload_n hx hb dX2_stepsBy_1 rfl (lv_at hl 1 rfl) ?_
  refine jr_get (k := 3) hx hb hts hown hK hP hj1 (Nat.le_of_ble_eq_true rfl) jlX2_28 rfl dX2_stepsBy_2 ?_
  refine lv_iload hx hb dX2_stepsBy_5 (lv_at hl 4 rfl) ?_
  obtain ⟨g7, h⟩ := jh_gd h
  refine jr_ald (n := 8) hx hb hK hP hj1 rfl g7 dX2_stepsBy_7 ?_
  refine jr_kp (jr_rn (As := [.int v2, .int (M o1 3 (Int32.toNatClampNeg v4))]) (rest := []) S hN (m_X5_steps l v2 (M o1 3 (Int32.toNatClampNeg v4)) _ rfl) jw_X5_steps js_X5_steps (List.mem_of_getElem? (i := 9) rfl) rfl rfl ⟨(Nat.le_of_ble_eq_true rfl), (Nat.le_of_ble_eq_true rfl)⟩ rfl hl.1 rfl (Nat.le_of_ble_eq_true rfl) dX2_stepsBy_8 ⟨Nat.zero_le _, Nat.zero_le _⟩) ?_
  refine lv_aload_n hx hb dX2_stepsBy_11 rfl (lv_at hl 0 rfl) ?_
  refine jr_get (k := 0) hx hb hts hown hK hP jb_15 (Nat.le_of_ble_eq_true rfl) jlX2_9 rfl dX2_stepsBy_12 ?_
  refine lv_iload_n hx hb dX2_stepsBy_15 rfl (lv_at hl 3 rfl) ?_
  refine lv_iconst (v := 1) hx hb dX2_stepsBy_16 jci_1 ?_
  refine lv_iload hx hb dX2_stepsBy_17 (lv_at hl 4 rfl) ?_
  refine lv_ishl hx hb dX2_stepsBy_19 ?_
  refine lv_iconst (v := (-1)) hx hb dX2_stepsBy_20 jci_m1 ?_
  refine lv_ixor hx hb dX2_stepsBy_21 ?_
  refine lv_iand hx hb dX2_stepsBy_22 ?_
  refine lv_bipush (v := 7) hx hb dX2_stepsBy_23 jcb_7 ?_
  refine lv_imul hx hb dX2_stepsBy_25 ?_
  refine lv_iload hx hb dX2_stepsBy_26 (lv_at hl 4 rfl) ?_
  refine lv_iadd hx hb dX2_stepsBy_28 ?_
  obtain ⟨g29, h⟩ := jh_gd h
  refine jr_ald (n := 896) hx hb hK hP jb_15 rfl g29 dX2_stepsBy_29 ?_
  refine lv_iadd hx hb dX2_stepsBy_30 ?_
  exact je_i hx hb hr hlocks (Option.some.inj h) dX2_stepsBy_31
def f_X2_nextDoor_l10 (M : jm) (o1 : Nat) (v2_1 : Int32) (v3_1 : Int32) : Nat → Int32 → Int32 → Int32 → Option Int32
  | 0, _, _, _ => none
  | k_1 + 1, v4_1, v5_1, v6_1 => (if (M o1 0 0) ≤ v6_1 then (some v4_1) else (if ((v3_1 >>> (v6_1 &&& 31)) &&& 1) = 0 then ((f_X2_nextDoor_l10 M o1 v2_1 v3_1 k_1) v4_1 v5_1 (v6_1 + 1)) else (jb (f_X2_stepsBy M o1 v2_1 v3_1 v6_1) fun r2 => (if v4_1 = (-9) then ((f_X2_nextDoor_l10 M o1 v2_1 v3_1 k_1) v6_1 r2 (v6_1 + 1)) else (if v5_1 ≤ r2 then ((f_X2_nextDoor_l10 M o1 v2_1 v3_1 k_1) v4_1 v5_1 (v6_1 + 1)) else ((f_X2_nextDoor_l10 M o1 v2_1 v3_1 k_1) v6_1 r2 (v6_1 + 1)))))))
def f_X2_nextDoor (M : jm) (o1 : Nat) (v2 : Int32) (v3 : Int32) : Option Int32 := (f_X2_nextDoor_l10 M o1 v2 v3 10000 (-9) 0 0)
set_option maxRecDepth 100000 in
theorem m_X2_nextDoor (l : Launch) (X : jX) (M : jm) {o1 : Nat} (hj1 : job o1 4) (v2 : Int32) (v3 : Int32) (r : Int32) (h : f_X2_nextDoor M o1 v2 v3 = some r) : Met l yX2_nextDoor (jws yX2_nextDoor cX2_nextDoor 8 (some .int)) (jrm 3 66) (va_Pc [.ref (jO X 15), .ref (jO X o1), .int v2, .int v3] (jB X M)) (jQ (.int r)) 0 0 (fun _ => False) := by
  refine jm_of (by decide) (Nat.le_of_ble_eq_true rfl) ?_
  intro p e s m args below meth c ls S hr hlocks hB hl
  have S : CallFix p m c cX2_nextDoor 8 s args jtb RX2 := S
  obtain ⟨hx, hb, hml, hown, hts⟩ := id S
  obtain ⟨hP, hK⟩ := hB
  have hN := hK.2
  have hl : lv_has ls 8 [(0, .ref (jO X 15)), (1, .ref (jO X o1)), (2, .int v2), (3, .int v3)] := hl
  refine lv_bipush (v := (-9)) hx hb dX2_nextDoor_0 jcb_m9 ?_
  refine lv_istore (lv' := [(4, .int (-9)), (0, .ref (jO X 15)), (1, .ref (jO X o1)), (2, .int v2), (3, .int v3)]) hx hb dX2_nextDoor_2 hl (Nat.le_of_ble_eq_true rfl) rfl (fun ls hl => ?_)
  refine lv_iconst (v := 0) hx hb dX2_nextDoor_4 jci_0 ?_
  refine lv_istore (lv' := [(5, .int 0), (4, .int (-9)), (0, .ref (jO X 15)), (1, .ref (jO X o1)), (2, .int v2), (3, .int v3)]) hx hb dX2_nextDoor_5 hl (Nat.le_of_ble_eq_true rfl) rfl (fun ls hl => ?_)
  refine lv_iconst (v := 0) hx hb dX2_nextDoor_7 jci_0 ?_
  refine lv_istore (lv' := [(6, .int 0), (5, .int 0), (4, .int (-9)), (0, .ref (jO X 15)), (1, .ref (jO X o1)), (2, .int v2), (3, .int v3)]) hx hb dX2_nextDoor_8 hl (Nat.le_of_ble_eq_true rfl) rfl (fun ls hl => ?_)
  have L10 : ∀ (v2_1 : Int32) (v3_1 : Int32) (k_1 : Nat) (v4_1 : Int32) (v5_1 : Int32) (v6_1 : Int32) (ls : Array Slot), f_X2_nextDoor_l10 M o1 v2_1 v3_1 k_1 v4_1 v5_1 v6_1 = some r → lv_has ls 8 [(0, .ref (jO X 15)), (1, .ref (jO X o1)), (2, .int v2_1), (3, .int v3_1), (4, .int v4_1), (5, .int v5_1), (6, .int v6_1)] → W p l e (jrm 3 66) s m args below meth c s.heap [] 0 0 (MQ below (jQ (.int r)) args s 0 0 (fun _ => False)) (F0 m 10 ls []) := by
    intro v2_1 v3_1 k_1
    induction k_1 with
    | zero => intro v4_1 v5_1 v6_1 ls h; exact jh_0 h
    | succ k_1 ih10 =>
      intro v4_1 v5_1 v6_1 ls h hl
      refine lv_iload hx hb dX2_nextDoor_10 (lv_at hl 6 rfl) ?_
      refine lv_aload_n hx hb dX2_nextDoor_12 rfl (lv_at hl 1 rfl) ?_
      refine jr_get (k := 0) hx hb hts hown hK hP hj1 (Nat.le_of_ble_eq_true rfl) jlX2_25 rfl dX2_nextDoor_13 ?_
      refine lv_icmp_ge (tgt := 70) hx hb dX2_nextDoor_16 rfl (fun c16 => ?_) (fun c16 => ?_)
      · replace h := jh_t h c16
        refine lv_iload hx hb dX2_nextDoor_70 (lv_at hl 4 rfl) ?_
        exact je_i hx hb hr hlocks (Option.some.inj h) dX2_nextDoor_72
      · replace h := jh_f h c16
        refine lv_iload_n hx hb dX2_nextDoor_19 rfl (lv_at hl 3 rfl) ?_
        refine lv_iload hx hb dX2_nextDoor_20 (lv_at hl 6 rfl) ?_
        refine lv_ishr hx hb dX2_nextDoor_22 ?_
        refine lv_iconst (v := 1) hx hb dX2_nextDoor_23 jci_1 ?_
        refine lv_iand hx hb dX2_nextDoor_24 ?_
        refine lv_if_ne (tgt := 31) hx hb dX2_nextDoor_25 rfl (fun c25 => ?_) (fun c25 => ?_)
        · replace h := jh_f h c25
          refine lv_aload_n hx hb dX2_nextDoor_31 rfl (lv_at hl 0 rfl) ?_
          refine lv_aload_n hx hb dX2_nextDoor_32 rfl (lv_at hl 1 rfl) ?_
          refine lv_iload_n hx hb dX2_nextDoor_33 rfl (lv_at hl 2 rfl) ?_
          refine lv_iload_n hx hb dX2_nextDoor_34 rfl (lv_at hl 3 rfl) ?_
          refine lv_iload hx hb dX2_nextDoor_35 (lv_at hl 6 rfl) ?_
          obtain ⟨r2, e2, h⟩ := jh_b h
          refine jr_kp (jr_rv (As := [.ref (jO X o1), .int v2_1, .int v3_1, .int v6_1]) (rest := []) S hK hP jb_15 rfl (m_X2_stepsBy l X M hj1 v2_1 v3_1 v6_1 r2 e2) jw_X2_stepsBy ji_X2_stepsBy jmX2_38 rfl rfl ⟨(Nat.le_of_ble_eq_true rfl), (Nat.le_of_ble_eq_true rfl)⟩ rfl hl.1 rfl (Nat.le_of_ble_eq_true rfl) dX2_nextDoor_37 ⟨Nat.zero_le _, Nat.zero_le _⟩) ?_
          refine lv_istore (lv' := [(7, .int r2), (0, .ref (jO X 15)), (1, .ref (jO X o1)), (2, .int v2_1), (3, .int v3_1), (4, .int v4_1), (5, .int v5_1), (6, .int v6_1)]) hx hb dX2_nextDoor_40 hl (Nat.le_of_ble_eq_true rfl) rfl (fun ls hl => ?_)
          refine lv_iload hx hb dX2_nextDoor_42 (lv_at hl 5 rfl) ?_
          refine lv_bipush (v := (-9)) hx hb dX2_nextDoor_44 jcb_m9 ?_
          refine lv_icmp_eq (tgt := 56) hx hb dX2_nextDoor_46 rfl (fun c46 => ?_) (fun c46 => ?_)
          · replace h := jh_t h c46
            refine lv_iload hx hb dX2_nextDoor_56 (lv_at hl 0 rfl) ?_
            refine lv_istore (lv' := [(5, .int r2), (7, .int r2), (0, .ref (jO X 15)), (1, .ref (jO X o1)), (2, .int v2_1), (3, .int v3_1), (4, .int v4_1), (6, .int v6_1)]) hx hb dX2_nextDoor_58 hl (Nat.le_of_ble_eq_true rfl) rfl (fun ls hl => ?_)
            refine lv_iload hx hb dX2_nextDoor_60 (lv_at hl 7 rfl) ?_
            refine lv_istore (lv' := [(4, .int v6_1), (5, .int r2), (7, .int r2), (0, .ref (jO X 15)), (1, .ref (jO X o1)), (2, .int v2_1), (3, .int v3_1), (6, .int v6_1)]) hx hb dX2_nextDoor_62 hl (Nat.le_of_ble_eq_true rfl) rfl (fun ls hl => ?_)
            refine lv_iinc (v := (v6_1 + 1)) (lv' := [(6, .int (v6_1 + 1)), (4, .int v6_1), (5, .int r2), (7, .int r2), (0, .ref (jO X 15)), (1, .ref (jO X o1)), (2, .int v2_1), (3, .int v3_1)]) hx hb dX2_nextDoor_64 hl (k := 7) rfl (congrArg _ jci_1) (Nat.le_of_ble_eq_true rfl) rfl (fun ls hl => ?_)
            refine lv_goto (tgt := 10) hx hb dX2_nextDoor_67 rfl ?_
            exact ih10 v6_1 r2 (v6_1 + 1) _ h (lv_sub hl [4, 5, 6, 7, 1, 2, 0] rfl)
          · replace h := jh_f h c46
            refine lv_iload hx hb dX2_nextDoor_49 (lv_at hl 0 rfl) ?_
            refine lv_iload hx hb dX2_nextDoor_51 (lv_at hl 6 rfl) ?_
            refine lv_icmp_ge (tgt := 64) hx hb dX2_nextDoor_53 rfl (fun c53 => ?_) (fun c53 => ?_)
            · replace h := jh_t h c53
              refine lv_iinc (v := (v6_1 + 1)) (lv' := [(6, .int (v6_1 + 1)), (7, .int r2), (0, .ref (jO X 15)), (1, .ref (jO X o1)), (2, .int v2_1), (3, .int v3_1), (4, .int v4_1), (5, .int v5_1)]) hx hb dX2_nextDoor_64 hl (k := 7) rfl (congrArg _ jci_1) (Nat.le_of_ble_eq_true rfl) rfl (fun ls hl => ?_)
              refine lv_goto (tgt := 10) hx hb dX2_nextDoor_67 rfl ?_
              exact ih10 v4_1 v5_1 (v6_1 + 1) _ h (lv_sub hl [2, 3, 4, 5, 6, 7, 0] rfl)
            · replace h := jh_f h c53
              refine lv_iload hx hb dX2_nextDoor_56 (lv_at hl 0 rfl) ?_
              refine lv_istore (lv' := [(5, .int r2), (7, .int r2), (0, .ref (jO X 15)), (1, .ref (jO X o1)), (2, .int v2_1), (3, .int v3_1), (4, .int v4_1), (6, .int v6_1)]) hx hb dX2_nextDoor_58 hl (Nat.le_of_ble_eq_true rfl) rfl (fun ls hl => ?_)
              refine lv_iload hx hb dX2_nextDoor_60 (lv_at hl 7 rfl) ?_
              refine lv_istore (lv' := [(4, .int v6_1), (5, .int r2), (7, .int r2), (0, .ref (jO X 15)), (1, .ref (jO X o1)), (2, .int v2_1), (3, .int v3_1), (6, .int v6_1)]) hx hb dX2_nextDoor_62 hl (Nat.le_of_ble_eq_true rfl) rfl (fun ls hl => ?_)
              refine lv_iinc (v := (v6_1 + 1)) (lv' := [(6, .int (v6_1 + 1)), (4, .int v6_1), (5, .int r2), (7, .int r2), (0, .ref (jO X 15)), (1, .ref (jO X o1)), (2, .int v2_1), (3, .int v3_1)]) hx hb dX2_nextDoor_64 hl (k := 7) rfl (congrArg _ jci_1) (Nat.le_of_ble_eq_true rfl) rfl (fun ls hl => ?_)
              refine lv_goto (tgt := 10) hx hb dX2_nextDoor_67 rfl ?_
              exact ih10 v6_1 r2 (v6_1 + 1) _ h (lv_sub hl [4, 5, 6, 7, 1, 2, 0] rfl)
        · replace h := jh_t h c25
          refine lv_goto (tgt := 64) hx hb dX2_nextDoor_28 rfl ?_
          refine lv_iinc (v := (v6_1 + 1)) (lv' := [(6, .int (v6_1 + 1)), (0, .ref (jO X 15)), (1, .ref (jO X o1)), (2, .int v2_1), (3, .int v3_1), (4, .int v4_1), (5, .int v5_1)]) hx hb dX2_nextDoor_64 hl (k := 6) rfl (congrArg _ jci_1) (Nat.le_of_ble_eq_true rfl) rfl (fun ls hl => ?_)
          refine lv_goto (tgt := 10) hx hb dX2_nextDoor_67 rfl ?_
          exact ih10 v4_1 v5_1 (v6_1 + 1) _ h (lv_sub hl [1, 2, 3, 4, 5, 6, 0] rfl)
  exact L10 v2 v3 10000 (-9) 0 0 _ h (lv_sub hl [3, 4, 5, 6, 2, 1, 0] rfl)
def f_X2_fewest (M : jm) (o1 : Nat) (v2 : Int32) (v3 : Int32) : Option Int32 := (jb (f_X2_nextDoor M o1 v2 v3) fun r1 => (if r1 = (-9) then (some 0) else (jb (f_X2_stepsBy M o1 v2 v3 r1) fun r2 => (some r2))))
set_option maxRecDepth 100000 in
theorem m_X2_fewest (l : Launch) (X : jX) (M : jm) {o1 : Nat} (hj1 : job o1 4) (v2 : Int32) (v3 : Int32) (r : Int32) (h : f_X2_fewest M o1 v2 v3 = some r) : Met l yX2_fewest (jws yX2_fewest cX2_fewest 5 (some .int)) (jrm 4 93) (va_Pc [.ref (jO X 15), .ref (jO X o1), .int v2, .int v3] (jB X M)) (jQ (.int r)) 0 0 (fun _ => False) := by
  refine jm_of (by decide) (Nat.le_of_ble_eq_true rfl) ?_
  intro p e s m args below meth c ls S hr hlocks hB hl
  have S : CallFix p m c cX2_fewest 5 s args jtb RX2 := S
  obtain ⟨hx, hb, hml, hown, hts⟩ := id S
  obtain ⟨hP, hK⟩ := hB
  have hN := hK.2
  have hl : lv_has ls 5 [(0, .ref (jO X 15)), (1, .ref (jO X o1)), (2, .int v2), (3, .int v3)] := hl
  refine lv_aload_n hx hb dX2_fewest_0 rfl (lv_at hl 0 rfl) ?_
  refine lv_aload_n hx hb dX2_fewest_1 rfl (lv_at hl 1 rfl) ?_
  refine lv_iload_n hx hb dX2_fewest_2 rfl (lv_at hl 2 rfl) ?_
  refine lv_iload_n hx hb dX2_fewest_3 rfl (lv_at hl 3 rfl) ?_
  obtain ⟨r1, e1, h⟩ := jh_b h
  refine jr_kp (jr_rv (As := [.ref (jO X o1), .int v2, .int v3]) (rest := []) S hK hP jb_15 rfl (m_X2_nextDoor l X M hj1 v2 v3 r1 e1) jw_X2_nextDoor ji_X2_nextDoor jmX2_35 rfl rfl ⟨(Nat.le_of_ble_eq_true rfl), (Nat.le_of_ble_eq_true rfl)⟩ rfl hl.1 rfl (Nat.le_of_ble_eq_true rfl) dX2_fewest_4 ⟨Nat.zero_le _, Nat.zero_le _⟩) ?_
  refine lv_istore (lv' := [(4, .int r1), (0, .ref (jO X 15)), (1, .ref (jO X o1)), (2, .int v2), (3, .int v3)]) hx hb dX2_fewest_7 hl (Nat.le_of_ble_eq_true rfl) rfl (fun ls hl => ?_)
  refine lv_iload hx hb dX2_fewest_9 (lv_at hl 0 rfl) ?_
  refine lv_bipush (v := (-9)) hx hb dX2_fewest_11 jcb_m9 ?_
  refine lv_icmp_ne (tgt := 20) hx hb dX2_fewest_13 rfl (fun c13 => ?_) (fun c13 => ?_)
  · replace h := jh_f h c13
    refine lv_aload_n hx hb dX2_fewest_20 rfl (lv_at hl 1 rfl) ?_
    refine lv_aload_n hx hb dX2_fewest_21 rfl (lv_at hl 2 rfl) ?_
    refine lv_iload_n hx hb dX2_fewest_22 rfl (lv_at hl 3 rfl) ?_
    refine lv_iload_n hx hb dX2_fewest_23 rfl (lv_at hl 4 rfl) ?_
    refine lv_iload hx hb dX2_fewest_24 (lv_at hl 0 rfl) ?_
    obtain ⟨r2, e2, h⟩ := jh_b h
    refine jr_kp (jr_rv (As := [.ref (jO X o1), .int v2, .int v3, .int r1]) (rest := []) S hK hP jb_15 rfl (m_X2_stepsBy l X M hj1 v2 v3 r1 r2 e2) jw_X2_stepsBy ji_X2_stepsBy jmX2_38 rfl rfl ⟨(Nat.le_of_ble_eq_true rfl), (Nat.le_of_ble_eq_true rfl)⟩ rfl hl.1 rfl (Nat.le_of_ble_eq_true rfl) dX2_fewest_26 ⟨Nat.zero_le _, Nat.zero_le _⟩) ?_
    exact je_i hx hb hr hlocks (Option.some.inj h) dX2_fewest_29
  · replace h := jh_t h c13
    refine lv_iconst (v := 0) hx hb dX2_fewest_16 jci_0 ?_
    refine lv_goto (tgt := 29) hx hb dX2_fewest_17 rfl ?_
    exact je_i hx hb hr hlocks (Option.some.inj h) dX2_fewest_29
def f_X2_plan_l37 (o1 : Nat) (K12_3 : jm → Int32 → Option jm) (v3_3 : Int32) : Nat → jm → Int32 → Option jm
  | 0, _, _ => none
  | k_3 + 1, M_3, v4_3 => (if (M_3 o1 0 0) ≤ v4_3 then (K12_3 M_3 (v3_3 + 1)) else (jgd v4_3 8 (jb (f_X2_fewest M_3 o1 (M_3 o1 3 (Int32.toNatClampNeg v4_3)) v3_3) fun r4 => (jgd ((v3_3 * 7) + v4_3) 896 ((f_X2_plan_l37 o1 K12_3 v3_3 k_3) (ju M_3 15 0 (Int32.toNatClampNeg ((v3_3 * 7) + v4_3)) r4) (v4_3 + 1))))))
def f_X2_plan_l12 (o1 : Nat) : Nat → jm → Int32 → Option jm
  | 0, _, _ => none
  | k_2 + 1, M_2, v3_2 => (if (M_2 15 1 0) < v3_2 then (some M_2) else (if (v3_2 &&& ((M_2 15 1 0) ^^^ (-1))) = 0 then (f_X2_plan_l37 o1 (f_X2_plan_l12 o1 k_2) v3_2 10000 M_2 0) else ((f_X2_plan_l12 o1 k_2) M_2 (v3_2 + 1))))
def f_X2_plan (M : jm) (o1 : Nat) (v2 : Int32) : Option jm := (jb (f_X4_owesBehind M o1 v2 0) fun r1 => (f_X2_plan_l12 o1 10000 (ju M 15 1 0 r1) 0))
set_option maxRecDepth 100000 in
theorem m_X2_plan (l : Launch) (X : jX) (A : Nat → Prop) (hs : jst X A) (M : jm) {o1 : Nat} (hj1 : job o1 4) (v2 : Int32) (N : jm) (h : f_X2_plan M o1 v2 = some N) : Met l yX2_plan (jws yX2_plan cX2_plan 5 none) (jrm 5 119) (va_Pc [.ref (jO X 15), .ref (jO X o1), .int v2] (jB X M)) (jQm X A none N) 0 0 A := by
  refine jm_of (by decide) (Nat.le_of_ble_eq_true rfl) ?_
  intro p e s m args below meth c ls S hr hlocks hB hl
  have S : CallFix p m c cX2_plan 5 s args jtb RX2 := S
  obtain ⟨hx, hb, hml, hown, hts⟩ := id S
  obtain ⟨hP, hK⟩ := hB
  have hN := hK.2
  have hS : va_S A s.heap s.heap [] := va_S.rf
  have hl : lv_has ls 5 [(0, .ref (jO X 15)), (1, .ref (jO X o1)), (2, .int v2)] := hl
  refine lv_aload_n hx hb dX2_plan_0 rfl (lv_at hl 0 rfl) ?_
  refine lv_aload_n hx hb dX2_plan_1 rfl (lv_at hl 1 rfl) ?_
  refine lv_iload_n hx hb dX2_plan_2 rfl (lv_at hl 2 rfl) ?_
  refine lv_iconst (v := 0) hx hb dX2_plan_3 jci_0 ?_
  obtain ⟨r1, e1, h⟩ := jh_b h
  refine jr_kp (jr_rv (As := [.int v2, .int 0]) (rest := [.ref (jO X 15)]) S hK hP hj1 rfl (m_X4_owesBehind l X M hj1 v2 0 r1 e1) jw_X4_owesBehind ji_X4_owesBehind jmX2_15 rfl rfl ⟨(Nat.le_of_ble_eq_true rfl), (Nat.le_of_ble_eq_true rfl)⟩ rfl hl.1 rfl (Nat.le_of_ble_eq_true rfl) dX2_plan_4 ⟨Nat.zero_le _, Nat.zero_le _⟩) ?_
  refine jr_put (k := 1) (z := r1) hx hb hts hown hK hP hs hS jb_15 (Nat.le_of_ble_eq_true rfl) jlX2_21 rfl (Or.inl rfl) rfl rfl rfl dX2_plan_7 (fun H locs hP hS => ?_)
  refine lv_iconst (v := 0) hx hb dX2_plan_10 jci_0 ?_
  refine lv_istore_n (lv' := [(3, .int 0), (0, .ref (jO X 15)), (1, .ref (jO X o1)), (2, .int v2)]) hx hb dX2_plan_11 rfl hl (Nat.le_of_ble_eq_true rfl) rfl (fun ls hl => ?_)
  have L12 : ∀ (k_2 : Nat) (M_2 : jm) (H : Heap) (locs : List Loc) (v3_2 : Int32) (ls : Array Slot), f_X2_plan_l12 o1 k_2 M_2 v3_2 = some N → jrp X M_2 H → va_S A s.heap H locs → lv_has ls 5 [(0, .ref (jO X 15)), (1, .ref (jO X o1)), (3, .int v3_2)] → W p l e (jrm 5 119) s m args below meth c H locs 0 0 (MQ below (jQm X A none N) args s 0 0 A) (F0 m 12 ls []) := by
    intro k_2
    induction k_2 with
    | zero => intro M_2 H locs v3_2 ls h; exact jh_0 h
    | succ k_2 ih12 =>
      intro M_2 H locs v3_2 ls h hP hS hl
      refine lv_iload_n hx hb dX2_plan_12 rfl (lv_at hl 2 rfl) ?_
      refine lv_aload_n hx hb dX2_plan_13 rfl (lv_at hl 0 rfl) ?_
      refine jr_get (k := 1) hx hb hts hown hK hP jb_15 (Nat.le_of_ble_eq_true rfl) jlX2_21 rfl dX2_plan_14 ?_
      refine lv_icmp_gt (tgt := 83) hx hb dX2_plan_17 rfl (fun c17 => ?_) (fun c17 => ?_)
      · replace h := jh_t h c17
        exact je_mv hx hb hr hlocks hK hP hS h dX2_plan_83
      · replace h := jh_f h c17
        refine lv_iload_n hx hb dX2_plan_20 rfl (lv_at hl 2 rfl) ?_
        refine lv_aload_n hx hb dX2_plan_21 rfl (lv_at hl 0 rfl) ?_
        refine jr_get (k := 1) hx hb hts hown hK hP jb_15 (Nat.le_of_ble_eq_true rfl) jlX2_21 rfl dX2_plan_22 ?_
        refine lv_iconst (v := (-1)) hx hb dX2_plan_25 jci_m1 ?_
        refine lv_ixor hx hb dX2_plan_26 ?_
        refine lv_iand hx hb dX2_plan_27 ?_
        refine lv_if_eq (tgt := 34) hx hb dX2_plan_28 rfl (fun c28 => ?_) (fun c28 => ?_)
        · replace h := jh_t h c28
          refine lv_iconst (v := 0) hx hb dX2_plan_34 jci_0 ?_
          refine lv_istore (lv' := [(4, .int 0), (0, .ref (jO X 15)), (1, .ref (jO X o1)), (3, .int v3_2)]) hx hb dX2_plan_35 hl (Nat.le_of_ble_eq_true rfl) rfl (fun ls hl => ?_)
          have L37 : ∀ (v3_3 : Int32) (k_3 : Nat) (M_3 : jm) (H : Heap) (locs : List Loc) (v4_3 : Int32) (ls : Array Slot), f_X2_plan_l37 o1 (f_X2_plan_l12 o1 k_2) v3_3 k_3 M_3 v4_3 = some N → jrp X M_3 H → va_S A s.heap H locs → lv_has ls 5 [(0, .ref (jO X 15)), (1, .ref (jO X o1)), (3, .int v3_3), (4, .int v4_3)] → W p l e (jrm 5 119) s m args below meth c H locs 0 0 (MQ below (jQm X A none N) args s 0 0 A) (F0 m 37 ls []) := by
            intro v3_3 k_3
            induction k_3 with
            | zero => intro M_3 H locs v4_3 ls h; exact jh_0 h
            | succ k_3 ih37 =>
              intro M_3 H locs v4_3 ls h hP hS hl
              refine lv_iload hx hb dX2_plan_37 (lv_at hl 3 rfl) ?_
              refine lv_aload_n hx hb dX2_plan_39 rfl (lv_at hl 1 rfl) ?_
              refine jr_get (k := 0) hx hb hts hown hK hP hj1 (Nat.le_of_ble_eq_true rfl) jlX2_25 rfl dX2_plan_40 ?_
              refine lv_icmp_ge (tgt := 77) hx hb dX2_plan_43 rfl (fun c43 => ?_) (fun c43 => ?_)
              · replace h := jh_t h c43
                refine lv_iinc (v := (v3_3 + 1)) (lv' := [(3, .int (v3_3 + 1)), (0, .ref (jO X 15)), (1, .ref (jO X o1)), (4, .int v4_3)]) hx hb dX2_plan_77 hl (k := 2) rfl (congrArg _ jci_1) (Nat.le_of_ble_eq_true rfl) rfl (fun ls hl => ?_)
                refine lv_goto (tgt := 12) hx hb dX2_plan_80 rfl ?_
                exact ih12 M_3 _ _ (v3_3 + 1) _ h hP hS (lv_sub hl [1, 2, 0] rfl)
              · replace h := jh_f h c43
                refine lv_aload_n hx hb dX2_plan_46 rfl (lv_at hl 0 rfl) ?_
                refine jr_get (k := 0) hx hb hts hown hK hP jb_15 (Nat.le_of_ble_eq_true rfl) jlX2_9 rfl dX2_plan_47 ?_
                refine lv_iload_n hx hb dX2_plan_50 rfl (lv_at hl 2 rfl) ?_
                refine lv_bipush (v := 7) hx hb dX2_plan_51 jcb_7 ?_
                refine lv_imul hx hb dX2_plan_53 ?_
                refine lv_iload hx hb dX2_plan_54 (lv_at hl 3 rfl) ?_
                refine lv_iadd hx hb dX2_plan_56 ?_
                refine lv_aload_n hx hb dX2_plan_57 rfl (lv_at hl 0 rfl) ?_
                refine lv_aload_n hx hb dX2_plan_58 rfl (lv_at hl 1 rfl) ?_
                refine lv_aload_n hx hb dX2_plan_59 rfl (lv_at hl 1 rfl) ?_
                refine jr_get (k := 3) hx hb hts hown hK hP hj1 (Nat.le_of_ble_eq_true rfl) jlX2_28 rfl dX2_plan_60 ?_
                refine lv_iload hx hb dX2_plan_63 (lv_at hl 3 rfl) ?_
                obtain ⟨g65, h⟩ := jh_gd h
                refine jr_ald (n := 8) hx hb hK hP hj1 rfl g65 dX2_plan_65 ?_
                refine lv_iload_n hx hb dX2_plan_66 rfl (lv_at hl 2 rfl) ?_
                obtain ⟨r4, e4, h⟩ := jh_b h
                refine jr_kp (jr_rv (As := [.ref (jO X o1), .int (M_3 o1 3 (Int32.toNatClampNeg v4_3)), .int v3_3]) (rest := [.int ((v3_3 * 7) + v4_3), .ref (jA X 15 0)]) S hK hP jb_15 rfl (m_X2_fewest l X M_3 hj1 (M_3 o1 3 (Int32.toNatClampNeg v4_3)) v3_3 r4 e4) jw_X2_fewest ji_X2_fewest jmX2_31 rfl rfl ⟨(Nat.le_of_ble_eq_true rfl), (Nat.le_of_ble_eq_true rfl)⟩ rfl hl.1 rfl (Nat.le_of_ble_eq_true rfl) dX2_plan_67 ⟨Nat.zero_le _, Nat.zero_le _⟩) ?_
                obtain ⟨g70, h⟩ := jh_gd h
                refine jr_ast (n := 896) hx hb hK hP hs hS jb_15 rfl g70 dX2_plan_70 (fun H locs hP hS => ?_)
                refine lv_iinc (v := (v4_3 + 1)) (lv' := [(4, .int (v4_3 + 1)), (0, .ref (jO X 15)), (1, .ref (jO X o1)), (3, .int v3_3)]) hx hb dX2_plan_71 hl (k := 3) rfl (congrArg _ jci_1) (Nat.le_of_ble_eq_true rfl) rfl (fun ls hl => ?_)
                refine lv_goto (tgt := 37) hx hb dX2_plan_74 rfl ?_
                exact ih37 (ju M_3 15 0 (Int32.toNatClampNeg ((v3_3 * 7) + v4_3)) r4) _ _ (v4_3 + 1) _ h hP hS (lv_sub hl [1, 2, 3, 0] rfl)
          exact L37 v3_2 10000 M_2 _ _ 0 _ h hP hS (lv_sub hl [1, 2, 3, 0] rfl)
        · replace h := jh_f h c28
          refine lv_goto (tgt := 77) hx hb dX2_plan_31 rfl ?_
          refine lv_iinc (v := (v3_2 + 1)) (lv' := [(3, .int (v3_2 + 1)), (0, .ref (jO X 15)), (1, .ref (jO X o1))]) hx hb dX2_plan_77 hl (k := 2) rfl (congrArg _ jci_1) (Nat.le_of_ble_eq_true rfl) rfl (fun ls hl => ?_)
          refine lv_goto (tgt := 12) hx hb dX2_plan_80 rfl ?_
          exact ih12 M_2 _ _ (v3_2 + 1) _ h hP hS (lv_sub hl [1, 2, 0] rfl)
  exact L12 10000 (ju M 15 1 0 r1) _ _ 0 _ h hP hS (lv_sub hl [1, 2, 0] rfl)
def f_X2_stop_l12 (M : jm) (o1 : Nat) (v3_1 : Int32) : Nat → Int32 → Int32 → Int32 → Option Int32
  | 0, _, _, _ => none
  | k_1 + 1, v4_1, v5_1, v6_1 => (if 7 ≤ v6_1 then (some (-9)) else (jb (f_X2_nextDoor M o1 v5_1 v4_1) fun r2 => (if r2 = (-9) then (some r2) else (if v6_1 = v3_1 then (some r2) else (jgd r2 8 ((f_X2_stop_l12 M o1 v3_1 k_1) (v4_1 &&& (((1 : Int32) <<< (r2 &&& 31)) ^^^ (-1))) (M o1 3 (Int32.toNatClampNeg r2)) (v6_1 + 1)))))))
def f_X2_stop (M : jm) (o1 : Nat) (v2 : Int32) (v3 : Int32) : Option Int32 := (f_X2_stop_l12 M o1 v3 10000 (M 15 1 0) v2 0)
set_option maxRecDepth 100000 in
theorem m_X2_stop (l : Launch) (X : jX) (M : jm) {o1 : Nat} (hj1 : job o1 4) (v2 : Int32) (v3 : Int32) (r : Int32) (h : f_X2_stop M o1 v2 v3 = some r) : Met l yX2_stop (jws yX2_stop cX2_stop 8 (some .int)) (jrm 4 93) (va_Pc [.ref (jO X 15), .ref (jO X o1), .int v2, .int v3] (jB X M)) (jQ (.int r)) 0 0 (fun _ => False) := by
  refine jm_of (by decide) (Nat.le_of_ble_eq_true rfl) ?_
  intro p e s m args below meth c ls S hr hlocks hB hl
  have S : CallFix p m c cX2_stop 8 s args jtb RX2 := S
  obtain ⟨hx, hb, hml, hown, hts⟩ := id S
  obtain ⟨hP, hK⟩ := hB
  have hN := hK.2
  have hl : lv_has ls 8 [(0, .ref (jO X 15)), (1, .ref (jO X o1)), (2, .int v2), (3, .int v3)] := hl
  refine lv_aload_n hx hb dX2_stop_0 rfl (lv_at hl 0 rfl) ?_
  refine jr_get (k := 1) hx hb hts hown hK hP jb_15 (Nat.le_of_ble_eq_true rfl) jlX2_21 rfl dX2_stop_1 ?_
  refine lv_istore (lv' := [(4, .int (M 15 1 0)), (0, .ref (jO X 15)), (1, .ref (jO X o1)), (2, .int v2), (3, .int v3)]) hx hb dX2_stop_4 hl (Nat.le_of_ble_eq_true rfl) rfl (fun ls hl => ?_)
  refine lv_iload_n hx hb dX2_stop_6 rfl (lv_at hl 3 rfl) ?_
  refine lv_istore (lv' := [(5, .int v2), (4, .int (M 15 1 0)), (0, .ref (jO X 15)), (1, .ref (jO X o1)), (2, .int v2), (3, .int v3)]) hx hb dX2_stop_7 hl (Nat.le_of_ble_eq_true rfl) rfl (fun ls hl => ?_)
  refine lv_iconst (v := 0) hx hb dX2_stop_9 jci_0 ?_
  refine lv_istore (lv' := [(6, .int 0), (5, .int v2), (4, .int (M 15 1 0)), (0, .ref (jO X 15)), (1, .ref (jO X o1)), (2, .int v2), (3, .int v3)]) hx hb dX2_stop_10 hl (Nat.le_of_ble_eq_true rfl) rfl (fun ls hl => ?_)
  have L12 : ∀ (v3_1 : Int32) (k_1 : Nat) (v4_1 : Int32) (v5_1 : Int32) (v6_1 : Int32) (ls : Array Slot), f_X2_stop_l12 M o1 v3_1 k_1 v4_1 v5_1 v6_1 = some r → lv_has ls 8 [(0, .ref (jO X 15)), (1, .ref (jO X o1)), (3, .int v3_1), (4, .int v4_1), (5, .int v5_1), (6, .int v6_1)] → W p l e (jrm 4 93) s m args below meth c s.heap [] 0 0 (MQ below (jQ (.int r)) args s 0 0 (fun _ => False)) (F0 m 12 ls []) := by
    intro v3_1 k_1
    induction k_1 with
    | zero => intro v4_1 v5_1 v6_1 ls h; exact jh_0 h
    | succ k_1 ih12 =>
      intro v4_1 v5_1 v6_1 ls h hl
      refine lv_iload hx hb dX2_stop_12 (lv_at hl 5 rfl) ?_
      refine lv_bipush (v := 7) hx hb dX2_stop_14 jcb_7 ?_
      refine lv_icmp_ge (tgt := 72) hx hb dX2_stop_16 rfl (fun c16 => ?_) (fun c16 => ?_)
      · replace h := jh_t h c16
        refine lv_bipush (v := (-9)) hx hb dX2_stop_72 jcb_m9 ?_
        exact je_i hx hb hr hlocks (Option.some.inj h) dX2_stop_74
      · replace h := jh_f h c16
        refine lv_aload_n hx hb dX2_stop_19 rfl (lv_at hl 0 rfl) ?_
        refine lv_aload_n hx hb dX2_stop_20 rfl (lv_at hl 1 rfl) ?_
        refine lv_iload hx hb dX2_stop_21 (lv_at hl 4 rfl) ?_
        refine lv_iload hx hb dX2_stop_23 (lv_at hl 3 rfl) ?_
        obtain ⟨r2, e2, h⟩ := jh_b h
        refine jr_kp (jr_rv (As := [.ref (jO X o1), .int v5_1, .int v4_1]) (rest := []) S hK hP jb_15 rfl (m_X2_nextDoor l X M hj1 v5_1 v4_1 r2 e2) jw_X2_nextDoor ji_X2_nextDoor jmX2_35 rfl rfl ⟨(Nat.le_of_ble_eq_true rfl), (Nat.le_of_ble_eq_true rfl)⟩ rfl hl.1 rfl (Nat.le_of_ble_eq_true rfl) dX2_stop_25 ⟨Nat.zero_le _, Nat.zero_le _⟩) ?_
        refine lv_istore (lv' := [(7, .int r2), (0, .ref (jO X 15)), (1, .ref (jO X o1)), (3, .int v3_1), (4, .int v4_1), (5, .int v5_1), (6, .int v6_1)]) hx hb dX2_stop_28 hl (Nat.le_of_ble_eq_true rfl) rfl (fun ls hl => ?_)
        refine lv_iload hx hb dX2_stop_30 (lv_at hl 0 rfl) ?_
        refine lv_bipush (v := (-9)) hx hb dX2_stop_32 jcb_m9 ?_
        refine lv_icmp_eq (tgt := 43) hx hb dX2_stop_34 rfl (fun c34 => ?_) (fun c34 => ?_)
        · replace h := jh_t h c34
          refine lv_iload hx hb dX2_stop_43 (lv_at hl 0 rfl) ?_
          exact je_i hx hb hr hlocks (Option.some.inj h) dX2_stop_45
        · replace h := jh_f h c34
          refine lv_iload hx hb dX2_stop_37 (lv_at hl 6 rfl) ?_
          refine lv_iload_n hx hb dX2_stop_39 rfl (lv_at hl 3 rfl) ?_
          refine lv_icmp_ne (tgt := 46) hx hb dX2_stop_40 rfl (fun c40 => ?_) (fun c40 => ?_)
          · replace h := jh_f h c40
            refine lv_aload_n hx hb dX2_stop_46 rfl (lv_at hl 2 rfl) ?_
            refine jr_get (k := 3) hx hb hts hown hK hP hj1 (Nat.le_of_ble_eq_true rfl) jlX2_28 rfl dX2_stop_47 ?_
            refine lv_iload hx hb dX2_stop_50 (lv_at hl 0 rfl) ?_
            obtain ⟨g52, h⟩ := jh_gd h
            refine jr_ald (n := 8) hx hb hK hP hj1 rfl g52 dX2_stop_52 ?_
            refine lv_istore (lv' := [(5, .int (M o1 3 (Int32.toNatClampNeg r2))), (7, .int r2), (0, .ref (jO X 15)), (1, .ref (jO X o1)), (3, .int v3_1), (4, .int v4_1), (6, .int v6_1)]) hx hb dX2_stop_53 hl (Nat.le_of_ble_eq_true rfl) rfl (fun ls hl => ?_)
            refine lv_iload hx hb dX2_stop_55 (lv_at hl 5 rfl) ?_
            refine lv_iconst (v := 1) hx hb dX2_stop_57 jci_1 ?_
            refine lv_iload hx hb dX2_stop_58 (lv_at hl 1 rfl) ?_
            refine lv_ishl hx hb dX2_stop_60 ?_
            refine lv_iconst (v := (-1)) hx hb dX2_stop_61 jci_m1 ?_
            refine lv_ixor hx hb dX2_stop_62 ?_
            refine lv_iand hx hb dX2_stop_63 ?_
            refine lv_istore (lv' := [(4, .int (v4_1 &&& (((1 : Int32) <<< (r2 &&& 31)) ^^^ (-1)))), (5, .int (M o1 3 (Int32.toNatClampNeg r2))), (7, .int r2), (0, .ref (jO X 15)), (1, .ref (jO X o1)), (3, .int v3_1), (6, .int v6_1)]) hx hb dX2_stop_64 hl (Nat.le_of_ble_eq_true rfl) rfl (fun ls hl => ?_)
            refine lv_iinc (v := (v6_1 + 1)) (lv' := [(6, .int (v6_1 + 1)), (4, .int (v4_1 &&& (((1 : Int32) <<< (r2 &&& 31)) ^^^ (-1)))), (5, .int (M o1 3 (Int32.toNatClampNeg r2))), (7, .int r2), (0, .ref (jO X 15)), (1, .ref (jO X o1)), (3, .int v3_1)]) hx hb dX2_stop_66 hl (k := 6) rfl (congrArg _ jci_1) (Nat.le_of_ble_eq_true rfl) rfl (fun ls hl => ?_)
            refine lv_goto (tgt := 12) hx hb dX2_stop_69 rfl ?_
            exact ih12 (v4_1 &&& (((1 : Int32) <<< (r2 &&& 31)) ^^^ (-1))) (M o1 3 (Int32.toNatClampNeg r2)) (v6_1 + 1) _ h (lv_sub hl [4, 5, 6, 1, 2, 0] rfl)
          · replace h := jh_t h c40
            refine lv_iload hx hb dX2_stop_43 (lv_at hl 0 rfl) ?_
            exact je_i hx hb hr hlocks (Option.some.inj h) dX2_stop_45
  exact L12 v3 10000 (M 15 1 0) v2 0 _ h (lv_sub hl [3, 4, 6, 2, 1, 0] rfl)
def f_X3_openCells_l5 (M : jm) (v1_1 : Int32) : Nat → Int64 → Int32 → Option Int64
  | 0, _, _ => none
  | k_1 + 1, v2_1, v4_1 => (if 49 ≤ v4_1 then (some v2_1) else (jgd v4_1 49 (if ((M 14 0 (Int32.toNatClampNeg v4_1)) &&& (v1_1 ^^^ (-1))) = 0 then ((f_X3_openCells_l5 M v1_1 k_1) (v2_1 ||| ((1 : Int64) <<< (Int32.toInt64 v4_1 &&& 63))) (v4_1 + 1)) else ((f_X3_openCells_l5 M v1_1 k_1) v2_1 (v4_1 + 1)))))
def f_X3_openCells (M : jm) (v1 : Int32) : Option Int64 := (f_X3_openCells_l5 M v1 10000 0 0)
set_option maxRecDepth 100000 in
theorem m_X3_openCells (l : Launch) (X : jX) (M : jm) (v1 : Int32) (r : Int64) (h : f_X3_openCells M v1 = some r) : Met l yX3_openCells (jws yX3_openCells cX3_openCells 5 (some .long)) (jrm 0 0) (va_Pc [.ref (jO X 14), .int v1] (jB X M)) (jQ (.long r)) 0 0 (fun _ => False) := by
  refine jm_of (by decide) (Nat.le_of_ble_eq_true rfl) ?_
  intro p e s m args below meth c ls S hr hlocks hB hl
  have S : CallFix p m c cX3_openCells 5 s args jtb RX3 := S
  obtain ⟨hx, hb, hml, hown, hts⟩ := id S
  obtain ⟨hP, hK⟩ := hB
  have hN := hK.2
  have hl : lv_has ls 5 [(0, .ref (jO X 14)), (1, .int v1)] := hl
  refine lv_lconst (v := 0) hx hb dX3_openCells_0 rfl ?_
  refine lv_lstore_n (lv' := [(2, .long 0), (0, .ref (jO X 14)), (1, .int v1)]) hx hb dX3_openCells_1 rfl hl (Nat.le_of_ble_eq_true rfl) rfl (fun ls hl => ?_)
  refine lv_iconst (v := 0) hx hb dX3_openCells_2 jci_0 ?_
  refine lv_istore (lv' := [(4, .int 0), (2, .long 0), (0, .ref (jO X 14)), (1, .int v1)]) hx hb dX3_openCells_3 hl (Nat.le_of_ble_eq_true rfl) rfl (fun ls hl => ?_)
  have L5 : ∀ (v1_1 : Int32) (k_1 : Nat) (v2_1 : Int64) (v4_1 : Int32) (ls : Array Slot), f_X3_openCells_l5 M v1_1 k_1 v2_1 v4_1 = some r → lv_has ls 5 [(0, .ref (jO X 14)), (1, .int v1_1), (2, .long v2_1), (4, .int v4_1)] → W p l e (jrm 0 0) s m args below meth c s.heap [] 0 0 (MQ below (jQ (.long r)) args s 0 0 (fun _ => False)) (F0 m 5 ls []) := by
    intro v1_1 k_1
    induction k_1 with
    | zero => intro v2_1 v4_1 ls h; exact jh_0 h
    | succ k_1 ih5 =>
      intro v2_1 v4_1 ls h hl
      refine lv_iload hx hb dX3_openCells_5 (lv_at hl 3 rfl) ?_
      refine lv_bipush (v := 49) hx hb dX3_openCells_7 jcb_49 ?_
      refine lv_icmp_ge (tgt := 39) hx hb dX3_openCells_9 rfl (fun c9 => ?_) (fun c9 => ?_)
      · replace h := jh_t h c9
        refine lv_lload_n hx hb dX3_openCells_39 rfl (lv_at hl 2 rfl) ?_
        exact je_l hx hb hr hlocks (Option.some.inj h) dX3_openCells_40
      · replace h := jh_f h c9
        refine lv_aload_n hx hb dX3_openCells_12 rfl (lv_at hl 0 rfl) ?_
        refine jr_get (k := 0) hx hb hts hown hK hP jb_14 (Nat.le_of_ble_eq_true rfl) jlX3_11 rfl dX3_openCells_13 ?_
        refine lv_iload hx hb dX3_openCells_16 (lv_at hl 3 rfl) ?_
        obtain ⟨g18, h⟩ := jh_gd h
        refine jr_ald (n := 49) hx hb hK hP jb_14 rfl g18 dX3_openCells_18 ?_
        refine lv_iload_n hx hb dX3_openCells_19 rfl (lv_at hl 1 rfl) ?_
        refine lv_iconst (v := (-1)) hx hb dX3_openCells_20 jci_m1 ?_
        refine lv_ixor hx hb dX3_openCells_21 ?_
        refine lv_iand hx hb dX3_openCells_22 ?_
        refine lv_if_ne (tgt := 33) hx hb dX3_openCells_23 rfl (fun c23 => ?_) (fun c23 => ?_)
        · replace h := jh_f h c23
          refine lv_iinc (v := (v4_1 + 1)) (lv' := [(4, .int (v4_1 + 1)), (0, .ref (jO X 14)), (1, .int v1_1), (2, .long v2_1)]) hx hb dX3_openCells_33 hl (k := 3) rfl (congrArg _ jci_1) (Nat.le_of_ble_eq_true rfl) rfl (fun ls hl => ?_)
          refine lv_goto (tgt := 5) hx hb dX3_openCells_36 rfl ?_
          exact ih5 v2_1 (v4_1 + 1) _ h (lv_sub hl [1, 2, 3, 0] rfl)
        · replace h := jh_t h c23
          refine lv_lload_n hx hb dX3_openCells_26 rfl (lv_at hl 2 rfl) ?_
          refine lv_lconst (v := 1) hx hb dX3_openCells_27 rfl ?_
          refine lv_iload hx hb dX3_openCells_28 (lv_at hl 3 rfl) ?_
          refine lv_lshl hx hb dX3_openCells_30 rfl ?_
          refine lv_lor hx hb dX3_openCells_31 ?_
          refine lv_lstore_n (lv' := [(2, .long (v2_1 ||| ((1 : Int64) <<< (Int32.toInt64 v4_1 &&& 63)))), (0, .ref (jO X 14)), (1, .int v1_1), (4, .int v4_1)]) hx hb dX3_openCells_32 rfl hl (Nat.le_of_ble_eq_true rfl) rfl (fun ls hl => ?_)
          refine lv_iinc (v := (v4_1 + 1)) (lv' := [(4, .int (v4_1 + 1)), (2, .long (v2_1 ||| ((1 : Int64) <<< (Int32.toInt64 v4_1 &&& 63)))), (0, .ref (jO X 14)), (1, .int v1_1)]) hx hb dX3_openCells_33 hl (k := 3) rfl (congrArg _ jci_1) (Nat.le_of_ble_eq_true rfl) rfl (fun ls hl => ?_)
          refine lv_goto (tgt := 5) hx hb dX3_openCells_36 rfl ?_
          exact ih5 (v2_1 ||| ((1 : Int64) <<< (Int32.toInt64 v4_1 &&& 63))) (v4_1 + 1) _ h (lv_sub hl [2, 3, 1, 0] rfl)
  exact L5 v1 10000 0 0 _ h (lv_sub hl [2, 3, 1, 0] rfl)
def f_X3_shortestOver_l18 (v0_2 : Int64) (v3_2 : Int32) (v4_2 : Int32) : Nat → Int64 → Int32 → Option Int32
  | 0, _, _ => none
  | k_2 + 1, v5_2, v7_2 => (if v4_2 < v7_2 then (some (-9)) else (if (lg_cmp (((Int64.toUInt64 ((((v5_2 ||| (v5_2 <<< (Int32.toInt64 7 &&& 63))) ||| ((Int64.toUInt64 v5_2 >>> ((Int32.toInt64 7).toUInt64 &&& Int64.toUInt64 63)).toInt64)) ||| (((v5_2 &&& (-283691315109953)) <<< (Int32.toInt64 1 &&& 63)) ||| ((Int64.toUInt64 (v5_2 &&& (-4432676798594)) >>> ((Int32.toInt64 1).toUInt64 &&& Int64.toUInt64 63)).toInt64))) &&& v0_2) >>> ((Int32.toInt64 v3_2).toUInt64 &&& Int64.toUInt64 63)).toInt64) &&& 1) 0) = 0 then ((f_X3_shortestOver_l18 v0_2 v3_2 v4_2 k_2) ((((v5_2 ||| (v5_2 <<< (Int32.toInt64 7 &&& 63))) ||| ((Int64.toUInt64 v5_2 >>> ((Int32.toInt64 7).toUInt64 &&& Int64.toUInt64 63)).toInt64)) ||| (((v5_2 &&& (-283691315109953)) <<< (Int32.toInt64 1 &&& 63)) ||| ((Int64.toUInt64 (v5_2 &&& (-4432676798594)) >>> ((Int32.toInt64 1).toUInt64 &&& Int64.toUInt64 63)).toInt64))) &&& v0_2) (v7_2 + 1)) else (some v7_2)))
def f_X3_shortestOver (v0 : Int64) (v2 : Int32) (v3 : Int32) : Option Int32 := (f_X3_shortestOver_l18 v0 v3 ((f_X5_steps v2 v3) + 12) 10000 ((1 : Int64) <<< (Int32.toInt64 v2 &&& 63)) 1)
set_option maxRecDepth 100000 in
theorem m_X3_shortestOver (l : Launch) (v0 : Int64) (v2 : Int32) (v3 : Int32) (r : Int32) (h : f_X3_shortestOver v0 v2 v3 = some r) : Met l yX3_shortestOver (jws yX3_shortestOver cX3_shortestOver 10 (some .int)) (jrm 2 42) (va_Pc [.long v0, .int v2, .int v3] jN) (jQ (.int r)) 0 0 (fun _ => False) := by
  refine jm_of (by decide) (Nat.le_of_ble_eq_true rfl) ?_
  intro p e s m args below meth c ls S hr hlocks hB hl
  have S : CallFix p m c cX3_shortestOver 10 s args jtb RX3 := S
  obtain ⟨hx, hb, hml, hown, hts⟩ := id S
  have hN := hB
  have hl : lv_has ls 10 [(0, .long v0), (2, .int v2), (3, .int v3)] := hl
  refine lv_iload_n hx hb dX3_shortestOver_0 rfl (lv_at hl 1 rfl) ?_
  refine lv_iload_n hx hb dX3_shortestOver_1 rfl (lv_at hl 2 rfl) ?_
  refine jr_kp (jr_rn (As := [.int v2, .int v3]) (rest := []) S hN (m_X5_steps l v2 v3 _ rfl) jw_X5_steps js_X5_steps (List.mem_of_getElem? (i := 8) rfl) rfl rfl ⟨(Nat.le_of_ble_eq_true rfl), (Nat.le_of_ble_eq_true rfl)⟩ rfl hl.1 rfl (Nat.le_of_ble_eq_true rfl) dX3_shortestOver_2 ⟨Nat.zero_le _, Nat.zero_le _⟩) ?_
  refine lv_bipush (v := 12) hx hb dX3_shortestOver_5 jcb_12 ?_
  refine lv_iadd hx hb dX3_shortestOver_7 ?_
  refine lv_istore (lv' := [(4, .int ((f_X5_steps v2 v3) + 12)), (0, .long v0), (2, .int v2), (3, .int v3)]) hx hb dX3_shortestOver_8 hl (Nat.le_of_ble_eq_true rfl) rfl (fun ls hl => ?_)
  refine lv_lconst (v := 1) hx hb dX3_shortestOver_10 rfl ?_
  refine lv_iload_n hx hb dX3_shortestOver_11 rfl (lv_at hl 2 rfl) ?_
  refine lv_lshl hx hb dX3_shortestOver_12 rfl ?_
  refine lv_lstore (lv' := [(5, .long ((1 : Int64) <<< (Int32.toInt64 v2 &&& 63))), (4, .int ((f_X5_steps v2 v3) + 12)), (0, .long v0), (2, .int v2), (3, .int v3)]) hx hb dX3_shortestOver_13 hl (Nat.le_of_ble_eq_true rfl) rfl (fun ls hl => ?_)
  refine lv_iconst (v := 1) hx hb dX3_shortestOver_15 jci_1 ?_
  refine lv_istore (lv' := [(7, .int 1), (5, .long ((1 : Int64) <<< (Int32.toInt64 v2 &&& 63))), (4, .int ((f_X5_steps v2 v3) + 12)), (0, .long v0), (2, .int v2), (3, .int v3)]) hx hb dX3_shortestOver_16 hl (Nat.le_of_ble_eq_true rfl) rfl (fun ls hl => ?_)
  have L18 : ∀ (v0_2 : Int64) (v3_2 : Int32) (v4_2 : Int32) (k_2 : Nat) (v5_2 : Int64) (v7_2 : Int32) (ls : Array Slot), f_X3_shortestOver_l18 v0_2 v3_2 v4_2 k_2 v5_2 v7_2 = some r → lv_has ls 10 [(0, .long v0_2), (3, .int v3_2), (4, .int v4_2), (5, .long v5_2), (7, .int v7_2)] → W p l e (jrm 2 42) s m args below meth c s.heap [] 0 0 (MQ below (jQ (.int r)) args s 0 0 (fun _ => False)) (F0 m 18 ls []) := by
    intro v0_2 v3_2 v4_2 k_2
    induction k_2 with
    | zero => intro v5_2 v7_2 ls h; exact jh_0 h
    | succ k_2 ih18 =>
      intro v5_2 v7_2 ls h hl
      refine lv_iload hx hb dX3_shortestOver_18 (lv_at hl 4 rfl) ?_
      refine lv_iload hx hb dX3_shortestOver_20 (lv_at hl 2 rfl) ?_
      refine lv_icmp_gt (tgt := 85) hx hb dX3_shortestOver_22 rfl (fun c22 => ?_) (fun c22 => ?_)
      · replace h := jh_t h c22
        refine lv_bipush (v := (-9)) hx hb dX3_shortestOver_85 jcb_m9 ?_
        exact je_i hx hb hr hlocks (Option.some.inj h) dX3_shortestOver_87
      · replace h := jh_f h c22
        refine lv_lload hx hb dX3_shortestOver_25 (lv_at hl 3 rfl) ?_
        refine lv_ldc2 hx hb hown (hts _ jkX3_58) dX3_shortestOver_27 ?_
        refine lv_land hx hb dX3_shortestOver_30 ?_
        refine lv_iconst (v := 1) hx hb dX3_shortestOver_31 jci_1 ?_
        refine lv_lshl hx hb dX3_shortestOver_32 rfl ?_
        refine lv_lload hx hb dX3_shortestOver_33 (lv_at hl 3 rfl) ?_
        refine lv_ldc2 hx hb hown (hts _ jkX3_60) dX3_shortestOver_35 ?_
        refine lv_land hx hb dX3_shortestOver_38 ?_
        refine lv_iconst (v := 1) hx hb dX3_shortestOver_39 jci_1 ?_
        refine lv_lushr hx hb dX3_shortestOver_40 rfl ?_
        refine lv_lor hx hb dX3_shortestOver_41 ?_
        refine lv_lstore (lv' := [(8, .long (((v5_2 &&& (-283691315109953)) <<< (Int32.toInt64 1 &&& 63)) ||| ((Int64.toUInt64 (v5_2 &&& (-4432676798594)) >>> ((Int32.toInt64 1).toUInt64 &&& Int64.toUInt64 63)).toInt64))), (0, .long v0_2), (3, .int v3_2), (4, .int v4_2), (5, .long v5_2), (7, .int v7_2)]) hx hb dX3_shortestOver_42 hl (Nat.le_of_ble_eq_true rfl) rfl (fun ls hl => ?_)
        refine lv_lload hx hb dX3_shortestOver_44 (lv_at hl 4 rfl) ?_
        refine lv_lload hx hb dX3_shortestOver_46 (lv_at hl 4 rfl) ?_
        refine lv_bipush (v := 7) hx hb dX3_shortestOver_48 jcb_7 ?_
        refine lv_lshl hx hb dX3_shortestOver_50 rfl ?_
        refine lv_lor hx hb dX3_shortestOver_51 ?_
        refine lv_lload hx hb dX3_shortestOver_52 (lv_at hl 4 rfl) ?_
        refine lv_bipush (v := 7) hx hb dX3_shortestOver_54 jcb_7 ?_
        refine lv_lushr hx hb dX3_shortestOver_56 rfl ?_
        refine lv_lor hx hb dX3_shortestOver_57 ?_
        refine lv_lload hx hb dX3_shortestOver_58 (lv_at hl 0 rfl) ?_
        refine lv_lor hx hb dX3_shortestOver_60 ?_
        refine lv_lload_n hx hb dX3_shortestOver_61 rfl (lv_at hl 1 rfl) ?_
        refine lv_land hx hb dX3_shortestOver_62 ?_
        refine lv_lstore (lv' := [(5, .long ((((v5_2 ||| (v5_2 <<< (Int32.toInt64 7 &&& 63))) ||| ((Int64.toUInt64 v5_2 >>> ((Int32.toInt64 7).toUInt64 &&& Int64.toUInt64 63)).toInt64)) ||| (((v5_2 &&& (-283691315109953)) <<< (Int32.toInt64 1 &&& 63)) ||| ((Int64.toUInt64 (v5_2 &&& (-4432676798594)) >>> ((Int32.toInt64 1).toUInt64 &&& Int64.toUInt64 63)).toInt64))) &&& v0_2)), (8, .long (((v5_2 &&& (-283691315109953)) <<< (Int32.toInt64 1 &&& 63)) ||| ((Int64.toUInt64 (v5_2 &&& (-4432676798594)) >>> ((Int32.toInt64 1).toUInt64 &&& Int64.toUInt64 63)).toInt64))), (0, .long v0_2), (3, .int v3_2), (4, .int v4_2), (7, .int v7_2)]) hx hb dX3_shortestOver_63 hl (Nat.le_of_ble_eq_true rfl) rfl (fun ls hl => ?_)
        refine lv_lload hx hb dX3_shortestOver_65 (lv_at hl 0 rfl) ?_
        refine lv_iload_n hx hb dX3_shortestOver_67 rfl (lv_at hl 3 rfl) ?_
        refine lv_lushr hx hb dX3_shortestOver_68 rfl ?_
        refine lv_lconst (v := 1) hx hb dX3_shortestOver_69 rfl ?_
        refine lv_land hx hb dX3_shortestOver_70 ?_
        refine lv_lconst (v := 0) hx hb dX3_shortestOver_71 rfl ?_
        refine W.lcmp hx hb dX3_shortestOver_72 ?_
        refine lv_if_eq (tgt := 79) hx hb dX3_shortestOver_73 rfl (fun c73 => ?_) (fun c73 => ?_)
        · replace h := jh_t h c73
          refine lv_iinc (v := (v7_2 + 1)) (lv' := [(7, .int (v7_2 + 1)), (5, .long ((((v5_2 ||| (v5_2 <<< (Int32.toInt64 7 &&& 63))) ||| ((Int64.toUInt64 v5_2 >>> ((Int32.toInt64 7).toUInt64 &&& Int64.toUInt64 63)).toInt64)) ||| (((v5_2 &&& (-283691315109953)) <<< (Int32.toInt64 1 &&& 63)) ||| ((Int64.toUInt64 (v5_2 &&& (-4432676798594)) >>> ((Int32.toInt64 1).toUInt64 &&& Int64.toUInt64 63)).toInt64))) &&& v0_2)), (8, .long (((v5_2 &&& (-283691315109953)) <<< (Int32.toInt64 1 &&& 63)) ||| ((Int64.toUInt64 (v5_2 &&& (-4432676798594)) >>> ((Int32.toInt64 1).toUInt64 &&& Int64.toUInt64 63)).toInt64))), (0, .long v0_2), (3, .int v3_2), (4, .int v4_2)]) hx hb dX3_shortestOver_79 hl (k := 5) rfl (congrArg _ jci_1) (Nat.le_of_ble_eq_true rfl) rfl (fun ls hl => ?_)
          refine lv_goto (tgt := 18) hx hb dX3_shortestOver_82 rfl ?_
          exact ih18 ((((v5_2 ||| (v5_2 <<< (Int32.toInt64 7 &&& 63))) ||| ((Int64.toUInt64 v5_2 >>> ((Int32.toInt64 7).toUInt64 &&& Int64.toUInt64 63)).toInt64)) ||| (((v5_2 &&& (-283691315109953)) <<< (Int32.toInt64 1 &&& 63)) ||| ((Int64.toUInt64 (v5_2 &&& (-4432676798594)) >>> ((Int32.toInt64 1).toUInt64 &&& Int64.toUInt64 63)).toInt64))) &&& v0_2) (v7_2 + 1) _ h (lv_sub hl [3, 4, 5, 1, 0] rfl)
        · replace h := jh_f h c73
          refine lv_iload hx hb dX3_shortestOver_76 (lv_at hl 5 rfl) ?_
          exact je_i hx hb hr hlocks (Option.some.inj h) dX3_shortestOver_78
  exact L18 v0 v3 ((f_X5_steps v2 v3) + 12) 10000 ((1 : Int64) <<< (Int32.toInt64 v2 &&& 63)) 1 _ h (lv_sub hl [3, 5, 2, 1, 0] rfl)
def f_X3_shortestAt_l7 (M : jm) (v1_1 : Int32) (v2_1 : Int32) (v3_1 : Int32) (v4_1 : Int32) : Nat → Int32 → Int32 → Option Int32
  | 0, _, _ => none
  | k_1 + 1, v5_1, v6_1 => (if ((1 : Int32) <<< (v2_1 &&& 31)) ≤ v6_1 then (some v5_1) else (if (f_J6_bitCount_0f7a4 v6_1) = v1_1 then (jgd v4_1 49 (if ((M 14 0 (Int32.toNatClampNeg v4_1)) &&& (v6_1 ^^^ (-1))) = 0 then (jb (f_X3_openCells M v6_1) fun r3 => (jb (f_X3_shortestOver r3 v3_1 v4_1) fun r4 => (if r4 = (-9) then ((f_X3_shortestAt_l7 M v1_1 v2_1 v3_1 v4_1 k_1) v5_1 (v6_1 + 1)) else (if v5_1 = (-9) then ((f_X3_shortestAt_l7 M v1_1 v2_1 v3_1 v4_1 k_1) r4 (v6_1 + 1)) else (if v5_1 ≤ r4 then ((f_X3_shortestAt_l7 M v1_1 v2_1 v3_1 v4_1 k_1) v5_1 (v6_1 + 1)) else ((f_X3_shortestAt_l7 M v1_1 v2_1 v3_1 v4_1 k_1) r4 (v6_1 + 1))))))) else ((f_X3_shortestAt_l7 M v1_1 v2_1 v3_1 v4_1 k_1) v5_1 (v6_1 + 1)))) else ((f_X3_shortestAt_l7 M v1_1 v2_1 v3_1 v4_1 k_1) v5_1 (v6_1 + 1))))
def f_X3_shortestAt (M : jm) (v1 : Int32) (v2 : Int32) (v3 : Int32) (v4 : Int32) : Option Int32 := (f_X3_shortestAt_l7 M v1 v2 v3 v4 10000 (-9) 0)
set_option maxRecDepth 100000 in
theorem m_X3_shortestAt (l : Launch) (X : jX) (M : jm) (v1 : Int32) (v2 : Int32) (v3 : Int32) (v4 : Int32) (r : Int32) (h : f_X3_shortestAt M v1 v2 v3 v4 = some r) : Met l yX3_shortestAt (jws yX3_shortestAt cX3_shortestAt 8 (some .int)) (jrm 3 71) (va_Pc [.ref (jO X 14), .int v1, .int v2, .int v3, .int v4] (jB X M)) (jQ (.int r)) 0 0 (fun _ => False) := by
  refine jm_of (by decide) (Nat.le_of_ble_eq_true rfl) ?_
  intro p e s m args below meth c ls S hr hlocks hB hl
  have S : CallFix p m c cX3_shortestAt 8 s args jtb RX3 := S
  obtain ⟨hx, hb, hml, hown, hts⟩ := id S
  obtain ⟨hP, hK⟩ := hB
  have hN := hK.2
  have hl : lv_has ls 8 [(0, .ref (jO X 14)), (1, .int v1), (2, .int v2), (3, .int v3), (4, .int v4)] := hl
  refine lv_bipush (v := (-9)) hx hb dX3_shortestAt_0 jcb_m9 ?_
  refine lv_istore (lv' := [(5, .int (-9)), (0, .ref (jO X 14)), (1, .int v1), (2, .int v2), (3, .int v3), (4, .int v4)]) hx hb dX3_shortestAt_2 hl (Nat.le_of_ble_eq_true rfl) rfl (fun ls hl => ?_)
  refine lv_iconst (v := 0) hx hb dX3_shortestAt_4 jci_0 ?_
  refine lv_istore (lv' := [(6, .int 0), (5, .int (-9)), (0, .ref (jO X 14)), (1, .int v1), (2, .int v2), (3, .int v3), (4, .int v4)]) hx hb dX3_shortestAt_5 hl (Nat.le_of_ble_eq_true rfl) rfl (fun ls hl => ?_)
  have L7 : ∀ (v1_1 : Int32) (v2_1 : Int32) (v3_1 : Int32) (v4_1 : Int32) (k_1 : Nat) (v5_1 : Int32) (v6_1 : Int32) (ls : Array Slot), f_X3_shortestAt_l7 M v1_1 v2_1 v3_1 v4_1 k_1 v5_1 v6_1 = some r → lv_has ls 8 [(0, .ref (jO X 14)), (1, .int v1_1), (2, .int v2_1), (3, .int v3_1), (4, .int v4_1), (5, .int v5_1), (6, .int v6_1)] → W p l e (jrm 3 71) s m args below meth c s.heap [] 0 0 (MQ below (jQ (.int r)) args s 0 0 (fun _ => False)) (F0 m 7 ls []) := by
    intro v1_1 v2_1 v3_1 v4_1 k_1
    induction k_1 with
    | zero => intro v5_1 v6_1 ls h; exact jh_0 h
    | succ k_1 ih7 =>
      intro v5_1 v6_1 ls h hl
      refine lv_iload hx hb dX3_shortestAt_7 (lv_at hl 6 rfl) ?_
      refine lv_iconst (v := 1) hx hb dX3_shortestAt_9 jci_1 ?_
      refine lv_iload_n hx hb dX3_shortestAt_10 rfl (lv_at hl 2 rfl) ?_
      refine lv_ishl hx hb dX3_shortestAt_11 ?_
      refine lv_icmp_ge (tgt := 87) hx hb dX3_shortestAt_12 rfl (fun c12 => ?_) (fun c12 => ?_)
      · replace h := jh_t h c12
        refine lv_iload hx hb dX3_shortestAt_87 (lv_at hl 5 rfl) ?_
        exact je_i hx hb hr hlocks (Option.some.inj h) dX3_shortestAt_89
      · replace h := jh_f h c12
        refine lv_iload hx hb dX3_shortestAt_15 (lv_at hl 6 rfl) ?_
        refine jr_kp (jr_rs (As := [.int v6_1]) (rest := []) S hN (m_J6_bitCount_0f7a4 l v6_1 _ rfl) jw_J6_bitCount_0f7a4 js_J6_bitCount_0f7a4 jmX3_44 rfl rfl ⟨(Nat.le_of_ble_eq_true rfl), (Nat.le_of_ble_eq_true rfl)⟩ rfl hl.1 rfl (Nat.le_of_ble_eq_true rfl) dX3_shortestAt_17 ⟨Nat.zero_le _, Nat.zero_le _⟩) ?_
        refine lv_iload_n hx hb dX3_shortestAt_20 rfl (lv_at hl 1 rfl) ?_
        refine lv_icmp_ne (tgt := 81) hx hb dX3_shortestAt_21 rfl (fun c21 => ?_) (fun c21 => ?_)
        · replace h := jh_f h c21
          refine lv_iinc (v := (v6_1 + 1)) (lv' := [(6, .int (v6_1 + 1)), (0, .ref (jO X 14)), (1, .int v1_1), (2, .int v2_1), (3, .int v3_1), (4, .int v4_1), (5, .int v5_1)]) hx hb dX3_shortestAt_81 hl (k := 6) rfl (congrArg _ jci_1) (Nat.le_of_ble_eq_true rfl) rfl (fun ls hl => ?_)
          refine lv_goto (tgt := 7) hx hb dX3_shortestAt_84 rfl ?_
          exact ih7 v5_1 (v6_1 + 1) _ h (lv_sub hl [1, 2, 3, 4, 5, 6, 0] rfl)
        · replace h := jh_t h c21
          refine lv_aload_n hx hb dX3_shortestAt_24 rfl (lv_at hl 0 rfl) ?_
          refine jr_get (k := 0) hx hb hts hown hK hP jb_14 (Nat.le_of_ble_eq_true rfl) jlX3_11 rfl dX3_shortestAt_25 ?_
          refine lv_iload hx hb dX3_shortestAt_28 (lv_at hl 4 rfl) ?_
          obtain ⟨g30, h⟩ := jh_gd h
          refine jr_ald (n := 49) hx hb hK hP jb_14 rfl g30 dX3_shortestAt_30 ?_
          refine lv_iload hx hb dX3_shortestAt_31 (lv_at hl 6 rfl) ?_
          refine lv_iconst (v := (-1)) hx hb dX3_shortestAt_33 jci_m1 ?_
          refine lv_ixor hx hb dX3_shortestAt_34 ?_
          refine lv_iand hx hb dX3_shortestAt_35 ?_
          refine lv_if_eq (tgt := 42) hx hb dX3_shortestAt_36 rfl (fun c36 => ?_) (fun c36 => ?_)
          · replace h := jh_t h c36
            refine lv_aload_n hx hb dX3_shortestAt_42 rfl (lv_at hl 0 rfl) ?_
            refine lv_iload hx hb dX3_shortestAt_43 (lv_at hl 6 rfl) ?_
            obtain ⟨r3, e3, h⟩ := jh_b h
            refine jr_kp (jr_rv (As := [.int v6_1]) (rest := []) S hK hP jb_14 rfl (m_X3_openCells l X M v6_1 r3 e3) jw_X3_openCells ji_X3_openCells jmX3_50 rfl rfl ⟨(Nat.le_of_ble_eq_true rfl), (Nat.le_of_ble_eq_true rfl)⟩ rfl hl.1 rfl (Nat.le_of_ble_eq_true rfl) dX3_shortestAt_45 ⟨Nat.zero_le _, Nat.zero_le _⟩) ?_
            refine lv_iload_n hx hb dX3_shortestAt_48 rfl (lv_at hl 3 rfl) ?_
            refine lv_iload hx hb dX3_shortestAt_49 (lv_at hl 4 rfl) ?_
            obtain ⟨r4, e4, h⟩ := jh_b h
            refine jr_kp (jr_rs (As := [.long r3, .int v3_1, .int v4_1]) (rest := []) S hN (m_X3_shortestOver l r3 v3_1 v4_1 r4 e4) jw_X3_shortestOver js_X3_shortestOver jmX3_54 rfl rfl ⟨(Nat.le_of_ble_eq_true rfl), (Nat.le_of_ble_eq_true rfl)⟩ rfl hl.1 rfl (Nat.le_of_ble_eq_true rfl) dX3_shortestAt_51 ⟨Nat.zero_le _, Nat.zero_le _⟩) ?_
            refine lv_istore (lv' := [(7, .int r4), (0, .ref (jO X 14)), (1, .int v1_1), (2, .int v2_1), (3, .int v3_1), (4, .int v4_1), (5, .int v5_1), (6, .int v6_1)]) hx hb dX3_shortestAt_54 hl (Nat.le_of_ble_eq_true rfl) rfl (fun ls hl => ?_)
            refine lv_iload hx hb dX3_shortestAt_56 (lv_at hl 0 rfl) ?_
            refine lv_bipush (v := (-9)) hx hb dX3_shortestAt_58 jcb_m9 ?_
            refine lv_icmp_eq (tgt := 81) hx hb dX3_shortestAt_60 rfl (fun c60 => ?_) (fun c60 => ?_)
            · replace h := jh_t h c60
              refine lv_iinc (v := (v6_1 + 1)) (lv' := [(6, .int (v6_1 + 1)), (7, .int r4), (0, .ref (jO X 14)), (1, .int v1_1), (2, .int v2_1), (3, .int v3_1), (4, .int v4_1), (5, .int v5_1)]) hx hb dX3_shortestAt_81 hl (k := 7) rfl (congrArg _ jci_1) (Nat.le_of_ble_eq_true rfl) rfl (fun ls hl => ?_)
              refine lv_goto (tgt := 7) hx hb dX3_shortestAt_84 rfl ?_
              exact ih7 v5_1 (v6_1 + 1) _ h (lv_sub hl [2, 3, 4, 5, 6, 7, 0] rfl)
            · replace h := jh_f h c60
              refine lv_iload hx hb dX3_shortestAt_63 (lv_at hl 6 rfl) ?_
              refine lv_bipush (v := (-9)) hx hb dX3_shortestAt_65 jcb_m9 ?_
              refine lv_icmp_eq (tgt := 77) hx hb dX3_shortestAt_67 rfl (fun c67 => ?_) (fun c67 => ?_)
              · replace h := jh_t h c67
                refine lv_iload hx hb dX3_shortestAt_77 (lv_at hl 0 rfl) ?_
                refine lv_istore (lv' := [(5, .int r4), (7, .int r4), (0, .ref (jO X 14)), (1, .int v1_1), (2, .int v2_1), (3, .int v3_1), (4, .int v4_1), (6, .int v6_1)]) hx hb dX3_shortestAt_79 hl (Nat.le_of_ble_eq_true rfl) rfl (fun ls hl => ?_)
                refine lv_iinc (v := (v6_1 + 1)) (lv' := [(6, .int (v6_1 + 1)), (5, .int r4), (7, .int r4), (0, .ref (jO X 14)), (1, .int v1_1), (2, .int v2_1), (3, .int v3_1), (4, .int v4_1)]) hx hb dX3_shortestAt_81 hl (k := 7) rfl (congrArg _ jci_1) (Nat.le_of_ble_eq_true rfl) rfl (fun ls hl => ?_)
                refine lv_goto (tgt := 7) hx hb dX3_shortestAt_84 rfl ?_
                exact ih7 r4 (v6_1 + 1) _ h (lv_sub hl [3, 4, 5, 6, 7, 1, 0] rfl)
              · replace h := jh_f h c67
                refine lv_iload hx hb dX3_shortestAt_70 (lv_at hl 0 rfl) ?_
                refine lv_iload hx hb dX3_shortestAt_72 (lv_at hl 6 rfl) ?_
                refine lv_icmp_ge (tgt := 81) hx hb dX3_shortestAt_74 rfl (fun c74 => ?_) (fun c74 => ?_)
                · replace h := jh_t h c74
                  refine lv_iinc (v := (v6_1 + 1)) (lv' := [(6, .int (v6_1 + 1)), (7, .int r4), (0, .ref (jO X 14)), (1, .int v1_1), (2, .int v2_1), (3, .int v3_1), (4, .int v4_1), (5, .int v5_1)]) hx hb dX3_shortestAt_81 hl (k := 7) rfl (congrArg _ jci_1) (Nat.le_of_ble_eq_true rfl) rfl (fun ls hl => ?_)
                  refine lv_goto (tgt := 7) hx hb dX3_shortestAt_84 rfl ?_
                  exact ih7 v5_1 (v6_1 + 1) _ h (lv_sub hl [2, 3, 4, 5, 6, 7, 0] rfl)
                · replace h := jh_f h c74
                  refine lv_iload hx hb dX3_shortestAt_77 (lv_at hl 0 rfl) ?_
                  refine lv_istore (lv' := [(5, .int r4), (7, .int r4), (0, .ref (jO X 14)), (1, .int v1_1), (2, .int v2_1), (3, .int v3_1), (4, .int v4_1), (6, .int v6_1)]) hx hb dX3_shortestAt_79 hl (Nat.le_of_ble_eq_true rfl) rfl (fun ls hl => ?_)
                  refine lv_iinc (v := (v6_1 + 1)) (lv' := [(6, .int (v6_1 + 1)), (5, .int r4), (7, .int r4), (0, .ref (jO X 14)), (1, .int v1_1), (2, .int v2_1), (3, .int v3_1), (4, .int v4_1)]) hx hb dX3_shortestAt_81 hl (k := 7) rfl (congrArg _ jci_1) (Nat.le_of_ble_eq_true rfl) rfl (fun ls hl => ?_)
                  refine lv_goto (tgt := 7) hx hb dX3_shortestAt_84 rfl ?_
                  exact ih7 r4 (v6_1 + 1) _ h (lv_sub hl [3, 4, 5, 6, 7, 1, 0] rfl)
          · replace h := jh_f h c36
            refine lv_goto (tgt := 81) hx hb dX3_shortestAt_39 rfl ?_
            refine lv_iinc (v := (v6_1 + 1)) (lv' := [(6, .int (v6_1 + 1)), (0, .ref (jO X 14)), (1, .int v1_1), (2, .int v2_1), (3, .int v3_1), (4, .int v4_1), (5, .int v5_1)]) hx hb dX3_shortestAt_81 hl (k := 6) rfl (congrArg _ jci_1) (Nat.le_of_ble_eq_true rfl) rfl (fun ls hl => ?_)
            refine lv_goto (tgt := 7) hx hb dX3_shortestAt_84 rfl ?_
            exact ih7 v5_1 (v6_1 + 1) _ h (lv_sub hl [1, 2, 3, 4, 5, 6, 0] rfl)
  exact L7 v1 v2 v3 v4 10000 (-9) 0 _ h (lv_sub hl [2, 3, 4, 5, 6, 1, 0] rfl)
def f_X3_find_l77 (o1 : Nat) (v3_3 : Int32) (v4_3 : Int32) (v6_3 : Int32) : Nat → jm → Int32 → Option jm
  | 0, _, _ => none
  | k_3 + 1, M_3, v7_3 => (if v6_3 ≤ v7_3 then (some (ju (ju M_3 14 1 0 v6_3) 14 2 0 (f_X5_steps v4_3 v3_3))) else (jb (f_X3_shortestAt (ju M_3 14 1 0 v7_3) v7_3 v6_3 v4_3 v3_3) fun r5 => (if ((ju (ju M_3 14 1 0 v7_3) 14 2 0 r5) 14 2 0) = (-9) then ((f_X3_find_l77 o1 v3_3 v4_3 v6_3 k_3) (ju (ju M_3 14 1 0 v7_3) 14 2 0 r5) (v7_3 + 1)) else (some (ju (ju M_3 14 1 0 v7_3) 14 2 0 r5)))))
def f_X3_find_l19 (o1 : Nat) (v2_2 : Int32) (v3_2 : Int32) (v4_2 : Int32) (v5_2 : Int32) : Nat → jm → Int32 → Option jm
  | 0, _, _ => none
  | k_2 + 1, M_2, v6_2 => (if 49 ≤ v6_2 then (if v4_2 = v3_2 then (some (ju (ju M_2 14 1 0 0) 14 2 0 0)) else (f_X3_find_l77 o1 v3_2 v4_2 ((ju (ju M_2 14 1 0 0) 14 2 0 0) o1 0 0) 10000 (ju (ju M_2 14 1 0 0) 14 2 0 0) 0)) else (jb (f_X4_seesFrom M_2 o1 v2_2 v6_2) fun r6 => (jgd v6_2 49 ((f_X3_find_l19 o1 v2_2 v3_2 v4_2 v5_2 k_2) (ju M_2 14 0 (Int32.toNatClampNeg v6_2) (r6 &&& (v5_2 ^^^ (-1)))) (v6_2 + 1)))))
def f_X3_find (M : jm) (o1 : Nat) (v2 : Int32) (v3 : Int32) : Option jm := (jgd v2 6 (jb (f_X4_owesBehind M o1 v2 0) fun r1 => (f_X3_find_l19 o1 v2 v3 (M o1 6 (Int32.toNatClampNeg v2)) r1 10000 M 0)))
set_option maxRecDepth 100000 in
theorem m_X3_find (l : Launch) (X : jX) (A : Nat → Prop) (hs : jst X A) (M : jm) {o1 : Nat} (hj1 : job o1 4) (v2 : Int32) (v3 : Int32) (N : jm) (h : f_X3_find M o1 v2 v3 = some N) : Met l yX3_find (jws yX3_find cX3_find 8 none) (jrm 5 119) (va_Pc [.ref (jO X 14), .ref (jO X o1), .int v2, .int v3] (jB X M)) (jQm X A none N) 0 0 A := by
  refine jm_of (by decide) (Nat.le_of_ble_eq_true rfl) ?_
  intro p e s m args below meth c ls S hr hlocks hB hl
  have S : CallFix p m c cX3_find 8 s args jtb RX3 := S
  obtain ⟨hx, hb, hml, hown, hts⟩ := id S
  obtain ⟨hP, hK⟩ := hB
  have hN := hK.2
  have hS : va_S A s.heap s.heap [] := va_S.rf
  have hl : lv_has ls 8 [(0, .ref (jO X 14)), (1, .ref (jO X o1)), (2, .int v2), (3, .int v3)] := hl
  refine lv_aload_n hx hb dX3_find_0 rfl (lv_at hl 1 rfl) ?_
  refine jr_get (k := 6) hx hb hts hown hK hP hj1 (Nat.le_of_ble_eq_true rfl) jlX3_15 rfl dX3_find_1 ?_
  refine lv_iload_n hx hb dX3_find_4 rfl (lv_at hl 2 rfl) ?_
  obtain ⟨g5, h⟩ := jh_gd h
  refine jr_ald (n := 6) hx hb hK hP hj1 rfl g5 dX3_find_5 ?_
  refine lv_istore (lv' := [(4, .int (M o1 6 (Int32.toNatClampNeg v2))), (0, .ref (jO X 14)), (1, .ref (jO X o1)), (2, .int v2), (3, .int v3)]) hx hb dX3_find_6 hl (Nat.le_of_ble_eq_true rfl) rfl (fun ls hl => ?_)
  refine lv_aload_n hx hb dX3_find_8 rfl (lv_at hl 2 rfl) ?_
  refine lv_iload_n hx hb dX3_find_9 rfl (lv_at hl 3 rfl) ?_
  refine lv_iconst (v := 0) hx hb dX3_find_10 jci_0 ?_
  obtain ⟨r1, e1, h⟩ := jh_b h
  refine jr_kp (jr_rv (As := [.int v2, .int 0]) (rest := []) S hK hP hj1 rfl (m_X4_owesBehind l X M hj1 v2 0 r1 e1) jw_X4_owesBehind ji_X4_owesBehind jmX3_20 rfl rfl ⟨(Nat.le_of_ble_eq_true rfl), (Nat.le_of_ble_eq_true rfl)⟩ rfl hl.1 rfl (Nat.le_of_ble_eq_true rfl) dX3_find_11 ⟨Nat.zero_le _, Nat.zero_le _⟩) ?_
  refine lv_istore (lv' := [(5, .int r1), (4, .int (M o1 6 (Int32.toNatClampNeg v2))), (0, .ref (jO X 14)), (1, .ref (jO X o1)), (2, .int v2), (3, .int v3)]) hx hb dX3_find_14 hl (Nat.le_of_ble_eq_true rfl) rfl (fun ls hl => ?_)
  refine lv_iconst (v := 0) hx hb dX3_find_16 jci_0 ?_
  refine lv_istore (lv' := [(6, .int 0), (5, .int r1), (4, .int (M o1 6 (Int32.toNatClampNeg v2))), (0, .ref (jO X 14)), (1, .ref (jO X o1)), (2, .int v2), (3, .int v3)]) hx hb dX3_find_17 hl (Nat.le_of_ble_eq_true rfl) rfl (fun ls hl => ?_)
  have L19 : ∀ (v2_2 : Int32) (v3_2 : Int32) (v4_2 : Int32) (v5_2 : Int32) (k_2 : Nat) (M_2 : jm) (H : Heap) (locs : List Loc) (v6_2 : Int32) (ls : Array Slot), f_X3_find_l19 o1 v2_2 v3_2 v4_2 v5_2 k_2 M_2 v6_2 = some N → jrp X M_2 H → va_S A s.heap H locs → lv_has ls 8 [(0, .ref (jO X 14)), (1, .ref (jO X o1)), (2, .int v2_2), (3, .int v3_2), (4, .int v4_2), (5, .int v5_2), (6, .int v6_2)] → W p l e (jrm 5 119) s m args below meth c H locs 0 0 (MQ below (jQm X A none N) args s 0 0 A) (F0 m 19 ls []) := by
    intro v2_2 v3_2 v4_2 v5_2 k_2
    induction k_2 with
    | zero => intro M_2 H locs v6_2 ls h; exact jh_0 h
    | succ k_2 ih19 =>
      intro M_2 H locs v6_2 ls h hP hS hl
      refine lv_iload hx hb dX3_find_19 (lv_at hl 6 rfl) ?_
      refine lv_bipush (v := 49) hx hb dX3_find_21 jcb_49 ?_
      refine lv_icmp_ge (tgt := 51) hx hb dX3_find_23 rfl (fun c23 => ?_) (fun c23 => ?_)
      · replace h := jh_t h c23
        refine lv_aload_n hx hb dX3_find_51 rfl (lv_at hl 0 rfl) ?_
        refine lv_iconst (v := 0) hx hb dX3_find_52 jci_0 ?_
        refine jr_put (k := 1) (z := 0) hx hb hts hown hK hP hs hS jb_14 (Nat.le_of_ble_eq_true rfl) jlX3_27 rfl (Or.inl rfl) rfl rfl rfl dX3_find_53 (fun H locs hP hS => ?_)
        refine lv_aload_n hx hb dX3_find_56 rfl (lv_at hl 0 rfl) ?_
        refine lv_iconst (v := 0) hx hb dX3_find_57 jci_0 ?_
        refine jr_put (k := 2) (z := 0) hx hb hts hown hK hP hs hS jb_14 (Nat.le_of_ble_eq_true rfl) jlX3_31 rfl (Or.inl rfl) rfl rfl rfl dX3_find_58 (fun H locs hP hS => ?_)
        refine lv_iload hx hb dX3_find_61 (lv_at hl 4 rfl) ?_
        refine lv_iload_n hx hb dX3_find_63 rfl (lv_at hl 3 rfl) ?_
        refine lv_icmp_ne (tgt := 68) hx hb dX3_find_64 rfl (fun c64 => ?_) (fun c64 => ?_)
        · replace h := jh_f h c64
          refine lv_aload_n hx hb dX3_find_68 rfl (lv_at hl 1 rfl) ?_
          refine jr_get (k := 0) hx hb hts hown hK hP hj1 (Nat.le_of_ble_eq_true rfl) jlX3_34 rfl dX3_find_69 ?_
          refine lv_istore (lv' := [(6, .int ((ju (ju M_2 14 1 0 0) 14 2 0 0) o1 0 0)), (0, .ref (jO X 14)), (1, .ref (jO X o1)), (2, .int v2_2), (3, .int v3_2), (4, .int v4_2), (5, .int v5_2)]) hx hb dX3_find_72 hl (Nat.le_of_ble_eq_true rfl) rfl (fun ls hl => ?_)
          refine lv_iconst (v := 0) hx hb dX3_find_74 jci_0 ?_
          refine lv_istore (lv' := [(7, .int 0), (6, .int ((ju (ju M_2 14 1 0 0) 14 2 0 0) o1 0 0)), (0, .ref (jO X 14)), (1, .ref (jO X o1)), (2, .int v2_2), (3, .int v3_2), (4, .int v4_2), (5, .int v5_2)]) hx hb dX3_find_75 hl (Nat.le_of_ble_eq_true rfl) rfl (fun ls hl => ?_)
          have L77 : ∀ (v3_3 : Int32) (v4_3 : Int32) (v6_3 : Int32) (k_3 : Nat) (M_3 : jm) (H : Heap) (locs : List Loc) (v7_3 : Int32) (ls : Array Slot), f_X3_find_l77 o1 v3_3 v4_3 v6_3 k_3 M_3 v7_3 = some N → jrp X M_3 H → va_S A s.heap H locs → lv_has ls 8 [(0, .ref (jO X 14)), (3, .int v3_3), (4, .int v4_3), (6, .int v6_3), (7, .int v7_3)] → W p l e (jrm 5 119) s m args below meth c H locs 0 0 (MQ below (jQm X A none N) args s 0 0 A) (F0 m 77 ls []) := by
            intro v3_3 v4_3 v6_3 k_3
            induction k_3 with
            | zero => intro M_3 H locs v7_3 ls h; exact jh_0 h
            | succ k_3 ih77 =>
              intro M_3 H locs v7_3 ls h hP hS hl
              refine lv_iload hx hb dX3_find_77 (lv_at hl 4 rfl) ?_
              refine lv_iload hx hb dX3_find_79 (lv_at hl 3 rfl) ?_
              refine lv_icmp_ge (tgt := 121) hx hb dX3_find_81 rfl (fun c81 => ?_) (fun c81 => ?_)
              · replace h := jh_t h c81
                refine lv_aload_n hx hb dX3_find_121 rfl (lv_at hl 0 rfl) ?_
                refine lv_iload hx hb dX3_find_122 (lv_at hl 3 rfl) ?_
                refine jr_put (k := 1) (z := v6_3) hx hb hts hown hK hP hs hS jb_14 (Nat.le_of_ble_eq_true rfl) jlX3_27 rfl (Or.inl rfl) rfl rfl rfl dX3_find_124 (fun H locs hP hS => ?_)
                refine lv_aload_n hx hb dX3_find_127 rfl (lv_at hl 0 rfl) ?_
                refine lv_iload hx hb dX3_find_128 (lv_at hl 2 rfl) ?_
                refine lv_iload_n hx hb dX3_find_130 rfl (lv_at hl 1 rfl) ?_
                refine jr_kp (jr_rn (As := [.int v4_3, .int v3_3]) (rest := [.ref (jO X 14)]) S hN (m_X5_steps l v4_3 v3_3 _ rfl) jw_X5_steps js_X5_steps (List.mem_of_getElem? (i := 8) rfl) rfl rfl ⟨(Nat.le_of_ble_eq_true rfl), (Nat.le_of_ble_eq_true rfl)⟩ rfl hl.1 rfl (Nat.le_of_ble_eq_true rfl) dX3_find_131 ⟨Nat.zero_le _, Nat.zero_le _⟩) ?_
                refine jr_put (k := 2) (z := (f_X5_steps v4_3 v3_3)) hx hb hts hown hK hP hs hS jb_14 (Nat.le_of_ble_eq_true rfl) jlX3_31 rfl (Or.inl rfl) rfl rfl rfl dX3_find_134 (fun H locs hP hS => ?_)
                exact je_mv hx hb hr hlocks hK hP hS h dX3_find_137
              · replace h := jh_f h c81
                refine lv_aload_n hx hb dX3_find_84 rfl (lv_at hl 0 rfl) ?_
                refine lv_iload hx hb dX3_find_85 (lv_at hl 4 rfl) ?_
                refine jr_put (k := 1) (z := v7_3) hx hb hts hown hK hP hs hS jb_14 (Nat.le_of_ble_eq_true rfl) jlX3_27 rfl (Or.inl rfl) rfl rfl rfl dX3_find_87 (fun H locs hP hS => ?_)
                refine lv_aload_n hx hb dX3_find_90 rfl (lv_at hl 0 rfl) ?_
                refine lv_aload_n hx hb dX3_find_91 rfl (lv_at hl 0 rfl) ?_
                refine lv_iload hx hb dX3_find_92 (lv_at hl 4 rfl) ?_
                refine lv_iload hx hb dX3_find_94 (lv_at hl 3 rfl) ?_
                refine lv_iload hx hb dX3_find_96 (lv_at hl 2 rfl) ?_
                refine lv_iload_n hx hb dX3_find_98 rfl (lv_at hl 1 rfl) ?_
                obtain ⟨r5, e5, h⟩ := jh_b h
                refine jr_kp (jr_rv (As := [.int v7_3, .int v6_3, .int v4_3, .int v3_3]) (rest := [.ref (jO X 14)]) S hK hP jb_14 rfl (m_X3_shortestAt l X (ju M_3 14 1 0 v7_3) v7_3 v6_3 v4_3 v3_3 r5 e5) jw_X3_shortestAt ji_X3_shortestAt jmX3_37 rfl rfl ⟨(Nat.le_of_ble_eq_true rfl), (Nat.le_of_ble_eq_true rfl)⟩ rfl hl.1 rfl (Nat.le_of_ble_eq_true rfl) dX3_find_99 ⟨Nat.zero_le _, Nat.zero_le _⟩) ?_
                refine jr_put (k := 2) (z := r5) hx hb hts hown hK hP hs hS jb_14 (Nat.le_of_ble_eq_true rfl) jlX3_31 rfl (Or.inl rfl) rfl rfl rfl dX3_find_102 (fun H locs hP hS => ?_)
                refine lv_aload_n hx hb dX3_find_105 rfl (lv_at hl 0 rfl) ?_
                refine jr_get (k := 2) hx hb hts hown hK hP jb_14 (Nat.le_of_ble_eq_true rfl) jlX3_31 rfl dX3_find_106 ?_
                refine lv_bipush (v := (-9)) hx hb dX3_find_109 jcb_m9 ?_
                refine lv_icmp_eq (tgt := 115) hx hb dX3_find_111 rfl (fun c111 => ?_) (fun c111 => ?_)
                · replace h := jh_t h c111
                  refine lv_iinc (v := (v7_3 + 1)) (lv' := [(7, .int (v7_3 + 1)), (0, .ref (jO X 14)), (3, .int v3_3), (4, .int v4_3), (6, .int v6_3)]) hx hb dX3_find_115 hl (k := 4) rfl (congrArg _ jci_1) (Nat.le_of_ble_eq_true rfl) rfl (fun ls hl => ?_)
                  refine lv_goto (tgt := 77) hx hb dX3_find_118 rfl ?_
                  exact ih77 (ju (ju M_3 14 1 0 v7_3) 14 2 0 r5) _ _ (v7_3 + 1) _ h hP hS (lv_sub hl [1, 2, 3, 4, 0] rfl)
                · replace h := jh_f h c111
                  exact je_mv hx hb hr hlocks hK hP hS h dX3_find_114
          exact L77 v3_2 v4_2 ((ju (ju M_2 14 1 0 0) 14 2 0 0) o1 0 0) 10000 (ju (ju M_2 14 1 0 0) 14 2 0 0) _ _ 0 _ h hP hS (lv_sub hl [2, 5, 6, 1, 0] rfl)
        · replace h := jh_t h c64
          exact je_mv hx hb hr hlocks hK hP hS h dX3_find_67
      · replace h := jh_f h c23
        refine lv_aload_n hx hb dX3_find_26 rfl (lv_at hl 0 rfl) ?_
        refine jr_get (k := 0) hx hb hts hown hK hP jb_14 (Nat.le_of_ble_eq_true rfl) jlX3_11 rfl dX3_find_27 ?_
        refine lv_iload hx hb dX3_find_30 (lv_at hl 6 rfl) ?_
        refine lv_aload_n hx hb dX3_find_32 rfl (lv_at hl 1 rfl) ?_
        refine lv_iload_n hx hb dX3_find_33 rfl (lv_at hl 2 rfl) ?_
        refine lv_iload hx hb dX3_find_34 (lv_at hl 6 rfl) ?_
        obtain ⟨r6, e6, h⟩ := jh_b h
        refine jr_kp (jr_rv (As := [.int v2_2, .int v6_2]) (rest := [.int v6_2, .ref (jA X 14 0)]) S hK hP hj1 rfl (m_X4_seesFrom l X M_2 hj1 v2_2 v6_2 r6 e6) jw_X4_seesFrom ji_X4_seesFrom jmX3_24 rfl rfl ⟨(Nat.le_of_ble_eq_true rfl), (Nat.le_of_ble_eq_true rfl)⟩ rfl hl.1 rfl (Nat.le_of_ble_eq_true rfl) dX3_find_36 ⟨Nat.zero_le _, Nat.zero_le _⟩) ?_
        refine lv_iload hx hb dX3_find_39 (lv_at hl 5 rfl) ?_
        refine lv_iconst (v := (-1)) hx hb dX3_find_41 jci_m1 ?_
        refine lv_ixor hx hb dX3_find_42 ?_
        refine lv_iand hx hb dX3_find_43 ?_
        obtain ⟨g44, h⟩ := jh_gd h
        refine jr_ast (n := 49) hx hb hK hP hs hS jb_14 rfl g44 dX3_find_44 (fun H locs hP hS => ?_)
        refine lv_iinc (v := (v6_2 + 1)) (lv' := [(6, .int (v6_2 + 1)), (0, .ref (jO X 14)), (1, .ref (jO X o1)), (2, .int v2_2), (3, .int v3_2), (4, .int v4_2), (5, .int v5_2)]) hx hb dX3_find_45 hl (k := 6) rfl (congrArg _ jci_1) (Nat.le_of_ble_eq_true rfl) rfl (fun ls hl => ?_)
        refine lv_goto (tgt := 19) hx hb dX3_find_48 rfl ?_
        exact ih19 (ju M_2 14 0 (Int32.toNatClampNeg v6_2) (r6 &&& (v5_2 ^^^ (-1)))) _ _ (v6_2 + 1) _ h hP hS (lv_sub hl [1, 2, 3, 4, 5, 6, 0] rfl)
  exact L19 v2 v3 (M o1 6 (Int32.toNatClampNeg v2)) r1 10000 M _ _ 0 _ h hP hS (lv_sub hl [3, 4, 5, 6, 2, 1, 0] rfl)
