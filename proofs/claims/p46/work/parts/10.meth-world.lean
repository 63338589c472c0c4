def f_X4_become (M : jm) (o : Nat) (o1 : Nat) : Option jm := (some (ju (jcp (jcp (jcp (jcp (ju (ju (jcp (jcp (jcp (ju M o 0 0 (M o1 0 0)) o 1 o1) o 2 o1) o 3 o1) o 4 0 ((jcp (jcp (jcp (ju M o 0 0 (M o1 0 0)) o 1 o1) o 2 o1) o 3 o1) o1 4 0)) o 5 0 ((ju (jcp (jcp (jcp (ju M o 0 0 (M o1 0 0)) o 1 o1) o 2 o1) o 3 o1) o 4 0 ((jcp (jcp (jcp (ju M o 0 0 (M o1 0 0)) o 1 o1) o 2 o1) o 3 o1) o1 4 0)) o1 5 0)) o 6 o1) o 7 o1) o 8 o1) o 9 o1) o 10 0 ((jcp (jcp (jcp (jcp (ju (ju (jcp (jcp (jcp (ju M o 0 0 (M o1 0 0)) o 1 o1) o 2 o1) o 3 o1) o 4 0 ((jcp (jcp (jcp (ju M o 0 0 (M o1 0 0)) o 1 o1) o 2 o1) o 3 o1) o1 4 0)) o 5 0 ((ju (jcp (jcp (jcp (ju M o 0 0 (M o1 0 0)) o 1 o1) o 2 o1) o 3 o1) o 4 0 ((jcp (jcp (jcp (ju M o 0 0 (M o1 0 0)) o 1 o1) o 2 o1) o 3 o1) o1 4 0)) o1 5 0)) o 6 o1) o 7 o1) o 8 o1) o 9 o1) o1 10 0)))
set_option maxRecDepth 100000 in
theorem m_X4_become (l : Launch) (X : jX) (A : Nat → Prop) (hs : jst X A) (M : jm) {o : Nat} (hj : job o 4) {o1 : Nat} (hj1 : job o1 4) (N : jm) (h : f_X4_become M o o1 = some N) : Met l yX4_become (jws yX4_become cX4_become 2 none) (jrm 1 40) (va_Pc [.ref (jO X o), .ref (jO X o1)] (jB X M)) (jQm X A none N) 0 0 A := by
  refine jm_of (by decide) (Nat.le_of_ble_eq_true rfl) ?_
  intro p e s m args below meth c ls S hr hlocks hB hl
  have S : CallFix p m c cX4_become 2 s args jtb RX4 := S
  obtain ⟨hx, hb, hml, hown, hts⟩ := id S
  obtain ⟨hP, hK⟩ := hB
  have hN := hK.2
  have hS : va_S A s.heap s.heap [] := va_S.rf
  have hl : lv_has ls 2 [(0, .ref (jO X o)), (1, .ref (jO X o1))] := hl
  refine lv_aload_n hx hb dX4_become_0 rfl (lv_at hl 0 rfl) ?_
  refine lv_aload_n hx hb dX4_become_1 rfl (lv_at hl 1 rfl) ?_
  refine jr_get (k := 0) hx hb hts hown hK hP hj1 (Nat.le_of_ble_eq_true rfl) jlX4_39 rfl dX4_become_2 ?_
  refine jr_put (k := 0) (z := (M o1 0 0)) hx hb hts hown hK hP hs hS hj (Nat.le_of_ble_eq_true rfl) jlX4_39 rfl (Or.inl rfl) rfl rfl rfl dX4_become_5 (fun H locs hP hS => ?_)
  refine lv_aload_n hx hb dX4_become_8 rfl (lv_at hl 1 rfl) ?_
  refine jr_get (k := 1) hx hb hts hown hK hP hj1 (Nat.le_of_ble_eq_true rfl) jlX4_9 rfl dX4_become_9 ?_
  refine lv_iconst (v := 0) hx hb dX4_become_12 jci_0 ?_
  refine lv_aload_n hx hb dX4_become_13 rfl (lv_at hl 0 rfl) ?_
  refine jr_get (k := 1) hx hb hts hown hK hP hj (Nat.le_of_ble_eq_true rfl) jlX4_9 rfl dX4_become_14 ?_
  refine lv_iconst (v := 0) hx hb dX4_become_17 jci_0 ?_
  refine lv_bipush (v := 8) hx hb dX4_become_18 jcb_8 ?_
  refine jr_copy (n := 8) hx hb (hml.trans hl.1.symm) hts hown jmX4_43 jnatS jstS jinS hK hP hs hS hj hj1 rfl (by decide) (by decide) rfl (Nat.le_of_ble_eq_true rfl) (Nat.le_of_ble_eq_true rfl) dX4_become_20 (fun H locs hP hS => ?_)
  refine lv_aload_n hx hb dX4_become_23 rfl (lv_at hl 1 rfl) ?_
  refine jr_get (k := 2) hx hb hts hown hK hP hj1 (Nat.le_of_ble_eq_true rfl) jlX4_15 rfl dX4_become_24 ?_
  refine lv_iconst (v := 0) hx hb dX4_become_27 jci_0 ?_
  refine lv_aload_n hx hb dX4_become_28 rfl (lv_at hl 0 rfl) ?_
  refine jr_get (k := 2) hx hb hts hown hK hP hj (Nat.le_of_ble_eq_true rfl) jlX4_15 rfl dX4_become_29 ?_
  refine lv_iconst (v := 0) hx hb dX4_become_32 jci_0 ?_
  refine lv_bipush (v := 8) hx hb dX4_become_33 jcb_8 ?_
  refine jr_copy (n := 8) hx hb (hml.trans hl.1.symm) hts hown jmX4_43 jnatS jstS jinS hK hP hs hS hj hj1 rfl (by decide) (by decide) rfl (Nat.le_of_ble_eq_true rfl) (Nat.le_of_ble_eq_true rfl) dX4_become_35 (fun H locs hP hS => ?_)
  refine lv_aload_n hx hb dX4_become_38 rfl (lv_at hl 1 rfl) ?_
  refine jr_get (k := 3) hx hb hts hown hK hP hj1 (Nat.le_of_ble_eq_true rfl) jlX4_18 rfl dX4_become_39 ?_
  refine lv_iconst (v := 0) hx hb dX4_become_42 jci_0 ?_
  refine lv_aload_n hx hb dX4_become_43 rfl (lv_at hl 0 rfl) ?_
  refine jr_get (k := 3) hx hb hts hown hK hP hj (Nat.le_of_ble_eq_true rfl) jlX4_18 rfl dX4_become_44 ?_
  refine lv_iconst (v := 0) hx hb dX4_become_47 jci_0 ?_
  refine lv_bipush (v := 8) hx hb dX4_become_48 jcb_8 ?_
  refine jr_copy (n := 8) hx hb (hml.trans hl.1.symm) hts hown jmX4_43 jnatS jstS jinS hK hP hs hS hj hj1 rfl (by decide) (by decide) rfl (Nat.le_of_ble_eq_true rfl) (Nat.le_of_ble_eq_true rfl) dX4_become_50 (fun H locs hP hS => ?_)
  refine lv_aload_n hx hb dX4_become_53 rfl (lv_at hl 0 rfl) ?_
  refine lv_aload_n hx hb dX4_become_54 rfl (lv_at hl 1 rfl) ?_
  refine jr_get (k := 4) hx hb hts hown hK hP hj1 (Nat.le_of_ble_eq_true rfl) jlX4_49 rfl dX4_become_55 ?_
  refine jr_put (k := 4) (z := ((jcp (jcp (jcp (ju M o 0 0 (M o1 0 0)) o 1 o1) o 2 o1) o 3 o1) o1 4 0)) hx hb hts hown hK hP hs hS hj (Nat.le_of_ble_eq_true rfl) jlX4_49 rfl (Or.inl rfl) rfl rfl rfl dX4_become_58 (fun H locs hP hS => ?_)
  refine lv_aload_n hx hb dX4_become_61 rfl (lv_at hl 0 rfl) ?_
  refine lv_aload_n hx hb dX4_become_62 rfl (lv_at hl 1 rfl) ?_
  refine jr_get (k := 5) hx hb hts hown hK hP hj1 (Nat.le_of_ble_eq_true rfl) jlX4_52 rfl dX4_become_63 ?_
  refine jr_put (k := 5) (z := ((ju (jcp (jcp (jcp (ju M o 0 0 (M o1 0 0)) o 1 o1) o 2 o1) o 3 o1) o 4 0 ((jcp (jcp (jcp (ju M o 0 0 (M o1 0 0)) o 1 o1) o 2 o1) o 3 o1) o1 4 0)) o1 5 0)) hx hb hts hown hK hP hs hS hj (Nat.le_of_ble_eq_true rfl) jlX4_52 rfl (Or.inl rfl) rfl rfl rfl dX4_become_66 (fun H locs hP hS => ?_)
  refine lv_aload_n hx hb dX4_become_69 rfl (lv_at hl 1 rfl) ?_
  refine jr_get (k := 6) hx hb hts hown hK hP hj1 (Nat.le_of_ble_eq_true rfl) jlX4_21 rfl dX4_become_70 ?_
  refine lv_iconst (v := 0) hx hb dX4_become_73 jci_0 ?_
  refine lv_aload_n hx hb dX4_become_74 rfl (lv_at hl 0 rfl) ?_
  refine jr_get (k := 6) hx hb hts hown hK hP hj (Nat.le_of_ble_eq_true rfl) jlX4_21 rfl dX4_become_75 ?_
  refine lv_iconst (v := 0) hx hb dX4_become_78 jci_0 ?_
  refine lv_bipush (v := 6) hx hb dX4_become_79 jcb_6 ?_
  refine jr_copy (n := 6) hx hb (hml.trans hl.1.symm) hts hown jmX4_43 jnatS jstS jinS hK hP hs hS hj hj1 rfl (by decide) (by decide) rfl (Nat.le_of_ble_eq_true rfl) (Nat.le_of_ble_eq_true rfl) dX4_become_81 (fun H locs hP hS => ?_)
  refine lv_aload_n hx hb dX4_become_84 rfl (lv_at hl 1 rfl) ?_
  refine jr_get (k := 7) hx hb hts hown hK hP hj1 (Nat.le_of_ble_eq_true rfl) jlX4_24 rfl dX4_become_85 ?_
  refine lv_iconst (v := 0) hx hb dX4_become_88 jci_0 ?_
  refine lv_aload_n hx hb dX4_become_89 rfl (lv_at hl 0 rfl) ?_
  refine jr_get (k := 7) hx hb hts hown hK hP hj (Nat.le_of_ble_eq_true rfl) jlX4_24 rfl dX4_become_90 ?_
  refine lv_iconst (v := 0) hx hb dX4_become_93 jci_0 ?_
  refine lv_bipush (v := 6) hx hb dX4_become_94 jcb_6 ?_
  refine jr_copy (n := 6) hx hb (hml.trans hl.1.symm) hts hown jmX4_43 jnatS jstS jinS hK hP hs hS hj hj1 rfl (by decide) (by decide) rfl (Nat.le_of_ble_eq_true rfl) (Nat.le_of_ble_eq_true rfl) dX4_become_96 (fun H locs hP hS => ?_)
  refine lv_aload_n hx hb dX4_become_99 rfl (lv_at hl 1 rfl) ?_
  refine jr_get (k := 8) hx hb hts hown hK hP hj1 (Nat.le_of_ble_eq_true rfl) jlX4_27 rfl dX4_become_100 ?_
  refine lv_iconst (v := 0) hx hb dX4_become_103 jci_0 ?_
  refine lv_aload_n hx hb dX4_become_104 rfl (lv_at hl 0 rfl) ?_
  refine jr_get (k := 8) hx hb hts hown hK hP hj (Nat.le_of_ble_eq_true rfl) jlX4_27 rfl dX4_become_105 ?_
  refine lv_iconst (v := 0) hx hb dX4_become_108 jci_0 ?_
  refine lv_bipush (v := 6) hx hb dX4_become_109 jcb_6 ?_
  refine jr_copy (n := 6) hx hb (hml.trans hl.1.symm) hts hown jmX4_43 jnatS jstS jinS hK hP hs hS hj hj1 rfl (by decide) (by decide) rfl (Nat.le_of_ble_eq_true rfl) (Nat.le_of_ble_eq_true rfl) dX4_become_111 (fun H locs hP hS => ?_)
  refine lv_aload_n hx hb dX4_become_114 rfl (lv_at hl 1 rfl) ?_
  refine jr_get (k := 9) hx hb hts hown hK hP hj1 (Nat.le_of_ble_eq_true rfl) jlX4_30 rfl dX4_become_115 ?_
  refine lv_iconst (v := 0) hx hb dX4_become_118 jci_0 ?_
  refine lv_aload_n hx hb dX4_become_119 rfl (lv_at hl 0 rfl) ?_
  refine jr_get (k := 9) hx hb hts hown hK hP hj (Nat.le_of_ble_eq_true rfl) jlX4_30 rfl dX4_become_120 ?_
  refine lv_iconst (v := 0) hx hb dX4_become_123 jci_0 ?_
  refine lv_bipush (v := 48) hx hb dX4_become_124 jcb_48 ?_
  refine jr_copy (n := 48) hx hb (hml.trans hl.1.symm) hts hown jmX4_43 jnatS jstS jinS hK hP hs hS hj hj1 rfl (by decide) (by decide) rfl (Nat.le_of_ble_eq_true rfl) (Nat.le_of_ble_eq_true rfl) dX4_become_126 (fun H locs hP hS => ?_)
  refine lv_aload_n hx hb dX4_become_129 rfl (lv_at hl 0 rfl) ?_
  refine lv_aload_n hx hb dX4_become_130 rfl (lv_at hl 1 rfl) ?_
  refine jr_get (k := 10) hx hb hts hown hK hP hj1 (Nat.le_of_ble_eq_true rfl) jlX4_55 rfl dX4_become_131 ?_
  refine jr_put (k := 10) (z := ((jcp (jcp (jcp (jcp (ju (ju (jcp (jcp (jcp (ju M o 0 0 (M o1 0 0)) o 1 o1) o 2 o1) o 3 o1) o 4 0 ((jcp (jcp (jcp (ju M o 0 0 (M o1 0 0)) o 1 o1) o 2 o1) o 3 o1) o1 4 0)) o 5 0 ((ju (jcp (jcp (jcp (ju M o 0 0 (M o1 0 0)) o 1 o1) o 2 o1) o 3 o1) o 4 0 ((jcp (jcp (jcp (ju M o 0 0 (M o1 0 0)) o 1 o1) o 2 o1) o 3 o1) o1 4 0)) o1 5 0)) o 6 o1) o 7 o1) o 8 o1) o 9 o1) o1 10 0)) hx hb hts hown hK hP hs hS hj (Nat.le_of_ble_eq_true rfl) jlX4_55 rfl (Or.inl rfl) rfl rfl rfl dX4_become_134 (fun H locs hP hS => ?_)
  exact je_mv hx hb hr hlocks hK hP hS h dX4_become_137
def f_X5_isCell (v0 : Int32) : Int32 := (if v0 < 0 then 0 else (if 49 ≤ v0 then 0 else 1))
theorem z_X5_isCell (v0 : Int32) : f_X5_isCell v0 = 0 ∨ f_X5_isCell v0 = 1 := by
  unfold f_X5_isCell
  repeat' split
  all_goals first | exact Or.inl rfl | exact Or.inr rfl
set_option maxRecDepth 100000 in
theorem m_X5_isCell (l : Launch) (v0 : Int32) (r : Int32) (h : f_X5_isCell v0 = r) : Met l yX5_isCell (jws yX5_isCell cX5_isCell 1 (some .boolean)) (jrm 0 0) (va_Pc [.int v0] jN) (jQ (.int r)) 0 0 (fun _ => False) := by
  refine jm_of (by decide) (Nat.le_of_ble_eq_true rfl) ?_
  intro p e s m args below meth c ls S hr hlocks hB hl
  have S : CallFix p m c cX5_isCell 1 s args jtb RX5 := S
  obtain ⟨hx, hb, hml, hown, hts⟩ := id S
  have hN := hB
  have hl : lv_has ls 1 [(0, .int v0)] := hl
  refine lv_iload_n hx hb dX5_isCell_0 rfl (lv_at hl 0 rfl) ?_
  refine lv_if_lt (tgt := 14) hx hb dX5_isCell_1 rfl (fun c1 => ?_) (fun c1 => ?_)
  · replace h := jh_t h c1
    refine lv_iconst (v := 0) hx hb dX5_isCell_14 jci_0 ?_
    exact je_z hx hb hr hlocks (Or.inl rfl) h dX5_isCell_15
  · replace h := jh_f h c1
    refine lv_iload_n hx hb dX5_isCell_4 rfl (lv_at hl 0 rfl) ?_
    refine lv_bipush (v := 49) hx hb dX5_isCell_5 jcb_49 ?_
    refine lv_icmp_ge (tgt := 14) hx hb dX5_isCell_7 rfl (fun c7 => ?_) (fun c7 => ?_)
    · replace h := jh_t h c7
      refine lv_iconst (v := 0) hx hb dX5_isCell_14 jci_0 ?_
      exact je_z hx hb hr hlocks (Or.inl rfl) h dX5_isCell_15
    · replace h := jh_f h c7
      refine lv_iconst (v := 1) hx hb dX5_isCell_10 jci_1 ?_
      refine lv_goto (tgt := 15) hx hb dX5_isCell_11 rfl ?_
      exact je_z hx hb hr hlocks (Or.inr rfl) h dX5_isCell_15
def f_X4_addHouse (M : jm) (o : Nat) (v1 : Int32) (v2 : Int32) (v3 : Int32) : Option (Int32 × jm) := (if v1 < 0 then (some (0, M)) else (if 6 ≤ v1 then (some (0, M)) else (if v2 < 0 then (some (0, M)) else (if v2 < 10 then (if (f_X5_isCell v3) = 0 then (some (0, M)) else (if (M o 0 0) < 7 then (jgd (M o 0 0) 8 (jgd ((ju M o 1 (Int32.toNatClampNeg (M o 0 0)) v1) o 0 0) 8 (jgd ((ju (ju M o 1 (Int32.toNatClampNeg (M o 0 0)) v1) o 2 (Int32.toNatClampNeg ((ju M o 1 (Int32.toNatClampNeg (M o 0 0)) v1) o 0 0)) v2) o 0 0) 8 (some (1, (ju (ju (ju (ju (ju M o 1 (Int32.toNatClampNeg (M o 0 0)) v1) o 2 (Int32.toNatClampNeg ((ju M o 1 (Int32.toNatClampNeg (M o 0 0)) v1) o 0 0)) v2) o 3 (Int32.toNatClampNeg ((ju (ju M o 1 (Int32.toNatClampNeg (M o 0 0)) v1) o 2 (Int32.toNatClampNeg ((ju M o 1 (Int32.toNatClampNeg (M o 0 0)) v1) o 0 0)) v2) o 0 0)) v3) o 4 0 (((ju (ju (ju M o 1 (Int32.toNatClampNeg (M o 0 0)) v1) o 2 (Int32.toNatClampNeg ((ju M o 1 (Int32.toNatClampNeg (M o 0 0)) v1) o 0 0)) v2) o 3 (Int32.toNatClampNeg ((ju (ju M o 1 (Int32.toNatClampNeg (M o 0 0)) v1) o 2 (Int32.toNatClampNeg ((ju M o 1 (Int32.toNatClampNeg (M o 0 0)) v1) o 0 0)) v2) o 0 0)) v3) o 4 0) ||| ((1 : Int32) <<< (((ju (ju (ju M o 1 (Int32.toNatClampNeg (M o 0 0)) v1) o 2 (Int32.toNatClampNeg ((ju M o 1 (Int32.toNatClampNeg (M o 0 0)) v1) o 0 0)) v2) o 3 (Int32.toNatClampNeg ((ju (ju M o 1 (Int32.toNatClampNeg (M o 0 0)) v1) o 2 (Int32.toNatClampNeg ((ju M o 1 (Int32.toNatClampNeg (M o 0 0)) v1) o 0 0)) v2) o 0 0)) v3) o 0 0) &&& 31)))) o 0 0 (((ju (ju (ju (ju M o 1 (Int32.toNatClampNeg (M o 0 0)) v1) o 2 (Int32.toNatClampNeg ((ju M o 1 (Int32.toNatClampNeg (M o 0 0)) v1) o 0 0)) v2) o 3 (Int32.toNatClampNeg ((ju (ju M o 1 (Int32.toNatClampNeg (M o 0 0)) v1) o 2 (Int32.toNatClampNeg ((ju M o 1 (Int32.toNatClampNeg (M o 0 0)) v1) o 0 0)) v2) o 0 0)) v3) o 4 0 (((ju (ju (ju M o 1 (Int32.toNatClampNeg (M o 0 0)) v1) o 2 (Int32.toNatClampNeg ((ju M o 1 (Int32.toNatClampNeg (M o 0 0)) v1) o 0 0)) v2) o 3 (Int32.toNatClampNeg ((ju (ju M o 1 (Int32.toNatClampNeg (M o 0 0)) v1) o 2 (Int32.toNatClampNeg ((ju M o 1 (Int32.toNatClampNeg (M o 0 0)) v1) o 0 0)) v2) o 0 0)) v3) o 4 0) ||| ((1 : Int32) <<< (((ju (ju (ju M o 1 (Int32.toNatClampNeg (M o 0 0)) v1) o 2 (Int32.toNatClampNeg ((ju M o 1 (Int32.toNatClampNeg (M o 0 0)) v1) o 0 0)) v2) o 3 (Int32.toNatClampNeg ((ju (ju M o 1 (Int32.toNatClampNeg (M o 0 0)) v1) o 2 (Int32.toNatClampNeg ((ju M o 1 (Int32.toNatClampNeg (M o 0 0)) v1) o 0 0)) v2) o 0 0)) v3) o 0 0) &&& 31)))) o 0 0) + 1))))))) else (some (0, M)))) else (some (0, M))))))
set_option maxRecDepth 100000 in
theorem m_X4_addHouse (l : Launch) (X : jX) (A : Nat → Prop) (hs : jst X A) (M : jm) {o : Nat} (hj : job o 4) (v1 : Int32) (v2 : Int32) (v3 : Int32) (r : Int32) (N : jm) (h : f_X4_addHouse M o v1 v2 v3 = some (r, N)) : Met l yX4_addHouse (jws yX4_addHouse cX4_addHouse 4 (some .boolean)) (jrm 1 20) (va_Pc [.ref (jO X o), .int v1, .int v2, .int v3] (jB X M)) (jQm X A (some (.int r)) N) 0 0 A := by
  refine jm_of (by decide) (Nat.le_of_ble_eq_true rfl) ?_
  intro p e s m args below meth c ls S hr hlocks hB hl
  have S : CallFix p m c cX4_addHouse 4 s args jtb RX4 := S
  obtain ⟨hx, hb, hml, hown, hts⟩ := id S
  obtain ⟨hP, hK⟩ := hB
  have hN := hK.2
  have hS : va_S A s.heap s.heap [] := va_S.rf
  have hl : lv_has ls 4 [(0, .ref (jO X o)), (1, .int v1), (2, .int v2), (3, .int v3)] := hl
  refine lv_iload_n hx hb dX4_addHouse_0 rfl (lv_at hl 1 rfl) ?_
  refine lv_if_lt (tgt := 20) hx hb dX4_addHouse_1 rfl (fun c1 => ?_) (fun c1 => ?_)
  · replace h := jh_t h c1
    refine lv_iconst (v := 0) hx hb dX4_addHouse_20 jci_0 ?_
    exact je_mz hx hb hr hlocks hK hP hS (Or.inl rfl) h dX4_addHouse_21
  · replace h := jh_f h c1
    refine lv_iload_n hx hb dX4_addHouse_4 rfl (lv_at hl 1 rfl) ?_
    refine lv_bipush (v := 6) hx hb dX4_addHouse_5 jcb_6 ?_
    refine lv_icmp_ge (tgt := 20) hx hb dX4_addHouse_7 rfl (fun c7 => ?_) (fun c7 => ?_)
    · replace h := jh_t h c7
      refine lv_iconst (v := 0) hx hb dX4_addHouse_20 jci_0 ?_
      exact je_mz hx hb hr hlocks hK hP hS (Or.inl rfl) h dX4_addHouse_21
    · replace h := jh_f h c7
      refine lv_iload_n hx hb dX4_addHouse_10 rfl (lv_at hl 2 rfl) ?_
      refine lv_if_lt (tgt := 20) hx hb dX4_addHouse_11 rfl (fun c11 => ?_) (fun c11 => ?_)
      · replace h := jh_t h c11
        refine lv_iconst (v := 0) hx hb dX4_addHouse_20 jci_0 ?_
        exact je_mz hx hb hr hlocks hK hP hS (Or.inl rfl) h dX4_addHouse_21
      · replace h := jh_f h c11
        refine lv_iload_n hx hb dX4_addHouse_14 rfl (lv_at hl 2 rfl) ?_
        refine lv_bipush (v := 10) hx hb dX4_addHouse_15 jcb_10 ?_
        refine lv_icmp_lt (tgt := 22) hx hb dX4_addHouse_17 rfl (fun c17 => ?_) (fun c17 => ?_)
        · replace h := jh_t h c17
          refine lv_iload_n hx hb dX4_addHouse_22 rfl (lv_at hl 3 rfl) ?_
          refine jr_kp (jr_rn (As := [.int v3]) (rest := []) S hN (m_X5_isCell l v3 _ rfl) jw_X5_isCell js_X5_isCell (List.mem_of_getElem? (i := 3) rfl) rfl rfl ⟨(Nat.le_of_ble_eq_true rfl), (Nat.le_of_ble_eq_true rfl)⟩ rfl hl.1 rfl (Nat.le_of_ble_eq_true rfl) dX4_addHouse_23 ⟨Nat.zero_le _, Nat.zero_le _⟩) ?_
          refine lv_if_eq (tgt := 38) hx hb dX4_addHouse_26 rfl (fun c26 => ?_) (fun c26 => ?_)
          · replace h := jh_t h c26
            refine lv_iconst (v := 0) hx hb dX4_addHouse_38 jci_0 ?_
            exact je_mz hx hb hr hlocks hK hP hS (Or.inl rfl) h dX4_addHouse_39
          · replace h := jh_f h c26
            refine lv_aload_n hx hb dX4_addHouse_29 rfl (lv_at hl 0 rfl) ?_
            refine jr_get (k := 0) hx hb hts hown hK hP hj (Nat.le_of_ble_eq_true rfl) jlX4_39 rfl dX4_addHouse_30 ?_
            refine lv_bipush (v := 7) hx hb dX4_addHouse_33 jcb_7 ?_
            refine lv_icmp_lt (tgt := 40) hx hb dX4_addHouse_35 rfl (fun c35 => ?_) (fun c35 => ?_)
            · replace h := jh_t h c35
              refine lv_aload_n hx hb dX4_addHouse_40 rfl (lv_at hl 0 rfl) ?_
              refine jr_get (k := 1) hx hb hts hown hK hP hj (Nat.le_of_ble_eq_true rfl) jlX4_9 rfl dX4_addHouse_41 ?_
              refine lv_aload_n hx hb dX4_addHouse_44 rfl (lv_at hl 0 rfl) ?_
              refine jr_get (k := 0) hx hb hts hown hK hP hj (Nat.le_of_ble_eq_true rfl) jlX4_39 rfl dX4_addHouse_45 ?_
              refine lv_iload_n hx hb dX4_addHouse_48 rfl (lv_at hl 1 rfl) ?_
              obtain ⟨g49, h⟩ := jh_gd h
              refine jr_ast (n := 8) hx hb hK hP hs hS hj rfl g49 dX4_addHouse_49 (fun H locs hP hS => ?_)
              refine lv_aload_n hx hb dX4_addHouse_50 rfl (lv_at hl 0 rfl) ?_
              refine jr_get (k := 2) hx hb hts hown hK hP hj (Nat.le_of_ble_eq_true rfl) jlX4_15 rfl dX4_addHouse_51 ?_
              refine lv_aload_n hx hb dX4_addHouse_54 rfl (lv_at hl 0 rfl) ?_
              refine jr_get (k := 0) hx hb hts hown hK hP hj (Nat.le_of_ble_eq_true rfl) jlX4_39 rfl dX4_addHouse_55 ?_
              refine lv_iload_n hx hb dX4_addHouse_58 rfl (lv_at hl 2 rfl) ?_
              obtain ⟨g59, h⟩ := jh_gd h
              refine jr_ast (n := 8) hx hb hK hP hs hS hj rfl g59 dX4_addHouse_59 (fun H locs hP hS => ?_)
              refine lv_aload_n hx hb dX4_addHouse_60 rfl (lv_at hl 0 rfl) ?_
              refine jr_get (k := 3) hx hb hts hown hK hP hj (Nat.le_of_ble_eq_true rfl) jlX4_18 rfl dX4_addHouse_61 ?_
              refine lv_aload_n hx hb dX4_addHouse_64 rfl (lv_at hl 0 rfl) ?_
              refine jr_get (k := 0) hx hb hts hown hK hP hj (Nat.le_of_ble_eq_true rfl) jlX4_39 rfl dX4_addHouse_65 ?_
              refine lv_iload_n hx hb dX4_addHouse_68 rfl (lv_at hl 3 rfl) ?_
              obtain ⟨g69, h⟩ := jh_gd h
              refine jr_ast (n := 8) hx hb hK hP hs hS hj rfl g69 dX4_addHouse_69 (fun H locs hP hS => ?_)
              refine lv_aload_n hx hb dX4_addHouse_70 rfl (lv_at hl 0 rfl) ?_
              refine lv_dup hx hb dX4_addHouse_71 rfl ?_
              refine jr_get (k := 4) hx hb hts hown hK hP hj (Nat.le_of_ble_eq_true rfl) jlX4_49 rfl dX4_addHouse_72 ?_
              refine lv_iconst (v := 1) hx hb dX4_addHouse_75 jci_1 ?_
              refine lv_aload_n hx hb dX4_addHouse_76 rfl (lv_at hl 0 rfl) ?_
              refine jr_get (k := 0) hx hb hts hown hK hP hj (Nat.le_of_ble_eq_true rfl) jlX4_39 rfl dX4_addHouse_77 ?_
              refine lv_ishl hx hb dX4_addHouse_80 ?_
              refine lv_ior hx hb dX4_addHouse_81 ?_
              refine jr_put (k := 4) (z := (((ju (ju (ju M o 1 (Int32.toNatClampNeg (M o 0 0)) v1) o 2 (Int32.toNatClampNeg ((ju M o 1 (Int32.toNatClampNeg (M o 0 0)) v1) o 0 0)) v2) o 3 (Int32.toNatClampNeg ((ju (ju M o 1 (Int32.toNatClampNeg (M o 0 0)) v1) o 2 (Int32.toNatClampNeg ((ju M o 1 (Int32.toNatClampNeg (M o 0 0)) v1) o 0 0)) v2) o 0 0)) v3) o 4 0) ||| ((1 : Int32) <<< (((ju (ju (ju M o 1 (Int32.toNatClampNeg (M o 0 0)) v1) o 2 (Int32.toNatClampNeg ((ju M o 1 (Int32.toNatClampNeg (M o 0 0)) v1) o 0 0)) v2) o 3 (Int32.toNatClampNeg ((ju (ju M o 1 (Int32.toNatClampNeg (M o 0 0)) v1) o 2 (Int32.toNatClampNeg ((ju M o 1 (Int32.toNatClampNeg (M o 0 0)) v1) o 0 0)) v2) o 0 0)) v3) o 0 0) &&& 31)))) hx hb hts hown hK hP hs hS hj (Nat.le_of_ble_eq_true rfl) jlX4_49 rfl (Or.inl rfl) rfl rfl rfl dX4_addHouse_82 (fun H locs hP hS => ?_)
              refine lv_aload_n hx hb dX4_addHouse_85 rfl (lv_at hl 0 rfl) ?_
              refine lv_dup hx hb dX4_addHouse_86 rfl ?_
              refine jr_get (k := 0) hx hb hts hown hK hP hj (Nat.le_of_ble_eq_true rfl) jlX4_39 rfl dX4_addHouse_87 ?_
              refine lv_iconst (v := 1) hx hb dX4_addHouse_90 jci_1 ?_
              refine lv_iadd hx hb dX4_addHouse_91 ?_
              refine jr_put (k := 0) (z := (((ju (ju (ju (ju M o 1 (Int32.toNatClampNeg (M o 0 0)) v1) o 2 (Int32.toNatClampNeg ((ju M o 1 (Int32.toNatClampNeg (M o 0 0)) v1) o 0 0)) v2) o 3 (Int32.toNatClampNeg ((ju (ju M o 1 (Int32.toNatClampNeg (M o 0 0)) v1) o 2 (Int32.toNatClampNeg ((ju M o 1 (Int32.toNatClampNeg (M o 0 0)) v1) o 0 0)) v2) o 0 0)) v3) o 4 0 (((ju (ju (ju M o 1 (Int32.toNatClampNeg (M o 0 0)) v1) o 2 (Int32.toNatClampNeg ((ju M o 1 (Int32.toNatClampNeg (M o 0 0)) v1) o 0 0)) v2) o 3 (Int32.toNatClampNeg ((ju (ju M o 1 (Int32.toNatClampNeg (M o 0 0)) v1) o 2 (Int32.toNatClampNeg ((ju M o 1 (Int32.toNatClampNeg (M o 0 0)) v1) o 0 0)) v2) o 0 0)) v3) o 4 0) ||| ((1 : Int32) <<< (((ju (ju (ju M o 1 (Int32.toNatClampNeg (M o 0 0)) v1) o 2 (Int32.toNatClampNeg ((ju M o 1 (Int32.toNatClampNeg (M o 0 0)) v1) o 0 0)) v2) o 3 (Int32.toNatClampNeg ((ju (ju M o 1 (Int32.toNatClampNeg (M o 0 0)) v1) o 2 (Int32.toNatClampNeg ((ju M o 1 (Int32.toNatClampNeg (M o 0 0)) v1) o 0 0)) v2) o 0 0)) v3) o 0 0) &&& 31)))) o 0 0) + 1)) hx hb hts hown hK hP hs hS hj (Nat.le_of_ble_eq_true rfl) jlX4_39 rfl (Or.inl rfl) rfl rfl rfl dX4_addHouse_92 (fun H locs hP hS => ?_)
              refine lv_iconst (v := 1) hx hb dX4_addHouse_95 jci_1 ?_
              exact je_mz hx hb hr hlocks hK hP hS (Or.inr rfl) h dX4_addHouse_96
            · replace h := jh_f h c35
              refine lv_iconst (v := 0) hx hb dX4_addHouse_38 jci_0 ?_
              exact je_mz hx hb hr hlocks hK hP hS (Or.inl rfl) h dX4_addHouse_39
        · replace h := jh_f h c17
          refine lv_iconst (v := 0) hx hb dX4_addHouse_20 jci_0 ?_
          exact je_mz hx hb hr hlocks hK hP hS (Or.inl rfl) h dX4_addHouse_21
def f_X4_addWalker (M : jm) (o : Nat) (v1 : Int32) (v2 : Int32) (v3 : Int32) : Option (Int32 × jm) := (if (f_X5_isCell v1) = 0 then (some (0, M)) else (if (f_X5_isCell v2) = 0 then (some (0, M)) else (if v3 < 0 then (some (0, M)) else (if 2 < v3 then (some (0, M)) else (if (M o 5 0) < 6 then (jgd (M o 5 0) 6 (jgd ((ju M o 6 (Int32.toNatClampNeg (M o 5 0)) v1) o 5 0) 6 (jgd ((ju (ju M o 6 (Int32.toNatClampNeg (M o 5 0)) v1) o 7 (Int32.toNatClampNeg ((ju M o 6 (Int32.toNatClampNeg (M o 5 0)) v1) o 5 0)) v2) o 5 0) 6 (some (1, (ju (ju (ju (ju M o 6 (Int32.toNatClampNeg (M o 5 0)) v1) o 7 (Int32.toNatClampNeg ((ju M o 6 (Int32.toNatClampNeg (M o 5 0)) v1) o 5 0)) v2) o 8 (Int32.toNatClampNeg ((ju (ju M o 6 (Int32.toNatClampNeg (M o 5 0)) v1) o 7 (Int32.toNatClampNeg ((ju M o 6 (Int32.toNatClampNeg (M o 5 0)) v1) o 5 0)) v2) o 5 0)) v3) o 5 0 (((ju (ju (ju M o 6 (Int32.toNatClampNeg (M o 5 0)) v1) o 7 (Int32.toNatClampNeg ((ju M o 6 (Int32.toNatClampNeg (M o 5 0)) v1) o 5 0)) v2) o 8 (Int32.toNatClampNeg ((ju (ju M o 6 (Int32.toNatClampNeg (M o 5 0)) v1) o 7 (Int32.toNatClampNeg ((ju M o 6 (Int32.toNatClampNeg (M o 5 0)) v1) o 5 0)) v2) o 5 0)) v3) o 5 0) + 1))))))) else (some (0, M)))))))
set_option maxRecDepth 100000 in
theorem m_X4_addWalker (l : Launch) (X : jX) (A : Nat → Prop) (hs : jst X A) (M : jm) {o : Nat} (hj : job o 4) (v1 : Int32) (v2 : Int32) (v3 : Int32) (r : Int32) (N : jm) (h : f_X4_addWalker M o v1 v2 v3 = some (r, N)) : Met l yX4_addWalker (jws yX4_addWalker cX4_addWalker 4 (some .boolean)) (jrm 1 20) (va_Pc [.ref (jO X o), .int v1, .int v2, .int v3] (jB X M)) (jQm X A (some (.int r)) N) 0 0 A := by
  refine jm_of (by decide) (Nat.le_of_ble_eq_true rfl) ?_
  intro p e s m args below meth c ls S hr hlocks hB hl
  have S : CallFix p m c cX4_addWalker 4 s args jtb RX4 := S
  obtain ⟨hx, hb, hml, hown, hts⟩ := id S
  obtain ⟨hP, hK⟩ := hB
  have hN := hK.2
  have hS : va_S A s.heap s.heap [] := va_S.rf
  have hl : lv_has ls 4 [(0, .ref (jO X o)), (1, .int v1), (2, .int v2), (3, .int v3)] := hl
  refine lv_iload_n hx hb dX4_addWalker_0 rfl (lv_at hl 1 rfl) ?_
  refine jr_kp (jr_rn (As := [.int v1]) (rest := []) S hN (m_X5_isCell l v1 _ rfl) jw_X5_isCell js_X5_isCell (List.mem_of_getElem? (i := 3) rfl) rfl rfl ⟨(Nat.le_of_ble_eq_true rfl), (Nat.le_of_ble_eq_true rfl)⟩ rfl hl.1 rfl (Nat.le_of_ble_eq_true rfl) dX4_addWalker_1 ⟨Nat.zero_le _, Nat.zero_le _⟩) ?_
  refine lv_if_eq (tgt := 14) hx hb dX4_addWalker_4 rfl (fun c4 => ?_) (fun c4 => ?_)
  · replace h := jh_t h c4
    refine lv_iconst (v := 0) hx hb dX4_addWalker_14 jci_0 ?_
    exact je_mz hx hb hr hlocks hK hP hS (Or.inl rfl) h dX4_addWalker_15
  · replace h := jh_f h c4
    refine lv_iload_n hx hb dX4_addWalker_7 rfl (lv_at hl 2 rfl) ?_
    refine jr_kp (jr_rn (As := [.int v2]) (rest := []) S hN (m_X5_isCell l v2 _ rfl) jw_X5_isCell js_X5_isCell (List.mem_of_getElem? (i := 3) rfl) rfl rfl ⟨(Nat.le_of_ble_eq_true rfl), (Nat.le_of_ble_eq_true rfl)⟩ rfl hl.1 rfl (Nat.le_of_ble_eq_true rfl) dX4_addWalker_8 ⟨Nat.zero_le _, Nat.zero_le _⟩) ?_
    refine lv_if_ne (tgt := 16) hx hb dX4_addWalker_11 rfl (fun c11 => ?_) (fun c11 => ?_)
    · replace h := jh_f h c11
      refine lv_iload_n hx hb dX4_addWalker_16 rfl (lv_at hl 3 rfl) ?_
      refine lv_if_lt (tgt := 34) hx hb dX4_addWalker_17 rfl (fun c17 => ?_) (fun c17 => ?_)
      · replace h := jh_t h c17
        refine lv_iconst (v := 0) hx hb dX4_addWalker_34 jci_0 ?_
        exact je_mz hx hb hr hlocks hK hP hS (Or.inl rfl) h dX4_addWalker_35
      · replace h := jh_f h c17
        refine lv_iload_n hx hb dX4_addWalker_20 rfl (lv_at hl 3 rfl) ?_
        refine lv_iconst (v := 2) hx hb dX4_addWalker_21 jci_2 ?_
        refine lv_icmp_gt (tgt := 34) hx hb dX4_addWalker_22 rfl (fun c22 => ?_) (fun c22 => ?_)
        · replace h := jh_t h c22
          refine lv_iconst (v := 0) hx hb dX4_addWalker_34 jci_0 ?_
          exact je_mz hx hb hr hlocks hK hP hS (Or.inl rfl) h dX4_addWalker_35
        · replace h := jh_f h c22
          refine lv_aload_n hx hb dX4_addWalker_25 rfl (lv_at hl 0 rfl) ?_
          refine jr_get (k := 5) hx hb hts hown hK hP hj (Nat.le_of_ble_eq_true rfl) jlX4_52 rfl dX4_addWalker_26 ?_
          refine lv_bipush (v := 6) hx hb dX4_addWalker_29 jcb_6 ?_
          refine lv_icmp_lt (tgt := 36) hx hb dX4_addWalker_31 rfl (fun c31 => ?_) (fun c31 => ?_)
          · replace h := jh_t h c31
            refine lv_aload_n hx hb dX4_addWalker_36 rfl (lv_at hl 0 rfl) ?_
            refine jr_get (k := 6) hx hb hts hown hK hP hj (Nat.le_of_ble_eq_true rfl) jlX4_21 rfl dX4_addWalker_37 ?_
            refine lv_aload_n hx hb dX4_addWalker_40 rfl (lv_at hl 0 rfl) ?_
            refine jr_get (k := 5) hx hb hts hown hK hP hj (Nat.le_of_ble_eq_true rfl) jlX4_52 rfl dX4_addWalker_41 ?_
            refine lv_iload_n hx hb dX4_addWalker_44 rfl (lv_at hl 1 rfl) ?_
            obtain ⟨g45, h⟩ := jh_gd h
            refine jr_ast (n := 6) hx hb hK hP hs hS hj rfl g45 dX4_addWalker_45 (fun H locs hP hS => ?_)
            refine lv_aload_n hx hb dX4_addWalker_46 rfl (lv_at hl 0 rfl) ?_
            refine jr_get (k := 7) hx hb hts hown hK hP hj (Nat.le_of_ble_eq_true rfl) jlX4_24 rfl dX4_addWalker_47 ?_
            refine lv_aload_n hx hb dX4_addWalker_50 rfl (lv_at hl 0 rfl) ?_
            refine jr_get (k := 5) hx hb hts hown hK hP hj (Nat.le_of_ble_eq_true rfl) jlX4_52 rfl dX4_addWalker_51 ?_
            refine lv_iload_n hx hb dX4_addWalker_54 rfl (lv_at hl 2 rfl) ?_
            obtain ⟨g55, h⟩ := jh_gd h
            refine jr_ast (n := 6) hx hb hK hP hs hS hj rfl g55 dX4_addWalker_55 (fun H locs hP hS => ?_)
            refine lv_aload_n hx hb dX4_addWalker_56 rfl (lv_at hl 0 rfl) ?_
            refine jr_get (k := 8) hx hb hts hown hK hP hj (Nat.le_of_ble_eq_true rfl) jlX4_27 rfl dX4_addWalker_57 ?_
            refine lv_aload_n hx hb dX4_addWalker_60 rfl (lv_at hl 0 rfl) ?_
            refine jr_get (k := 5) hx hb hts hown hK hP hj (Nat.le_of_ble_eq_true rfl) jlX4_52 rfl dX4_addWalker_61 ?_
            refine lv_iload_n hx hb dX4_addWalker_64 rfl (lv_at hl 3 rfl) ?_
            obtain ⟨g65, h⟩ := jh_gd h
            refine jr_ast (n := 6) hx hb hK hP hs hS hj rfl g65 dX4_addWalker_65 (fun H locs hP hS => ?_)
            refine lv_aload_n hx hb dX4_addWalker_66 rfl (lv_at hl 0 rfl) ?_
            refine lv_dup hx hb dX4_addWalker_67 rfl ?_
            refine jr_get (k := 5) hx hb hts hown hK hP hj (Nat.le_of_ble_eq_true rfl) jlX4_52 rfl dX4_addWalker_68 ?_
            refine lv_iconst (v := 1) hx hb dX4_addWalker_71 jci_1 ?_
            refine lv_iadd hx hb dX4_addWalker_72 ?_
            refine jr_put (k := 5) (z := (((ju (ju (ju M o 6 (Int32.toNatClampNeg (M o 5 0)) v1) o 7 (Int32.toNatClampNeg ((ju M o 6 (Int32.toNatClampNeg (M o 5 0)) v1) o 5 0)) v2) o 8 (Int32.toNatClampNeg ((ju (ju M o 6 (Int32.toNatClampNeg (M o 5 0)) v1) o 7 (Int32.toNatClampNeg ((ju M o 6 (Int32.toNatClampNeg (M o 5 0)) v1) o 5 0)) v2) o 5 0)) v3) o 5 0) + 1)) hx hb hts hown hK hP hs hS hj (Nat.le_of_ble_eq_true rfl) jlX4_52 rfl (Or.inl rfl) rfl rfl rfl dX4_addWalker_73 (fun H locs hP hS => ?_)
            refine lv_iconst (v := 1) hx hb dX4_addWalker_76 jci_1 ?_
            exact je_mz hx hb hr hlocks hK hP hS (Or.inr rfl) h dX4_addWalker_77
          · replace h := jh_f h c31
            refine lv_iconst (v := 0) hx hb dX4_addWalker_34 jci_0 ?_
            exact je_mz hx hb hr hlocks hK hP hS (Or.inl rfl) h dX4_addWalker_35
    · replace h := jh_t h c11
      refine lv_iconst (v := 0) hx hb dX4_addWalker_14 jci_0 ?_
      exact je_mz hx hb hr hlocks hK hP hS (Or.inl rfl) h dX4_addWalker_15
def f_X4_hasHouse (M : jm) (o : Nat) (v1 : Int32) : Int32 := (if v1 < 0 then 0 else (if (M o 0 0) ≤ v1 then 0 else 1))
theorem z_X4_hasHouse (M : jm) (o : Nat) (v1 : Int32) : f_X4_hasHouse M o v1 = 0 ∨ f_X4_hasHouse M o v1 = 1 := by
  unfold f_X4_hasHouse
  repeat' split
  all_goals first | exact Or.inl rfl | exact Or.inr rfl
set_option maxRecDepth 100000 in
theorem m_X4_hasHouse (l : Launch) (X : jX) (M : jm) {o : Nat} (hj : job o 4) (v1 : Int32) (r : Int32) (h : f_X4_hasHouse M o v1 = r) : Met l yX4_hasHouse (jws yX4_hasHouse cX4_hasHouse 2 (some .boolean)) (jrm 0 0) (va_Pc [.ref (jO X o), .int v1] (jB X M)) (jQ (.int r)) 0 0 (fun _ => False) := by
  refine jm_of (by decide) (Nat.le_of_ble_eq_true rfl) ?_
  intro p e s m args below meth c ls S hr hlocks hB hl
  have S : CallFix p m c cX4_hasHouse 2 s args jtb RX4 := S
  obtain ⟨hx, hb, hml, hown, hts⟩ := id S
  obtain ⟨hP, hK⟩ := hB
  have hN := hK.2
  have hl : lv_has ls 2 [(0, .ref (jO X o)), (1, .int v1)] := hl
  refine lv_iload_n hx hb dX4_hasHouse_0 rfl (lv_at hl 1 rfl) ?_
  refine lv_if_lt (tgt := 16) hx hb dX4_hasHouse_1 rfl (fun c1 => ?_) (fun c1 => ?_)
  · replace h := jh_t h c1
    refine lv_iconst (v := 0) hx hb dX4_hasHouse_16 jci_0 ?_
    exact je_z hx hb hr hlocks (Or.inl rfl) h dX4_hasHouse_17
  · replace h := jh_f h c1
    refine lv_iload_n hx hb dX4_hasHouse_4 rfl (lv_at hl 1 rfl) ?_
    refine lv_aload_n hx hb dX4_hasHouse_5 rfl (lv_at hl 0 rfl) ?_
    refine jr_get (k := 0) hx hb hts hown hK hP hj (Nat.le_of_ble_eq_true rfl) jlX4_39 rfl dX4_hasHouse_6 ?_
    refine lv_icmp_ge (tgt := 16) hx hb dX4_hasHouse_9 rfl (fun c9 => ?_) (fun c9 => ?_)
    · replace h := jh_t h c9
      refine lv_iconst (v := 0) hx hb dX4_hasHouse_16 jci_0 ?_
      exact je_z hx hb hr hlocks (Or.inl rfl) h dX4_hasHouse_17
    · replace h := jh_f h c9
      refine lv_iconst (v := 1) hx hb dX4_hasHouse_12 jci_1 ?_
      refine lv_goto (tgt := 17) hx hb dX4_hasHouse_13 rfl ?_
      exact je_z hx hb hr hlocks (Or.inr rfl) h dX4_hasHouse_17
def f_X4_turn (M : jm) (o : Nat) (v1 : Int32) : Option (Int32 × jm) := (if (f_X4_hasHouse M o v1) = 0 then (some (0, M)) else (some (1, (ju M o 4 0 ((M o 4 0) ^^^ ((1 : Int32) <<< (v1 &&& 31)))))))
set_option maxRecDepth 100000 in
theorem m_X4_turn (l : Launch) (X : jX) (A : Nat → Prop) (hs : jst X A) (M : jm) {o : Nat} (hj : job o 4) (v1 : Int32) (r : Int32) (N : jm) (h : f_X4_turn M o v1 = some (r, N)) : Met l yX4_turn (jws yX4_turn cX4_turn 2 (some .boolean)) (jrm 1 21) (va_Pc [.ref (jO X o), .int v1] (jB X M)) (jQm X A (some (.int r)) N) 0 0 A := by
  refine jm_of (by decide) (Nat.le_of_ble_eq_true rfl) ?_
  intro p e s m args below meth c ls S hr hlocks hB hl
  have S : CallFix p m c cX4_turn 2 s args jtb RX4 := S
  obtain ⟨hx, hb, hml, hown, hts⟩ := id S
  obtain ⟨hP, hK⟩ := hB
  have hN := hK.2
  have hS : va_S A s.heap s.heap [] := va_S.rf
  have hl : lv_has ls 2 [(0, .ref (jO X o)), (1, .int v1)] := hl
  refine lv_aload_n hx hb dX4_turn_0 rfl (lv_at hl 0 rfl) ?_
  refine lv_iload_n hx hb dX4_turn_1 rfl (lv_at hl 1 rfl) ?_
  refine jr_kp (jr_rv (As := [.int v1]) (rest := []) S hK hP hj rfl (m_X4_hasHouse l X M hj v1 _ rfl) jw_X4_hasHouse ji_X4_hasHouse jmX4_62 rfl rfl ⟨(Nat.le_of_ble_eq_true rfl), (Nat.le_of_ble_eq_true rfl)⟩ rfl hl.1 rfl (Nat.le_of_ble_eq_true rfl) dX4_turn_2 ⟨Nat.zero_le _, Nat.zero_le _⟩) ?_
  refine lv_if_ne (tgt := 10) hx hb dX4_turn_5 rfl (fun c5 => ?_) (fun c5 => ?_)
  · replace h := jh_f h c5
    refine lv_aload_n hx hb dX4_turn_10 rfl (lv_at hl 0 rfl) ?_
    refine lv_dup hx hb dX4_turn_11 rfl ?_
    refine jr_get (k := 4) hx hb hts hown hK hP hj (Nat.le_of_ble_eq_true rfl) jlX4_49 rfl dX4_turn_12 ?_
    refine lv_iconst (v := 1) hx hb dX4_turn_15 jci_1 ?_
    refine lv_iload_n hx hb dX4_turn_16 rfl (lv_at hl 1 rfl) ?_
    refine lv_ishl hx hb dX4_turn_17 ?_
    refine lv_ixor hx hb dX4_turn_18 ?_
    refine jr_put (k := 4) (z := ((M o 4 0) ^^^ ((1 : Int32) <<< (v1 &&& 31)))) hx hb hts hown hK hP hs hS hj (Nat.le_of_ble_eq_true rfl) jlX4_49 rfl (Or.inl rfl) rfl rfl rfl dX4_turn_19 (fun H locs hP hS => ?_)
    refine lv_iconst (v := 1) hx hb dX4_turn_22 jci_1 ?_
    exact je_mz hx hb hr hlocks hK hP hS (Or.inr rfl) h dX4_turn_23
  · replace h := jh_t h c5
    refine lv_iconst (v := 0) hx hb dX4_turn_8 jci_0 ?_
    exact je_mz hx hb hr hlocks hK hP hS (Or.inl rfl) h dX4_turn_9
def f_X4_hasWalker (M : jm) (o : Nat) (v1 : Int32) : Int32 := (if v1 < 0 then 0 else (if (M o 5 0) ≤ v1 then 0 else 1))
theorem z_X4_hasWalker (M : jm) (o : Nat) (v1 : Int32) : f_X4_hasWalker M o v1 = 0 ∨ f_X4_hasWalker M o v1 = 1 := by
  unfold f_X4_hasWalker
  repeat' split
  all_goals first | exact Or.inl rfl | exact Or.inr rfl
set_option maxRecDepth 100000 in
theorem m_X4_hasWalker (l : Launch) (X : jX) (M : jm) {o : Nat} (hj : job o 4) (v1 : Int32) (r : Int32) (h : f_X4_hasWalker M o v1 = r) : Met l yX4_hasWalker (jws yX4_hasWalker cX4_hasWalker 2 (some .boolean)) (jrm 0 0) (va_Pc [.ref (jO X o), .int v1] (jB X M)) (jQ (.int r)) 0 0 (fun _ => False) := by
  refine jm_of (by decide) (Nat.le_of_ble_eq_true rfl) ?_
  intro p e s m args below meth c ls S hr hlocks hB hl
  have S : CallFix p m c cX4_hasWalker 2 s args jtb RX4 := S
  obtain ⟨hx, hb, hml, hown, hts⟩ := id S
  obtain ⟨hP, hK⟩ := hB
  have hN := hK.2
  have hl : lv_has ls 2 [(0, .ref (jO X o)), (1, .int v1)] := hl
  refine lv_iload_n hx hb dX4_hasWalker_0 rfl (lv_at hl 1 rfl) ?_
  refine lv_if_lt (tgt := 16) hx hb dX4_hasWalker_1 rfl (fun c1 => ?_) (fun c1 => ?_)
  · replace h := jh_t h c1
    refine lv_iconst (v := 0) hx hb dX4_hasWalker_16 jci_0 ?_
    exact je_z hx hb hr hlocks (Or.inl rfl) h dX4_hasWalker_17
  · replace h := jh_f h c1
    refine lv_iload_n hx hb dX4_hasWalker_4 rfl (lv_at hl 1 rfl) ?_
    refine lv_aload_n hx hb dX4_hasWalker_5 rfl (lv_at hl 0 rfl) ?_
    refine jr_get (k := 5) hx hb hts hown hK hP hj (Nat.le_of_ble_eq_true rfl) jlX4_52 rfl dX4_hasWalker_6 ?_
    refine lv_icmp_ge (tgt := 16) hx hb dX4_hasWalker_9 rfl (fun c9 => ?_) (fun c9 => ?_)
    · replace h := jh_t h c9
      refine lv_iconst (v := 0) hx hb dX4_hasWalker_16 jci_0 ?_
      exact je_z hx hb hr hlocks (Or.inl rfl) h dX4_hasWalker_17
    · replace h := jh_f h c9
      refine lv_iconst (v := 1) hx hb dX4_hasWalker_12 jci_1 ?_
      refine lv_goto (tgt := 17) hx hb dX4_hasWalker_13 rfl ?_
      exact je_z hx hb hr hlocks (Or.inr rfl) h dX4_hasWalker_17
def f_X4_aim (M : jm) (o : Nat) (v1 : Int32) (v2 : Int32) : Option (Int32 × jm) := (if (f_X4_hasWalker M o v1) = 0 then (some (0, M)) else (if (f_X5_isCell v2) = 0 then (some (0, M)) else (jgd v1 6 (some (1, (ju M o 7 (Int32.toNatClampNeg v1) v2))))))
set_option maxRecDepth 100000 in
theorem m_X4_aim (l : Launch) (X : jX) (A : Nat → Prop) (hs : jst X A) (M : jm) {o : Nat} (hj : job o 4) (v1 : Int32) (v2 : Int32) (r : Int32) (N : jm) (h : f_X4_aim M o v1 v2 = some (r, N)) : Met l yX4_aim (jws yX4_aim cX4_aim 3 (some .boolean)) (jrm 1 21) (va_Pc [.ref (jO X o), .int v1, .int v2] (jB X M)) (jQm X A (some (.int r)) N) 0 0 A := by
  refine jm_of (by decide) (Nat.le_of_ble_eq_true rfl) ?_
  intro p e s m args below meth c ls S hr hlocks hB hl
  have S : CallFix p m c cX4_aim 3 s args jtb RX4 := S
  obtain ⟨hx, hb, hml, hown, hts⟩ := id S
  obtain ⟨hP, hK⟩ := hB
  have hN := hK.2
  have hS : va_S A s.heap s.heap [] := va_S.rf
  have hl : lv_has ls 3 [(0, .ref (jO X o)), (1, .int v1), (2, .int v2)] := hl
  refine lv_aload_n hx hb dX4_aim_0 rfl (lv_at hl 0 rfl) ?_
  refine lv_iload_n hx hb dX4_aim_1 rfl (lv_at hl 1 rfl) ?_
  refine jr_kp (jr_rv (As := [.int v1]) (rest := []) S hK hP hj rfl (m_X4_hasWalker l X M hj v1 _ rfl) jw_X4_hasWalker ji_X4_hasWalker jmX4_65 rfl rfl ⟨(Nat.le_of_ble_eq_true rfl), (Nat.le_of_ble_eq_true rfl)⟩ rfl hl.1 rfl (Nat.le_of_ble_eq_true rfl) dX4_aim_2 ⟨Nat.zero_le _, Nat.zero_le _⟩) ?_
  refine lv_if_eq (tgt := 15) hx hb dX4_aim_5 rfl (fun c5 => ?_) (fun c5 => ?_)
  · replace h := jh_t h c5
    refine lv_iconst (v := 0) hx hb dX4_aim_15 jci_0 ?_
    exact je_mz hx hb hr hlocks hK hP hS (Or.inl rfl) h dX4_aim_16
  · replace h := jh_f h c5
    refine lv_iload_n hx hb dX4_aim_8 rfl (lv_at hl 2 rfl) ?_
    refine jr_kp (jr_rn (As := [.int v2]) (rest := []) S hN (m_X5_isCell l v2 _ rfl) jw_X5_isCell js_X5_isCell (List.mem_of_getElem? (i := 3) rfl) rfl rfl ⟨(Nat.le_of_ble_eq_true rfl), (Nat.le_of_ble_eq_true rfl)⟩ rfl hl.1 rfl (Nat.le_of_ble_eq_true rfl) dX4_aim_9 ⟨Nat.zero_le _, Nat.zero_le _⟩) ?_
    refine lv_if_ne (tgt := 17) hx hb dX4_aim_12 rfl (fun c12 => ?_) (fun c12 => ?_)
    · replace h := jh_f h c12
      refine lv_aload_n hx hb dX4_aim_17 rfl (lv_at hl 0 rfl) ?_
      refine jr_get (k := 7) hx hb hts hown hK hP hj (Nat.le_of_ble_eq_true rfl) jlX4_24 rfl dX4_aim_18 ?_
      refine lv_iload_n hx hb dX4_aim_21 rfl (lv_at hl 1 rfl) ?_
      refine lv_iload_n hx hb dX4_aim_22 rfl (lv_at hl 2 rfl) ?_
      obtain ⟨g23, h⟩ := jh_gd h
      refine jr_ast (n := 6) hx hb hK hP hs hS hj rfl g23 dX4_aim_23 (fun H locs hP hS => ?_)
      refine lv_iconst (v := 1) hx hb dX4_aim_24 jci_1 ?_
      exact je_mz hx hb hr hlocks hK hP hS (Or.inr rfl) h dX4_aim_25
    · replace h := jh_t h c12
      refine lv_iconst (v := 0) hx hb dX4_aim_15 jci_0 ?_
      exact je_mz hx hb hr hlocks hK hP hS (Or.inl rfl) h dX4_aim_16
def f_X4_owes (M : jm) (o : Nat) (v1 : Int32) (v2 : Int32) : Option Int32 := (jgd ((v1 * 8) + v2) 48 (if (M o 9 (Int32.toNatClampNeg ((v1 * 8) + v2))) = (-1) then (some 0) else (some 1)))
set_option maxRecDepth 100000 in
theorem m_X4_owes (l : Launch) (X : jX) (M : jm) {o : Nat} (hj : job o 4) (v1 : Int32) (v2 : Int32) (r : Int32) (h : f_X4_owes M o v1 v2 = some r) : Met l yX4_owes (jws yX4_owes cX4_owes 3 (some .boolean)) (jrm 0 0) (va_Pc [.ref (jO X o), .int v1, .int v2] (jB X M)) (jQ (.int r)) 0 0 (fun _ => False) := by
  refine jm_of (by decide) (Nat.le_of_ble_eq_true rfl) ?_
  intro p e s m args below meth c ls S hr hlocks hB hl
  have S : CallFix p m c cX4_owes 3 s args jtb RX4 := S
  obtain ⟨hx, hb, hml, hown, hts⟩ := id S
  obtain ⟨hP, hK⟩ := hB
  have hN := hK.2
  have hl : lv_has ls 3 [(0, .ref (jO X o)), (1, .int v1), (2, .int v2)] := hl
  refine lv_aload_n hx hb dX4_owes_0 rfl (lv_at hl 0 rfl) ?_
  refine jr_get (k := 9) hx hb hts hown hK hP hj (Nat.le_of_ble_eq_true rfl) jlX4_30 rfl dX4_owes_1 ?_
  refine lv_iload_n hx hb dX4_owes_4 rfl (lv_at hl 1 rfl) ?_
  refine lv_bipush (v := 8) hx hb dX4_owes_5 jcb_8 ?_
  refine lv_imul hx hb dX4_owes_7 ?_
  refine lv_iload_n hx hb dX4_owes_8 rfl (lv_at hl 2 rfl) ?_
  refine lv_iadd hx hb dX4_owes_9 ?_
  obtain ⟨g10, h⟩ := jh_gd h
  refine jr_ald (n := 48) hx hb hK hP hj rfl g10 dX4_owes_10 ?_
  refine lv_iconst (v := (-1)) hx hb dX4_owes_11 jci_m1 ?_
  refine lv_icmp_eq (tgt := 19) hx hb dX4_owes_12 rfl (fun c12 => ?_) (fun c12 => ?_)
  · replace h := jh_t h c12
    refine lv_iconst (v := 0) hx hb dX4_owes_19 jci_0 ?_
    exact je_z hx hb hr hlocks (Or.inl rfl) (Option.some.inj h) dX4_owes_20
  · replace h := jh_f h c12
    refine lv_iconst (v := 1) hx hb dX4_owes_15 jci_1 ?_
    refine lv_goto (tgt := 20) hx hb dX4_owes_16 rfl ?_
    exact je_z hx hb hr hlocks (Or.inr rfl) (Option.some.inj h) dX4_owes_20
def f_X4_setDebt (M : jm) (o : Nat) (v1 : Int32) (v2 : Int32) (v3 : Int32) : Option jm := (jgd ((v1 * 8) + v2) 48 (some (ju M o 9 (Int32.toNatClampNeg ((v1 * 8) + v2)) v3)))
set_option maxRecDepth 100000 in
theorem m_X4_setDebt (l : Launch) (X : jX) (A : Nat → Prop) (hs : jst X A) (M : jm) {o : Nat} (hj : job o 4) (v1 : Int32) (v2 : Int32) (v3 : Int32) (N : jm) (h : f_X4_setDebt M o v1 v2 v3 = some N) : Met l yX4_setDebt (jws yX4_setDebt cX4_setDebt 4 none) (jrm 0 0) (va_Pc [.ref (jO X o), .int v1, .int v2, .int v3] (jB X M)) (jQm X A none N) 0 0 A := by
  refine jm_of (by decide) (Nat.le_of_ble_eq_true rfl) ?_
  intro p e s m args below meth c ls S hr hlocks hB hl
  have S : CallFix p m c cX4_setDebt 4 s args jtb RX4 := S
  obtain ⟨hx, hb, hml, hown, hts⟩ := id S
  obtain ⟨hP, hK⟩ := hB
  have hN := hK.2
  have hS : va_S A s.heap s.heap [] := va_S.rf
  have hl : lv_has ls 4 [(0, .ref (jO X o)), (1, .int v1), (2, .int v2), (3, .int v3)] := hl
  refine lv_aload_n hx hb dX4_setDebt_0 rfl (lv_at hl 0 rfl) ?_
  refine jr_get (k := 9) hx hb hts hown hK hP hj (Nat.le_of_ble_eq_true rfl) jlX4_30 rfl dX4_setDebt_1 ?_
  refine lv_iload_n hx hb dX4_setDebt_4 rfl (lv_at hl 1 rfl) ?_
  refine lv_bipush (v := 8) hx hb dX4_setDebt_5 jcb_8 ?_
  refine lv_imul hx hb dX4_setDebt_7 ?_
  refine lv_iload_n hx hb dX4_setDebt_8 rfl (lv_at hl 2 rfl) ?_
  refine lv_iadd hx hb dX4_setDebt_9 ?_
  refine lv_iload_n hx hb dX4_setDebt_10 rfl (lv_at hl 3 rfl) ?_
  obtain ⟨g11, h⟩ := jh_gd h
  refine jr_ast (n := 48) hx hb hK hP hs hS hj rfl g11 dX4_setDebt_11 (fun H locs hP hS => ?_)
  exact je_mv hx hb hr hlocks hK hP hS h dX4_setDebt_12
def f_X4_addDebt (M : jm) (o : Nat) (v1 : Int32) (v2 : Int32) : Option (Int32 × jm) := (if (f_X4_hasWalker M o v1) = 0 then (some (0, M)) else (if (f_X4_hasHouse M o v2) = 0 then (some (0, M)) else (jb (f_X4_owes M o v1 v2) fun r3 => (if r3 = 0 then (jb (f_X4_setDebt M o v1 v2 0) fun M_4 => (some (1, M_4))) else (some (1, M))))))
set_option maxRecDepth 100000 in
theorem m_X4_addDebt (l : Launch) (X : jX) (A : Nat → Prop) (hs : jst X A) (M : jm) {o : Nat} (hj : job o 4) (v1 : Int32) (v2 : Int32) (r : Int32) (N : jm) (h : f_X4_addDebt M o v1 v2 = some (r, N)) : Met l yX4_addDebt (jws yX4_addDebt cX4_addDebt 3 (some .boolean)) (jrm 1 23) (va_Pc [.ref (jO X o), .int v1, .int v2] (jB X M)) (jQm X A (some (.int r)) N) 0 0 A := by
  refine jm_of (by decide) (Nat.le_of_ble_eq_true rfl) ?_
  intro p e s m args below meth c ls S hr hlocks hB hl
  have S : CallFix p m c cX4_addDebt 3 s args jtb RX4 := S
  obtain ⟨hx, hb, hml, hown, hts⟩ := id S
  obtain ⟨hP, hK⟩ := hB
  have hN := hK.2
  have hS : va_S A s.heap s.heap [] := va_S.rf
  have hl : lv_has ls 3 [(0, .ref (jO X o)), (1, .int v1), (2, .int v2)] := hl
  refine lv_aload_n hx hb dX4_addDebt_0 rfl (lv_at hl 0 rfl) ?_
  refine lv_iload_n hx hb dX4_addDebt_1 rfl (lv_at hl 1 rfl) ?_
  refine jr_kp (jr_rv (As := [.int v1]) (rest := []) S hK hP hj rfl (m_X4_hasWalker l X M hj v1 _ rfl) jw_X4_hasWalker ji_X4_hasWalker jmX4_65 rfl rfl ⟨(Nat.le_of_ble_eq_true rfl), (Nat.le_of_ble_eq_true rfl)⟩ rfl hl.1 rfl (Nat.le_of_ble_eq_true rfl) dX4_addDebt_2 ⟨Nat.zero_le _, Nat.zero_le _⟩) ?_
  refine lv_if_eq (tgt := 16) hx hb dX4_addDebt_5 rfl (fun c5 => ?_) (fun c5 => ?_)
  · replace h := jh_t h c5
    refine lv_iconst (v := 0) hx hb dX4_addDebt_16 jci_0 ?_
    exact je_mz hx hb hr hlocks hK hP hS (Or.inl rfl) h dX4_addDebt_17
  · replace h := jh_f h c5
    refine lv_aload_n hx hb dX4_addDebt_8 rfl (lv_at hl 0 rfl) ?_
    refine lv_iload_n hx hb dX4_addDebt_9 rfl (lv_at hl 2 rfl) ?_
    refine jr_kp (jr_rv (As := [.int v2]) (rest := []) S hK hP hj rfl (m_X4_hasHouse l X M hj v2 _ rfl) jw_X4_hasHouse ji_X4_hasHouse jmX4_62 rfl rfl ⟨(Nat.le_of_ble_eq_true rfl), (Nat.le_of_ble_eq_true rfl)⟩ rfl hl.1 rfl (Nat.le_of_ble_eq_true rfl) dX4_addDebt_10 ⟨Nat.zero_le _, Nat.zero_le _⟩) ?_
    refine lv_if_ne (tgt := 18) hx hb dX4_addDebt_13 rfl (fun c13 => ?_) (fun c13 => ?_)
    · replace h := jh_f h c13
      refine lv_aload_n hx hb dX4_addDebt_18 rfl (lv_at hl 0 rfl) ?_
      refine lv_iload_n hx hb dX4_addDebt_19 rfl (lv_at hl 1 rfl) ?_
      refine lv_iload_n hx hb dX4_addDebt_20 rfl (lv_at hl 2 rfl) ?_
      obtain ⟨r3, e3, h⟩ := jh_b h
      refine jr_kp (jr_rv (As := [.int v1, .int v2]) (rest := []) S hK hP hj rfl (m_X4_owes l X M hj v1 v2 r3 e3) jw_X4_owes ji_X4_owes jmX4_68 rfl rfl ⟨(Nat.le_of_ble_eq_true rfl), (Nat.le_of_ble_eq_true rfl)⟩ rfl hl.1 rfl (Nat.le_of_ble_eq_true rfl) dX4_addDebt_21 ⟨Nat.zero_le _, Nat.zero_le _⟩) ?_
      refine lv_if_ne (tgt := 34) hx hb dX4_addDebt_24 rfl (fun c24 => ?_) (fun c24 => ?_)
      · replace h := jh_f h c24
        refine lv_iconst (v := 1) hx hb dX4_addDebt_34 jci_1 ?_
        exact je_mz hx hb hr hlocks hK hP hS (Or.inr rfl) h dX4_addDebt_35
      · replace h := jh_t h c24
        refine lv_aload_n hx hb dX4_addDebt_27 rfl (lv_at hl 0 rfl) ?_
        refine lv_iload_n hx hb dX4_addDebt_28 rfl (lv_at hl 1 rfl) ?_
        refine lv_iload_n hx hb dX4_addDebt_29 rfl (lv_at hl 2 rfl) ?_
        refine lv_iconst (v := 0) hx hb dX4_addDebt_30 jci_0 ?_
        obtain ⟨M_4, e4, h⟩ := jh_b h
        refine jr_kv (jr_rv (As := [.int v1, .int v2, .int 0]) (rest := []) S hK hP hj rfl (m_X4_setDebt l X A hs M hj v1 v2 0 M_4 e4) jw_X4_setDebt ji_X4_setDebt jmX4_72 rfl rfl ⟨(Nat.le_of_ble_eq_true rfl), (Nat.le_of_ble_eq_true rfl)⟩ rfl hl.1 rfl (Nat.le_of_ble_eq_true rfl) dX4_addDebt_31 ⟨Nat.zero_le _, Nat.zero_le _⟩) hS (fun H locs hP hS => ?_)
        refine lv_iconst (v := 1) hx hb dX4_addDebt_34 jci_1 ?_
        exact je_mz hx hb hr hlocks hK hP hS (Or.inr rfl) h dX4_addDebt_35
    · replace h := jh_t h c13
      refine lv_iconst (v := 0) hx hb dX4_addDebt_16 jci_0 ?_
      exact je_mz hx hb hr hlocks hK hP hS (Or.inl rfl) h dX4_addDebt_17
def f_X4_isLit (M : jm) (o : Nat) (v1 : Int32) : Int32 := (if (((M o 4 0) >>> (v1 &&& 31)) &&& 1) = 0 then 0 else 1)
theorem z_X4_isLit (M : jm) (o : Nat) (v1 : Int32) : f_X4_isLit M o v1 = 0 ∨ f_X4_isLit M o v1 = 1 := by
  unfold f_X4_isLit
  repeat' split
  all_goals first | exact Or.inl rfl | exact Or.inr rfl
set_option maxRecDepth 100000 in
theorem m_X4_isLit (l : Launch) (X : jX) (M : jm) {o : Nat} (hj : job o 4) (v1 : Int32) (r : Int32) (h : f_X4_isLit M o v1 = r) : Met l yX4_isLit (jws yX4_isLit cX4_isLit 2 (some .boolean)) (jrm 0 0) (va_Pc [.ref (jO X o), .int v1] (jB X M)) (jQ (.int r)) 0 0 (fun _ => False) := by
  refine jm_of (by decide) (Nat.le_of_ble_eq_true rfl) ?_
  intro p e s m args below meth c ls S hr hlocks hB hl
  have S : CallFix p m c cX4_isLit 2 s args jtb RX4 := S
  obtain ⟨hx, hb, hml, hown, hts⟩ := id S
  obtain ⟨hP, hK⟩ := hB
  have hN := hK.2
  have hl : lv_has ls 2 [(0, .ref (jO X o)), (1, .int v1)] := hl
  refine lv_aload_n hx hb dX4_isLit_0 rfl (lv_at hl 0 rfl) ?_
  refine jr_get (k := 4) hx hb hts hown hK hP hj (Nat.le_of_ble_eq_true rfl) jlX4_49 rfl dX4_isLit_1 ?_
  refine lv_iload_n hx hb dX4_isLit_4 rfl (lv_at hl 1 rfl) ?_
  refine lv_ishr hx hb dX4_isLit_5 ?_
  refine lv_iconst (v := 1) hx hb dX4_isLit_6 jci_1 ?_
  refine lv_iand hx hb dX4_isLit_7 ?_
  refine lv_if_eq (tgt := 15) hx hb dX4_isLit_8 rfl (fun c8 => ?_) (fun c8 => ?_)
  · replace h := jh_t h c8
    refine lv_iconst (v := 0) hx hb dX4_isLit_15 jci_0 ?_
    exact je_z hx hb hr hlocks (Or.inl rfl) h dX4_isLit_16
  · replace h := jh_f h c8
    refine lv_iconst (v := 1) hx hb dX4_isLit_11 jci_1 ?_
    refine lv_goto (tgt := 16) hx hb dX4_isLit_12 rfl ?_
    exact je_z hx hb hr hlocks (Or.inr rfl) h dX4_isLit_16
def f_X5_reach (v0 : Int32) (v1 : Int32) : Int32 := (if v0 = 0 then 2 else (if v0 = 1 then 3 else (if v0 = 3 then (2 + (v1 / 2)) else (if v0 = 4 then 1 else (if v0 = 5 then (4 + (v1 / 2)) else 0)))))
set_option maxRecDepth 100000 in
theorem m_X5_reach (l : Launch) (v0 : Int32) (v1 : Int32) (r : Int32) (h : f_X5_reach v0 v1 = r) : Met l yX5_reach (jws yX5_reach cX5_reach 2 (some .int)) (jrm 0 0) (va_Pc [.int v0, .int v1] jN) (jQ (.int r)) 0 0 (fun _ => False) := by
  refine jm_of (by decide) (Nat.le_of_ble_eq_true rfl) ?_
  intro p e s m args below meth c ls S hr hlocks hB hl
  have S : CallFix p m c cX5_reach 2 s args jtb RX5 := S
  obtain ⟨hx, hb, hml, hown, hts⟩ := id S
  have hN := hB
  have hl : lv_has ls 2 [(0, .int v0), (1, .int v1)] := hl
  refine lv_iload_n hx hb dX5_reach_0 rfl (lv_at hl 0 rfl) ?_
  by_cases c1_0 : v0 = 0
  · replace h := jh_t h c1_0
    refine lv_tableIn (off := 39) (tgt := 40) hx hb dX5_reach_1 (by rw [c1_0]; decide) (by rw [c1_0]; decide) (by rw [c1_0]; rfl) rfl ?_
    refine lv_iconst (v := 2) hx hb dX5_reach_40 jci_2 ?_
    exact je_i hx hb hr hlocks h dX5_reach_41
  replace h := jh_f h c1_0
  by_cases c1_1 : v0 = 1
  · replace h := jh_t h c1_1
    refine lv_tableIn (off := 41) (tgt := 42) hx hb dX5_reach_1 (by rw [c1_1]; decide) (by rw [c1_1]; decide) (by rw [c1_1]; rfl) rfl ?_
    refine lv_iconst (v := 3) hx hb dX5_reach_42 jci_3 ?_
    exact je_i hx hb hr hlocks h dX5_reach_43
  replace h := jh_f h c1_1
  by_cases c1_3 : v0 = 3
  · replace h := jh_t h c1_3
    refine lv_tableIn (off := 43) (tgt := 44) hx hb dX5_reach_1 (by rw [c1_3]; decide) (by rw [c1_3]; decide) (by rw [c1_3]; rfl) rfl ?_
    refine lv_iconst (v := 2) hx hb dX5_reach_44 jci_2 ?_
    refine lv_iload_n hx hb dX5_reach_45 rfl (lv_at hl 1 rfl) ?_
    refine lv_iconst (v := 2) hx hb dX5_reach_46 jci_2 ?_
    refine lv_idiv hx hb dX5_reach_47 (by decide) ?_
    refine lv_iadd hx hb dX5_reach_48 ?_
    exact je_i hx hb hr hlocks h dX5_reach_49
  replace h := jh_f h c1_3
  by_cases c1_4 : v0 = 4
  · replace h := jh_t h c1_4
    refine lv_tableIn (off := 49) (tgt := 50) hx hb dX5_reach_1 (by rw [c1_4]; decide) (by rw [c1_4]; decide) (by rw [c1_4]; rfl) rfl ?_
    refine lv_iconst (v := 1) hx hb dX5_reach_50 jci_1 ?_
    exact je_i hx hb hr hlocks h dX5_reach_51
  replace h := jh_f h c1_4
  by_cases c1_5 : v0 = 5
  · replace h := jh_t h c1_5
    refine lv_tableIn (off := 51) (tgt := 52) hx hb dX5_reach_1 (by rw [c1_5]; decide) (by rw [c1_5]; decide) (by rw [c1_5]; rfl) rfl ?_
    refine lv_iconst (v := 4) hx hb dX5_reach_52 jci_4 ?_
    refine lv_iload_n hx hb dX5_reach_53 rfl (lv_at hl 1 rfl) ?_
    refine lv_iconst (v := 2) hx hb dX5_reach_54 jci_2 ?_
    refine lv_idiv hx hb dX5_reach_55 (by decide) ?_
    refine lv_iadd hx hb dX5_reach_56 ?_
    exact je_i hx hb hr hlocks h dX5_reach_57
  replace h := jh_f h c1_5
  refine jr_tdef (ks := [0, 1, 3, 4, 5]) (tgt := 58) hx hb dX5_reach_1 (jsw_cons (jsw_ne c1_0 rfl) (jsw_cons (jsw_ne c1_1 rfl) (jsw_cons (jsw_ne c1_3 rfl) (jsw_cons (jsw_ne c1_4 rfl) (jsw_cons (jsw_ne c1_5 rfl) (jsw_nil)))))) (by decide) rfl ?_
  refine lv_iconst (v := 0) hx hb dX5_reach_58 jci_0 ?_
  exact je_i hx hb hr hlocks h dX5_reach_59
def f_X4_rangeOf (M : jm) (o : Nat) (v1 : Int32) (v2 : Int32) : Option Int32 := (if (f_X4_isLit M o v2) = 0 then (some (-1)) else (jgd v2 8 (jgd v2 8 (jgd v1 6 (if (M o 8 (Int32.toNatClampNeg v1)) = 2 then (some (f_X5_reach (M o 1 (Int32.toNatClampNeg v2)) (M o 2 (Int32.toNatClampNeg v2)))) else (jgd v1 6 (if (M o 8 (Int32.toNatClampNeg v1)) = 1 then (some ((f_X5_reach (M o 1 (Int32.toNatClampNeg v2)) (M o 2 (Int32.toNatClampNeg v2))) / 2)) else (some (-1)))))))))
set_option maxRecDepth 100000 in
theorem m_X4_rangeOf (l : Launch) (X : jX) (M : jm) {o : Nat} (hj : job o 4) (v1 : Int32) (v2 : Int32) (r : Int32) (h : f_X4_rangeOf M o v1 v2 = some r) : Met l yX4_rangeOf (jws yX4_rangeOf cX4_rangeOf 4 (some .int)) (jrm 1 21) (va_Pc [.ref (jO X o), .int v1, .int v2] (jB X M)) (jQ (.int r)) 0 0 (fun _ => False) := by
  refine jm_of (by decide) (Nat.le_of_ble_eq_true rfl) ?_
  intro p e s m args below meth c ls S hr hlocks hB hl
  have S : CallFix p m c cX4_rangeOf 4 s args jtb RX4 := S
  obtain ⟨hx, hb, hml, hown, hts⟩ := id S
  obtain ⟨hP, hK⟩ := hB
  have hN := hK.2
  have hl : lv_has ls 4 [(0, .ref (jO X o)), (1, .int v1), (2, .int v2)] := hl
  refine lv_aload_n hx hb dX4_rangeOf_0 rfl (lv_at hl 0 rfl) ?_
  refine lv_iload_n hx hb dX4_rangeOf_1 rfl (lv_at hl 2 rfl) ?_
  refine jr_kp (jr_rv (As := [.int v2]) (rest := []) S hK hP hj rfl (m_X4_isLit l X M hj v2 _ rfl) jw_X4_isLit ji_X4_isLit jmX4_87 rfl rfl ⟨(Nat.le_of_ble_eq_true rfl), (Nat.le_of_ble_eq_true rfl)⟩ rfl hl.1 rfl (Nat.le_of_ble_eq_true rfl) dX4_rangeOf_2 ⟨Nat.zero_le _, Nat.zero_le _⟩) ?_
  refine lv_if_ne (tgt := 10) hx hb dX4_rangeOf_5 rfl (fun c5 => ?_) (fun c5 => ?_)
  · replace h := jh_f h c5
    refine lv_aload_n hx hb dX4_rangeOf_10 rfl (lv_at hl 0 rfl) ?_
    refine jr_get (k := 1) hx hb hts hown hK hP hj (Nat.le_of_ble_eq_true rfl) jlX4_9 rfl dX4_rangeOf_11 ?_
    refine lv_iload_n hx hb dX4_rangeOf_14 rfl (lv_at hl 2 rfl) ?_
    obtain ⟨g15, h⟩ := jh_gd h
    refine jr_ald (n := 8) hx hb hK hP hj rfl g15 dX4_rangeOf_15 ?_
    refine lv_aload_n hx hb dX4_rangeOf_16 rfl (lv_at hl 0 rfl) ?_
    refine jr_get (k := 2) hx hb hts hown hK hP hj (Nat.le_of_ble_eq_true rfl) jlX4_15 rfl dX4_rangeOf_17 ?_
    refine lv_iload_n hx hb dX4_rangeOf_20 rfl (lv_at hl 2 rfl) ?_
    obtain ⟨g21, h⟩ := jh_gd h
    refine jr_ald (n := 8) hx hb hK hP hj rfl g21 dX4_rangeOf_21 ?_
    refine jr_kp (jr_rn (As := [.int (M o 1 (Int32.toNatClampNeg v2)), .int (M o 2 (Int32.toNatClampNeg v2))]) (rest := []) S hN (m_X5_reach l (M o 1 (Int32.toNatClampNeg v2)) (M o 2 (Int32.toNatClampNeg v2)) _ rfl) jw_X5_reach js_X5_reach (List.mem_of_getElem? (i := 4) rfl) rfl rfl ⟨(Nat.le_of_ble_eq_true rfl), (Nat.le_of_ble_eq_true rfl)⟩ rfl hl.1 rfl (Nat.le_of_ble_eq_true rfl) dX4_rangeOf_22 ⟨Nat.zero_le _, Nat.zero_le _⟩) ?_
    refine lv_istore_n (lv' := [(3, .int (f_X5_reach (M o 1 (Int32.toNatClampNeg v2)) (M o 2 (Int32.toNatClampNeg v2)))), (0, .ref (jO X o)), (1, .int v1), (2, .int v2)]) hx hb dX4_rangeOf_25 rfl hl (Nat.le_of_ble_eq_true rfl) rfl (fun ls hl => ?_)
    refine lv_aload_n hx hb dX4_rangeOf_26 rfl (lv_at hl 1 rfl) ?_
    refine jr_get (k := 8) hx hb hts hown hK hP hj (Nat.le_of_ble_eq_true rfl) jlX4_27 rfl dX4_rangeOf_27 ?_
    refine lv_iload_n hx hb dX4_rangeOf_30 rfl (lv_at hl 2 rfl) ?_
    obtain ⟨g31, h⟩ := jh_gd h
    refine jr_ald (n := 6) hx hb hK hP hj rfl g31 dX4_rangeOf_31 ?_
    refine lv_iconst (v := 2) hx hb dX4_rangeOf_32 jci_2 ?_
    refine lv_icmp_ne (tgt := 38) hx hb dX4_rangeOf_33 rfl (fun c33 => ?_) (fun c33 => ?_)
    · replace h := jh_f h c33
      refine lv_aload_n hx hb dX4_rangeOf_38 rfl (lv_at hl 1 rfl) ?_
      refine jr_get (k := 8) hx hb hts hown hK hP hj (Nat.le_of_ble_eq_true rfl) jlX4_27 rfl dX4_rangeOf_39 ?_
      refine lv_iload_n hx hb dX4_rangeOf_42 rfl (lv_at hl 2 rfl) ?_
      obtain ⟨g43, h⟩ := jh_gd h
      refine jr_ald (n := 6) hx hb hK hP hj rfl g43 dX4_rangeOf_43 ?_
      refine lv_iconst (v := 1) hx hb dX4_rangeOf_44 jci_1 ?_
      refine lv_icmp_ne (tgt := 54) hx hb dX4_rangeOf_45 rfl (fun c45 => ?_) (fun c45 => ?_)
      · replace h := jh_f h c45
        refine lv_iconst (v := (-1)) hx hb dX4_rangeOf_54 jci_m1 ?_
        exact je_i hx hb hr hlocks (Option.some.inj h) dX4_rangeOf_55
      · replace h := jh_t h c45
        refine lv_iload_n hx hb dX4_rangeOf_48 rfl (lv_at hl 0 rfl) ?_
        refine lv_iconst (v := 2) hx hb dX4_rangeOf_49 jci_2 ?_
        refine lv_idiv hx hb dX4_rangeOf_50 (by decide) ?_
        refine lv_goto (tgt := 55) hx hb dX4_rangeOf_51 rfl ?_
        exact je_i hx hb hr hlocks (Option.some.inj h) dX4_rangeOf_55
    · replace h := jh_t h c33
      refine lv_iload_n hx hb dX4_rangeOf_36 rfl (lv_at hl 0 rfl) ?_
      exact je_i hx hb hr hlocks (Option.some.inj h) dX4_rangeOf_37
  · replace h := jh_t h c5
    refine lv_iconst (v := (-1)) hx hb dX4_rangeOf_8 jci_m1 ?_
    exact je_i hx hb hr hlocks (Option.some.inj h) dX4_rangeOf_9
def f_J6_compare_7cf53 (v0 : Int32) (v1 : Int32) : Int32 := (if v1 ≤ v0 then (if v0 = v1 then 0 else 1) else (-1))
set_option maxRecDepth 100000 in
theorem m_J6_compare_7cf53 (l : Launch) (v0 : Int32) (v1 : Int32) (r : Int32) (h : f_J6_compare_7cf53 v0 v1 = r) : Met l yJ6_compare_7cf53 (jws yJ6_compare_7cf53 cJ6_compare_7cf53 2 (some .int)) (jrm 0 0) (va_Pc [.int v0, .int v1] jN) (jQ (.int r)) 0 0 (fun _ => False) := by
  refine jm_of (by decide) (Nat.le_of_ble_eq_true rfl) ?_
  intro p e s m args below meth c ls S hr hlocks hB hl
  have S : CallFix p m c cJ6_compare_7cf53 2 s args jtb RJ6 := S
  obtain ⟨hx, hb, hml, hown, hts⟩ := id S
  have hN := hB
  have hl : lv_has ls 2 [(0, .int v0), (1, .int v1)] := hl
  refine lv_iload_n hx hb dJ6_compare_7cf53_0 rfl (lv_at hl 0 rfl) ?_
  refine lv_iload_n hx hb dJ6_compare_7cf53_1 rfl (lv_at hl 1 rfl) ?_
  refine lv_icmp_ge (tgt := 9) hx hb dJ6_compare_7cf53_2 rfl (fun c2 => ?_) (fun c2 => ?_)
  · replace h := jh_t h c2
    refine lv_iload_n hx hb dJ6_compare_7cf53_9 rfl (lv_at hl 0 rfl) ?_
    refine lv_iload_n hx hb dJ6_compare_7cf53_10 rfl (lv_at hl 1 rfl) ?_
    refine lv_icmp_ne (tgt := 18) hx hb dJ6_compare_7cf53_11 rfl (fun c11 => ?_) (fun c11 => ?_)
    · replace h := jh_f h c11
      refine lv_iconst (v := 1) hx hb dJ6_compare_7cf53_18 jci_1 ?_
      exact je_i hx hb hr hlocks h dJ6_compare_7cf53_19
    · replace h := jh_t h c11
      refine lv_iconst (v := 0) hx hb dJ6_compare_7cf53_14 jci_0 ?_
      refine lv_goto (tgt := 19) hx hb dJ6_compare_7cf53_15 rfl ?_
      exact je_i hx hb hr hlocks h dJ6_compare_7cf53_19
  · replace h := jh_f h c2
    refine lv_iconst (v := (-1)) hx hb dJ6_compare_7cf53_5 jci_m1 ?_
    refine lv_goto (tgt := 19) hx hb dJ6_compare_7cf53_6 rfl ?_
    exact je_i hx hb hr hlocks h dJ6_compare_7cf53_19
def f_X5_stepTowards (v0 : Int32) (v1 : Int32) : Int32 := (if (v1 / 7) ≤ (v0 / 7) then (if (v0 / 7) ≤ (v1 / 7) then (v0 + (f_J6_compare_7cf53 v1 v0)) else (v0 - 7)) else (v0 + 7))
set_option maxRecDepth 100000 in
theorem m_X5_stepTowards (l : Launch) (v0 : Int32) (v1 : Int32) (r : Int32) (h : f_X5_stepTowards v0 v1 = r) : Met l yX5_stepTowards (jws yX5_stepTowards cX5_stepTowards 2 (some .int)) (jrm 1 21) (va_Pc [.int v0, .int v1] jN) (jQ (.int r)) 0 0 (fun _ => False) := by
  refine jm_of (by decide) (Nat.le_of_ble_eq_true rfl) ?_
  intro p e s m args below meth c ls S hr hlocks hB hl
  have S : CallFix p m c cX5_stepTowards 2 s args jtb RX5 := S
  obtain ⟨hx, hb, hml, hown, hts⟩ := id S
  have hN := hB
  have hl : lv_has ls 2 [(0, .int v0), (1, .int v1)] := hl
  refine lv_iload_n hx hb dX5_stepTowards_0 rfl (lv_at hl 0 rfl) ?_
  refine lv_bipush (v := 7) hx hb dX5_stepTowards_1 jcb_7 ?_
  refine lv_idiv hx hb dX5_stepTowards_3 (by decide) ?_
  refine lv_iload_n hx hb dX5_stepTowards_4 rfl (lv_at hl 1 rfl) ?_
  refine lv_bipush (v := 7) hx hb dX5_stepTowards_5 jcb_7 ?_
  refine lv_idiv hx hb dX5_stepTowards_7 (by decide) ?_
  refine lv_icmp_ge (tgt := 16) hx hb dX5_stepTowards_8 rfl (fun c8 => ?_) (fun c8 => ?_)
  · replace h := jh_t h c8
    refine lv_iload_n hx hb dX5_stepTowards_16 rfl (lv_at hl 0 rfl) ?_
    refine lv_bipush (v := 7) hx hb dX5_stepTowards_17 jcb_7 ?_
    refine lv_idiv hx hb dX5_stepTowards_19 (by decide) ?_
    refine lv_iload_n hx hb dX5_stepTowards_20 rfl (lv_at hl 1 rfl) ?_
    refine lv_bipush (v := 7) hx hb dX5_stepTowards_21 jcb_7 ?_
    refine lv_idiv hx hb dX5_stepTowards_23 (by decide) ?_
    refine lv_icmp_le (tgt := 32) hx hb dX5_stepTowards_24 rfl (fun c24 => ?_) (fun c24 => ?_)
    · replace h := jh_t h c24
      refine lv_iload_n hx hb dX5_stepTowards_32 rfl (lv_at hl 0 rfl) ?_
      refine lv_iload_n hx hb dX5_stepTowards_33 rfl (lv_at hl 1 rfl) ?_
      refine lv_iload_n hx hb dX5_stepTowards_34 rfl (lv_at hl 0 rfl) ?_
      refine jr_kp (jr_rs (As := [.int v1, .int v0]) (rest := [.int v0]) S hN (m_J6_compare_7cf53 l v1 v0 _ rfl) jw_J6_compare_7cf53 js_J6_compare_7cf53 jmX5_314 rfl rfl ⟨(Nat.le_of_ble_eq_true rfl), (Nat.le_of_ble_eq_true rfl)⟩ rfl hl.1 rfl (Nat.le_of_ble_eq_true rfl) dX5_stepTowards_35 ⟨Nat.zero_le _, Nat.zero_le _⟩) ?_
      refine lv_iadd hx hb dX5_stepTowards_38 ?_
      exact je_i hx hb hr hlocks h dX5_stepTowards_39
    · replace h := jh_f h c24
      refine lv_iload_n hx hb dX5_stepTowards_27 rfl (lv_at hl 0 rfl) ?_
      refine lv_bipush (v := 7) hx hb dX5_stepTowards_28 jcb_7 ?_
      refine lv_isub hx hb dX5_stepTowards_30 ?_
      exact je_i hx hb hr hlocks h dX5_stepTowards_31
  · replace h := jh_f h c8
    refine lv_iload_n hx hb dX5_stepTowards_11 rfl (lv_at hl 0 rfl) ?_
    refine lv_bipush (v := 7) hx hb dX5_stepTowards_12 jcb_7 ?_
    refine lv_iadd hx hb dX5_stepTowards_14 ?_
    exact je_i hx hb hr hlocks h dX5_stepTowards_15
def f_X5_steps (v0 : Int32) (v1 : Int32) : Int32 := ((if 0 ≤ ((v0 / 7) - (v1 / 7)) then ((v0 / 7) - (v1 / 7)) else 0 - ((v0 / 7) - (v1 / 7))) + (if 0 ≤ ((v0 - v0 / 7 * 7) - (v1 - v1 / 7 * 7)) then ((v0 - v0 / 7 * 7) - (v1 - v1 / 7 * 7)) else 0 - ((v0 - v0 / 7 * 7) - (v1 - v1 / 7 * 7))))
set_option maxRecDepth 100000 in
theorem m_X5_steps (l : Launch) (v0 : Int32) (v1 : Int32) (r : Int32) (h : f_X5_steps v0 v1 = r) : Met l yX5_steps (jws yX5_steps cX5_steps 2 (some .int)) (jrm 1 21) (va_Pc [.int v0, .int v1] jN) (jQ (.int r)) 0 0 (fun _ => False) := by
  refine jm_of (by decide) (Nat.le_of_ble_eq_true rfl) ?_
  intro p e s m args below meth c ls S hr hlocks hB hl
  have S : CallFix p m c cX5_steps 2 s args jtb RX5 := S
  obtain ⟨hx, hb, hml, hown, hts⟩ := id S
  have hN := hB
  have hl : lv_has ls 2 [(0, .int v0), (1, .int v1)] := hl
  refine lv_iload_n hx hb dX5_steps_0 rfl (lv_at hl 0 rfl) ?_
  refine lv_bipush (v := 7) hx hb dX5_steps_1 jcb_7 ?_
  refine lv_idiv hx hb dX5_steps_3 (by decide) ?_
  refine lv_iload_n hx hb dX5_steps_4 rfl (lv_at hl 1 rfl) ?_
  refine lv_bipush (v := 7) hx hb dX5_steps_5 jcb_7 ?_
  refine lv_idiv hx hb dX5_steps_7 (by decide) ?_
  refine lv_isub hx hb dX5_steps_8 ?_
  refine va_mabs hx hb (hml.trans hl.1.symm) hown (hts _ jmX5_311) (hts _ jstM_abs) (hts _ jinM) (hts _ jcoM_abs) (Nat.le_of_ble_eq_true rfl) (Nat.le_of_ble_eq_true rfl) (Nat.zero_le _) (Nat.zero_le _) dX5_steps_9 ?_
  refine lv_iload_n hx hb dX5_steps_12 rfl (lv_at hl 0 rfl) ?_
  refine lv_bipush (v := 7) hx hb dX5_steps_13 jcb_7 ?_
  refine lv_irem hx hb dX5_steps_15 (by decide) ?_
  refine lv_iload_n hx hb dX5_steps_16 rfl (lv_at hl 1 rfl) ?_
  refine lv_bipush (v := 7) hx hb dX5_steps_17 jcb_7 ?_
  refine lv_irem hx hb dX5_steps_19 (by decide) ?_
  refine lv_isub hx hb dX5_steps_20 ?_
  refine va_mabs hx hb (hml.trans hl.1.symm) hown (hts _ jmX5_311) (hts _ jstM_abs) (hts _ jinM) (hts _ jcoM_abs) (Nat.le_of_ble_eq_true rfl) (Nat.le_of_ble_eq_true rfl) (Nat.zero_le _) (Nat.zero_le _) dX5_steps_21 ?_
  refine lv_iadd hx hb dX5_steps_24 ?_
  exact je_i hx hb hr hlocks h dX5_steps_25
def f_X4_firstSighting_l27 (M : jm) (o : Nat) (v1_2 : Int32) (v2_2 : Int32) (v3_2 : Int32) (v4_2 : Int32) : Nat → Int32 → Int32 → Option Int32
  | 0, _, _ => none
  | k_2 + 1, v5_2, v6_2 => (if v3_2 < v6_2 then (some (-9)) else (jgd v1_2 6 (jgd v2_2 8 (if v4_2 < (f_X5_steps (f_X5_stepTowards v5_2 (M o 7 (Int32.toNatClampNeg v1_2))) (M o 3 (Int32.toNatClampNeg v2_2))) then (jgd v1_2 6 (if (f_X5_stepTowards v5_2 (M o 7 (Int32.toNatClampNeg v1_2))) = (M o 7 (Int32.toNatClampNeg v1_2)) then (some (-9)) else ((f_X4_firstSighting_l27 M o v1_2 v2_2 v3_2 v4_2 k_2) (f_X5_stepTowards v5_2 (M o 7 (Int32.toNatClampNeg v1_2))) (v6_2 + 1)))) else (some v6_2)))))
def f_X4_firstSighting (M : jm) (o : Nat) (v1 : Int32) (v2 : Int32) (v3 : Int32) : Option Int32 := (jb (f_X4_rangeOf M o v1 v2) fun r1 => (if 0 ≤ r1 then (jgd v1 6 (f_X4_firstSighting_l27 M o v1 v2 v3 r1 10000 (M o 6 (Int32.toNatClampNeg v1)) 1)) else (some (-9))))
set_option maxRecDepth 100000 in
theorem m_X4_firstSighting (l : Launch) (X : jX) (M : jm) {o : Nat} (hj : job o 4) (v1 : Int32) (v2 : Int32) (v3 : Int32) (r : Int32) (h : f_X4_firstSighting M o v1 v2 v3 = some r) : Met l yX4_firstSighting (jws yX4_firstSighting cX4_firstSighting 7 (some .int)) (jrm 2 44) (va_Pc [.ref (jO X o), .int v1, .int v2, .int v3] (jB X M)) (jQ (.int r)) 0 0 (fun _ => False) := by
  refine jm_of (by decide) (Nat.le_of_ble_eq_true rfl) ?_
  intro p e s m args below meth c ls S hr hlocks hB hl
  have S : CallFix p m c cX4_firstSighting 7 s args jtb RX4 := S
  obtain ⟨hx, hb, hml, hown, hts⟩ := id S
  obtain ⟨hP, hK⟩ := hB
  have hN := hK.2
  have hl : lv_has ls 7 [(0, .ref (jO X o)), (1, .int v1), (2, .int v2), (3, .int v3)] := hl
  refine lv_aload_n hx hb dX4_firstSighting_0 rfl (lv_at hl 0 rfl) ?_
  refine lv_iload_n hx hb dX4_firstSighting_1 rfl (lv_at hl 1 rfl) ?_
  refine lv_iload_n hx hb dX4_firstSighting_2 rfl (lv_at hl 2 rfl) ?_
  obtain ⟨r1, e1, h⟩ := jh_b h
  refine jr_kp (jr_rv (As := [.int v1, .int v2]) (rest := []) S hK hP hj rfl (m_X4_rangeOf l X M hj v1 v2 r1 e1) jw_X4_rangeOf ji_X4_rangeOf jmX4_96 rfl rfl ⟨(Nat.le_of_ble_eq_true rfl), (Nat.le_of_ble_eq_true rfl)⟩ rfl hl.1 rfl (Nat.le_of_ble_eq_true rfl) dX4_firstSighting_3 ⟨Nat.zero_le _, Nat.zero_le _⟩) ?_
  refine lv_istore (lv' := [(4, .int r1), (0, .ref (jO X o)), (1, .int v1), (2, .int v2), (3, .int v3)]) hx hb dX4_firstSighting_6 hl (Nat.le_of_ble_eq_true rfl) rfl (fun ls hl => ?_)
  refine lv_iload hx hb dX4_firstSighting_8 (lv_at hl 0 rfl) ?_
  refine lv_if_ge (tgt := 16) hx hb dX4_firstSighting_10 rfl (fun c10 => ?_) (fun c10 => ?_)
  · replace h := jh_t h c10
    refine lv_aload_n hx hb dX4_firstSighting_16 rfl (lv_at hl 1 rfl) ?_
    refine jr_get (k := 6) hx hb hts hown hK hP hj (Nat.le_of_ble_eq_true rfl) jlX4_21 rfl dX4_firstSighting_17 ?_
    refine lv_iload_n hx hb dX4_firstSighting_20 rfl (lv_at hl 2 rfl) ?_
    obtain ⟨g21, h⟩ := jh_gd h
    refine jr_ald (n := 6) hx hb hK hP hj rfl g21 dX4_firstSighting_21 ?_
    refine lv_istore (lv' := [(5, .int (M o 6 (Int32.toNatClampNeg v1))), (4, .int r1), (0, .ref (jO X o)), (1, .int v1), (2, .int v2), (3, .int v3)]) hx hb dX4_firstSighting_22 hl (Nat.le_of_ble_eq_true rfl) rfl (fun ls hl => ?_)
    refine lv_iconst (v := 1) hx hb dX4_firstSighting_24 jci_1 ?_
    refine lv_istore (lv' := [(6, .int 1), (5, .int (M o 6 (Int32.toNatClampNeg v1))), (4, .int r1), (0, .ref (jO X o)), (1, .int v1), (2, .int v2), (3, .int v3)]) hx hb dX4_firstSighting_25 hl (Nat.le_of_ble_eq_true rfl) rfl (fun ls hl => ?_)
    have L27 : ∀ (v1_2 : Int32) (v2_2 : Int32) (v3_2 : Int32) (v4_2 : Int32) (k_2 : Nat) (v5_2 : Int32) (v6_2 : Int32) (ls : Array Slot), f_X4_firstSighting_l27 M o v1_2 v2_2 v3_2 v4_2 k_2 v5_2 v6_2 = some r → lv_has ls 7 [(0, .ref (jO X o)), (1, .int v1_2), (2, .int v2_2), (3, .int v3_2), (4, .int v4_2), (5, .int v5_2), (6, .int v6_2)] → W p l e (jrm 2 44) s m args below meth c s.heap [] 0 0 (MQ below (jQ (.int r)) args s 0 0 (fun _ => False)) (F0 m 27 ls []) := by
      intro v1_2 v2_2 v3_2 v4_2 k_2
      induction k_2 with
      | zero => intro v5_2 v6_2 ls h; exact jh_0 h
      | succ k_2 ih27 =>
        intro v5_2 v6_2 ls h hl
        refine lv_iload hx hb dX4_firstSighting_27 (lv_at hl 6 rfl) ?_
        refine lv_iload_n hx hb dX4_firstSighting_29 rfl (lv_at hl 3 rfl) ?_
        refine lv_icmp_gt (tgt := 85) hx hb dX4_firstSighting_30 rfl (fun c30 => ?_) (fun c30 => ?_)
        · replace h := jh_t h c30
          refine lv_bipush (v := (-9)) hx hb dX4_firstSighting_85 jcb_m9 ?_
          exact je_i hx hb hr hlocks (Option.some.inj h) dX4_firstSighting_87
        · replace h := jh_f h c30
          refine lv_iload hx hb dX4_firstSighting_33 (lv_at hl 5 rfl) ?_
          refine lv_aload_n hx hb dX4_firstSighting_35 rfl (lv_at hl 0 rfl) ?_
          refine jr_get (k := 7) hx hb hts hown hK hP hj (Nat.le_of_ble_eq_true rfl) jlX4_24 rfl dX4_firstSighting_36 ?_
          refine lv_iload_n hx hb dX4_firstSighting_39 rfl (lv_at hl 1 rfl) ?_
          obtain ⟨g40, h⟩ := jh_gd h
          refine jr_ald (n := 6) hx hb hK hP hj rfl g40 dX4_firstSighting_40 ?_
          refine jr_kp (jr_rn (As := [.int v5_2, .int (M o 7 (Int32.toNatClampNeg v1_2))]) (rest := []) S hN (m_X5_stepTowards l v5_2 (M o 7 (Int32.toNatClampNeg v1_2)) _ rfl) jw_X5_stepTowards js_X5_stepTowards (List.mem_of_getElem? (i := 5) rfl) rfl rfl ⟨(Nat.le_of_ble_eq_true rfl), (Nat.le_of_ble_eq_true rfl)⟩ rfl hl.1 rfl (Nat.le_of_ble_eq_true rfl) dX4_firstSighting_41 ⟨Nat.zero_le _, Nat.zero_le _⟩) ?_
          refine lv_istore (lv' := [(5, .int (f_X5_stepTowards v5_2 (M o 7 (Int32.toNatClampNeg v1_2)))), (0, .ref (jO X o)), (1, .int v1_2), (2, .int v2_2), (3, .int v3_2), (4, .int v4_2), (6, .int v6_2)]) hx hb dX4_firstSighting_44 hl (Nat.le_of_ble_eq_true rfl) rfl (fun ls hl => ?_)
          refine lv_iload hx hb dX4_firstSighting_46 (lv_at hl 0 rfl) ?_
          refine lv_aload_n hx hb dX4_firstSighting_48 rfl (lv_at hl 1 rfl) ?_
          refine jr_get (k := 3) hx hb hts hown hK hP hj (Nat.le_of_ble_eq_true rfl) jlX4_18 rfl dX4_firstSighting_49 ?_
          refine lv_iload_n hx hb dX4_firstSighting_52 rfl (lv_at hl 3 rfl) ?_
          obtain ⟨g53, h⟩ := jh_gd h
          refine jr_ald (n := 8) hx hb hK hP hj rfl g53 dX4_firstSighting_53 ?_
          refine jr_kp (jr_rn (As := [.int (f_X5_stepTowards v5_2 (M o 7 (Int32.toNatClampNeg v1_2))), .int (M o 3 (Int32.toNatClampNeg v2_2))]) (rest := []) S hN (m_X5_steps l (f_X5_stepTowards v5_2 (M o 7 (Int32.toNatClampNeg v1_2))) (M o 3 (Int32.toNatClampNeg v2_2)) _ rfl) jw_X5_steps js_X5_steps (List.mem_of_getElem? (i := 6) rfl) rfl rfl ⟨(Nat.le_of_ble_eq_true rfl), (Nat.le_of_ble_eq_true rfl)⟩ rfl hl.1 rfl (Nat.le_of_ble_eq_true rfl) dX4_firstSighting_54 ⟨Nat.zero_le _, Nat.zero_le _⟩) ?_
          refine lv_iload hx hb dX4_firstSighting_57 (lv_at hl 5 rfl) ?_
          refine lv_icmp_gt (tgt := 65) hx hb dX4_firstSighting_59 rfl (fun c59 => ?_) (fun c59 => ?_)
          · replace h := jh_t h c59
            refine lv_iload hx hb dX4_firstSighting_65 (lv_at hl 0 rfl) ?_
            refine lv_aload_n hx hb dX4_firstSighting_67 rfl (lv_at hl 1 rfl) ?_
            refine jr_get (k := 7) hx hb hts hown hK hP hj (Nat.le_of_ble_eq_true rfl) jlX4_24 rfl dX4_firstSighting_68 ?_
            refine lv_iload_n hx hb dX4_firstSighting_71 rfl (lv_at hl 2 rfl) ?_
            obtain ⟨g72, h⟩ := jh_gd h
            refine jr_ald (n := 6) hx hb hK hP hj rfl g72 dX4_firstSighting_72 ?_
            refine lv_icmp_ne (tgt := 79) hx hb dX4_firstSighting_73 rfl (fun c73 => ?_) (fun c73 => ?_)
            · replace h := jh_f h c73
              refine lv_iinc (v := (v6_2 + 1)) (lv' := [(6, .int (v6_2 + 1)), (5, .int (f_X5_stepTowards v5_2 (M o 7 (Int32.toNatClampNeg v1_2)))), (0, .ref (jO X o)), (1, .int v1_2), (2, .int v2_2), (3, .int v3_2), (4, .int v4_2)]) hx hb dX4_firstSighting_79 hl (k := 6) rfl (congrArg _ jci_1) (Nat.le_of_ble_eq_true rfl) rfl (fun ls hl => ?_)
              refine lv_goto (tgt := 27) hx hb dX4_firstSighting_82 rfl ?_
              exact ih27 (f_X5_stepTowards v5_2 (M o 7 (Int32.toNatClampNeg v1_2))) (v6_2 + 1) _ h (lv_sub hl [2, 3, 4, 5, 6, 1, 0] rfl)
            · replace h := jh_t h c73
              refine lv_bipush (v := (-9)) hx hb dX4_firstSighting_76 jcb_m9 ?_
              exact je_i hx hb hr hlocks (Option.some.inj h) dX4_firstSighting_78
          · replace h := jh_f h c59
            refine lv_iload hx hb dX4_firstSighting_62 (lv_at hl 6 rfl) ?_
            exact je_i hx hb hr hlocks (Option.some.inj h) dX4_firstSighting_64
    exact L27 v1 v2 v3 r1 10000 (M o 6 (Int32.toNatClampNeg v1)) 1 _ h (lv_sub hl [3, 4, 5, 6, 2, 1, 0] rfl)
  · replace h := jh_f h c10
    refine lv_bipush (v := (-9)) hx hb dX4_firstSighting_13 jcb_m9 ?_
    exact je_i hx hb hr hlocks (Option.some.inj h) dX4_firstSighting_15
def f_X4_ageBehind (M : jm) (o : Nat) (v1 : Int32) (v2 : Int32) (v3 : Int32) : Option Int32 := (jgd ((v1 * 8) + v2) 48 (if (M o 9 (Int32.toNatClampNeg ((v1 * 8) + v2))) = (-1) then (jb (f_X4_firstSighting M o v1 v2 v3) fun r1 => (if r1 ≤ 0 then (some (-1)) else (some (v3 - r1)))) else (some (if ((M o 9 (Int32.toNatClampNeg ((v1 * 8) + v2))) + v3) < 99 then ((M o 9 (Int32.toNatClampNeg ((v1 * 8) + v2))) + v3) else 99))))
set_option maxRecDepth 100000 in
theorem m_X4_ageBehind (l : Launch) (X : jX) (M : jm) {o : Nat} (hj : job o 4) (v1 : Int32) (v2 : Int32) (v3 : Int32) (r : Int32) (h : f_X4_ageBehind M o v1 v2 v3 = some r) : Met l yX4_ageBehind (jws yX4_ageBehind cX4_ageBehind 6 (some .int)) (jrm 3 70) (va_Pc [.ref (jO X o), .int v1, .int v2, .int v3] (jB X M)) (jQ (.int r)) 0 0 (fun _ => False) := by
  refine jm_of (by decide) (Nat.le_of_ble_eq_true rfl) ?_
  intro p e s m args below meth c ls S hr hlocks hB hl
  have S : CallFix p m c cX4_ageBehind 6 s args jtb RX4 := S
  obtain ⟨hx, hb, hml, hown, hts⟩ := id S
  obtain ⟨hP, hK⟩ := hB
  have hN := hK.2
  have hl : lv_has ls 6 [(0, .ref (jO X o)), (1, .int v1), (2, .int v2), (3, .int v3)] := hl
  refine lv_aload_n hx hb dX4_ageBehind_0 rfl (lv_at hl 0 rfl) ?_
  refine jr_get (k := 9) hx hb hts hown hK hP hj (Nat.le_of_ble_eq_true rfl) jlX4_30 rfl dX4_ageBehind_1 ?_
  refine lv_iload_n hx hb dX4_ageBehind_4 rfl (lv_at hl 1 rfl) ?_
  refine lv_bipush (v := 8) hx hb dX4_ageBehind_5 jcb_8 ?_
  refine lv_imul hx hb dX4_ageBehind_7 ?_
  refine lv_iload_n hx hb dX4_ageBehind_8 rfl (lv_at hl 2 rfl) ?_
  refine lv_iadd hx hb dX4_ageBehind_9 ?_
  obtain ⟨g10, h⟩ := jh_gd h
  refine jr_ald (n := 48) hx hb hK hP hj rfl g10 dX4_ageBehind_10 ?_
  refine lv_istore (lv' := [(4, .int (M o 9 (Int32.toNatClampNeg ((v1 * 8) + v2)))), (0, .ref (jO X o)), (1, .int v1), (2, .int v2), (3, .int v3)]) hx hb dX4_ageBehind_11 hl (Nat.le_of_ble_eq_true rfl) rfl (fun ls hl => ?_)
  refine lv_iload hx hb dX4_ageBehind_13 (lv_at hl 0 rfl) ?_
  refine lv_iconst (v := (-1)) hx hb dX4_ageBehind_15 jci_m1 ?_
  refine lv_icmp_eq (tgt := 29) hx hb dX4_ageBehind_16 rfl (fun c16 => ?_) (fun c16 => ?_)
  · replace h := jh_t h c16
    refine lv_aload_n hx hb dX4_ageBehind_29 rfl (lv_at hl 1 rfl) ?_
    refine lv_iload_n hx hb dX4_ageBehind_30 rfl (lv_at hl 2 rfl) ?_
    refine lv_iload_n hx hb dX4_ageBehind_31 rfl (lv_at hl 3 rfl) ?_
    refine lv_iload_n hx hb dX4_ageBehind_32 rfl (lv_at hl 4 rfl) ?_
    obtain ⟨r1, e1, h⟩ := jh_b h
    refine jr_kp (jr_rv (As := [.int v1, .int v2, .int v3]) (rest := []) S hK hP hj rfl (m_X4_firstSighting l X M hj v1 v2 v3 r1 e1) jw_X4_firstSighting ji_X4_firstSighting jmX4_107 rfl rfl ⟨(Nat.le_of_ble_eq_true rfl), (Nat.le_of_ble_eq_true rfl)⟩ rfl hl.1 rfl (Nat.le_of_ble_eq_true rfl) dX4_ageBehind_33 ⟨Nat.zero_le _, Nat.zero_le _⟩) ?_
    refine lv_istore (lv' := [(5, .int r1), (4, .int (M o 9 (Int32.toNatClampNeg ((v1 * 8) + v2)))), (0, .ref (jO X o)), (1, .int v1), (2, .int v2), (3, .int v3)]) hx hb dX4_ageBehind_36 hl (Nat.le_of_ble_eq_true rfl) rfl (fun ls hl => ?_)
    refine lv_iload hx hb dX4_ageBehind_38 (lv_at hl 0 rfl) ?_
    refine lv_if_le (tgt := 50) hx hb dX4_ageBehind_40 rfl (fun c40 => ?_) (fun c40 => ?_)
    · replace h := jh_t h c40
      refine lv_iconst (v := (-1)) hx hb dX4_ageBehind_50 jci_m1 ?_
      exact je_i hx hb hr hlocks (Option.some.inj h) dX4_ageBehind_51
    · replace h := jh_f h c40
      refine lv_iload_n hx hb dX4_ageBehind_43 rfl (lv_at hl 5 rfl) ?_
      refine lv_iload hx hb dX4_ageBehind_44 (lv_at hl 0 rfl) ?_
      refine lv_isub hx hb dX4_ageBehind_46 ?_
      refine lv_goto (tgt := 51) hx hb dX4_ageBehind_47 rfl ?_
      exact je_i hx hb hr hlocks (Option.some.inj h) dX4_ageBehind_51
  · replace h := jh_f h c16
    refine lv_bipush (v := 99) hx hb dX4_ageBehind_19 jcb_99 ?_
    refine lv_iload hx hb dX4_ageBehind_21 (lv_at hl 0 rfl) ?_
    refine lv_iload_n hx hb dX4_ageBehind_23 rfl (lv_at hl 4 rfl) ?_
    refine lv_iadd hx hb dX4_ageBehind_24 ?_
    refine va_mmin hx hb (hml.trans hl.1.symm) hown (hts _ jmX4_102) (hts _ jstM_min) (hts _ jinM) (hts _ jcoM_min) (Nat.le_of_ble_eq_true rfl) (Nat.le_of_ble_eq_true rfl) (Nat.zero_le _) (Nat.zero_le _) dX4_ageBehind_25 ?_
    exact je_i hx hb hr hlocks (Option.some.inj h) dX4_ageBehind_28
def f_X4_placeBehind_l10 (M : jm) (o : Nat) (v1_1 : Int32) (v2_1 : Int32) : Nat → Int32 → Int32 → Option Int32
  | 0, _, _ => none
  | k_1 + 1, v3_1, v4_1 => (if v2_1 < v4_1 then (some v3_1) else (jgd v1_1 6 (if v3_1 = (M o 7 (Int32.toNatClampNeg v1_1)) then (some v3_1) else (jgd v1_1 6 ((f_X4_placeBehind_l10 M o v1_1 v2_1 k_1) (f_X5_stepTowards v3_1 (M o 7 (Int32.toNatClampNeg v1_1))) (v4_1 + 1))))))
def f_X4_placeBehind (M : jm) (o : Nat) (v1 : Int32) (v2 : Int32) : Option Int32 := (jgd v1 6 (f_X4_placeBehind_l10 M o v1 v2 10000 (M o 6 (Int32.toNatClampNeg v1)) 1))
set_option maxRecDepth 100000 in
theorem m_X4_placeBehind (l : Launch) (X : jX) (M : jm) {o : Nat} (hj : job o 4) (v1 : Int32) (v2 : Int32) (r : Int32) (h : f_X4_placeBehind M o v1 v2 = some r) : Met l yX4_placeBehind (jws yX4_placeBehind cX4_placeBehind 5 (some .int)) (jrm 2 42) (va_Pc [.ref (jO X o), .int v1, .int v2] (jB X M)) (jQ (.int r)) 0 0 (fun _ => False) := by
  refine jm_of (by decide) (Nat.le_of_ble_eq_true rfl) ?_
  intro p e s m args below meth c ls S hr hlocks hB hl
  have S : CallFix p m c cX4_placeBehind 5 s args jtb RX4 := S
  obtain ⟨hx, hb, hml, hown, hts⟩ := id S
  obtain ⟨hP, hK⟩ := hB
  have hN := hK.2
  have hl : lv_has ls 5 [(0, .ref (jO X o)), (1, .int v1), (2, .int v2)] := hl
  refine lv_aload_n hx hb dX4_placeBehind_0 rfl (lv_at hl 0 rfl) ?_
  refine jr_get (k := 6) hx hb hts hown hK hP hj (Nat.le_of_ble_eq_true rfl) jlX4_21 rfl dX4_placeBehind_1 ?_
  refine lv_iload_n hx hb dX4_placeBehind_4 rfl (lv_at hl 1 rfl) ?_
  obtain ⟨g5, h⟩ := jh_gd h
  refine jr_ald (n := 6) hx hb hK hP hj rfl g5 dX4_placeBehind_5 ?_
  refine lv_istore_n (lv' := [(3, .int (M o 6 (Int32.toNatClampNeg v1))), (0, .ref (jO X o)), (1, .int v1), (2, .int v2)]) hx hb dX4_placeBehind_6 rfl hl (Nat.le_of_ble_eq_true rfl) rfl (fun ls hl => ?_)
  refine lv_iconst (v := 1) hx hb dX4_placeBehind_7 jci_1 ?_
  refine lv_istore (lv' := [(4, .int 1), (3, .int (M o 6 (Int32.toNatClampNeg v1))), (0, .ref (jO X o)), (1, .int v1), (2, .int v2)]) hx hb dX4_placeBehind_8 hl (Nat.le_of_ble_eq_true rfl) rfl (fun ls hl => ?_)
  have L10 : ∀ (v1_1 : Int32) (v2_1 : Int32) (k_1 : Nat) (v3_1 : Int32) (v4_1 : Int32) (ls : Array Slot), f_X4_placeBehind_l10 M o v1_1 v2_1 k_1 v3_1 v4_1 = some r → lv_has ls 5 [(0, .ref (jO X o)), (1, .int v1_1), (2, .int v2_1), (3, .int v3_1), (4, .int v4_1)] → W p l e (jrm 2 42) s m args below meth c s.heap [] 0 0 (MQ below (jQ (.int r)) args s 0 0 (fun _ => False)) (F0 m 10 ls []) := by
    intro v1_1 v2_1 k_1
    induction k_1 with
    | zero => intro v3_1 v4_1 ls h; exact jh_0 h
    | succ k_1 ih10 =>
      intro v3_1 v4_1 ls h hl
      refine lv_iload hx hb dX4_placeBehind_10 (lv_at hl 4 rfl) ?_
      refine lv_iload_n hx hb dX4_placeBehind_12 rfl (lv_at hl 2 rfl) ?_
      refine lv_icmp_gt (tgt := 43) hx hb dX4_placeBehind_13 rfl (fun c13 => ?_) (fun c13 => ?_)
      · replace h := jh_t h c13
        refine lv_iload_n hx hb dX4_placeBehind_43 rfl (lv_at hl 3 rfl) ?_
        exact je_i hx hb hr hlocks (Option.some.inj h) dX4_placeBehind_44
      · replace h := jh_f h c13
        refine lv_iload_n hx hb dX4_placeBehind_16 rfl (lv_at hl 3 rfl) ?_
        refine lv_aload_n hx hb dX4_placeBehind_17 rfl (lv_at hl 0 rfl) ?_
        refine jr_get (k := 7) hx hb hts hown hK hP hj (Nat.le_of_ble_eq_true rfl) jlX4_24 rfl dX4_placeBehind_18 ?_
        refine lv_iload_n hx hb dX4_placeBehind_21 rfl (lv_at hl 1 rfl) ?_
        obtain ⟨g22, h⟩ := jh_gd h
        refine jr_ald (n := 6) hx hb hK hP hj rfl g22 dX4_placeBehind_22 ?_
        refine lv_icmp_eq (tgt := 43) hx hb dX4_placeBehind_23 rfl (fun c23 => ?_) (fun c23 => ?_)
        · replace h := jh_t h c23
          refine lv_iload_n hx hb dX4_placeBehind_43 rfl (lv_at hl 3 rfl) ?_
          exact je_i hx hb hr hlocks (Option.some.inj h) dX4_placeBehind_44
        · replace h := jh_f h c23
          refine lv_iload_n hx hb dX4_placeBehind_26 rfl (lv_at hl 3 rfl) ?_
          refine lv_aload_n hx hb dX4_placeBehind_27 rfl (lv_at hl 0 rfl) ?_
          refine jr_get (k := 7) hx hb hts hown hK hP hj (Nat.le_of_ble_eq_true rfl) jlX4_24 rfl dX4_placeBehind_28 ?_
          refine lv_iload_n hx hb dX4_placeBehind_31 rfl (lv_at hl 1 rfl) ?_
          obtain ⟨g32, h⟩ := jh_gd h
          refine jr_ald (n := 6) hx hb hK hP hj rfl g32 dX4_placeBehind_32 ?_
          refine jr_kp (jr_rn (As := [.int v3_1, .int (M o 7 (Int32.toNatClampNeg v1_1))]) (rest := []) S hN (m_X5_stepTowards l v3_1 (M o 7 (Int32.toNatClampNeg v1_1)) _ rfl) jw_X5_stepTowards js_X5_stepTowards (List.mem_of_getElem? (i := 5) rfl) rfl rfl ⟨(Nat.le_of_ble_eq_true rfl), (Nat.le_of_ble_eq_true rfl)⟩ rfl hl.1 rfl (Nat.le_of_ble_eq_true rfl) dX4_placeBehind_33 ⟨Nat.zero_le _, Nat.zero_le _⟩) ?_
          refine lv_istore_n (lv' := [(3, .int (f_X5_stepTowards v3_1 (M o 7 (Int32.toNatClampNeg v1_1)))), (0, .ref (jO X o)), (1, .int v1_1), (2, .int v2_1), (4, .int v4_1)]) hx hb dX4_placeBehind_36 rfl hl (Nat.le_of_ble_eq_true rfl) rfl (fun ls hl => ?_)
          refine lv_iinc (v := (v4_1 + 1)) (lv' := [(4, .int (v4_1 + 1)), (3, .int (f_X5_stepTowards v3_1 (M o 7 (Int32.toNatClampNeg v1_1)))), (0, .ref (jO X o)), (1, .int v1_1), (2, .int v2_1)]) hx hb dX4_placeBehind_37 hl (k := 4) rfl (congrArg _ jci_1) (Nat.le_of_ble_eq_true rfl) rfl (fun ls hl => ?_)
          refine lv_goto (tgt := 10) hx hb dX4_placeBehind_40 rfl ?_
          exact ih10 (f_X5_stepTowards v3_1 (M o 7 (Int32.toNatClampNeg v1_1))) (v4_1 + 1) _ h (lv_sub hl [2, 3, 4, 1, 0] rfl)
  exact L10 v1 v2 10000 (M o 6 (Int32.toNatClampNeg v1)) 1 _ h (lv_sub hl [2, 3, 4, 1, 0] rfl)
def f_X4_pass_l37 (o : Nat) (K27_2 : jm → Int32 → Option (Int32 × jm)) (v1_1 : Int32) (v2_2 : Int32) : Nat → jm → Int32 → Option (Int32 × jm)
  | 0, _, _ => none
  | k_2 + 1, M_2, v3_2 => (if (M_2 o 0 0) ≤ v3_2 then (jb (f_X4_placeBehind M_2 o v2_2 v1_1) fun r3 => (jgd v2_2 6 (K27_2 (ju M_2 o 6 (Int32.toNatClampNeg v2_2) r3) (v2_2 + 1)))) else (jb (f_X4_ageBehind M_2 o v2_2 v3_2 v1_1) fun r4 => (jb (f_X4_setDebt M_2 o v2_2 v3_2 r4) fun M_5 => ((f_X4_pass_l37 o K27_2 v1_1 v2_2 k_2) M_5 (v3_2 + 1)))))
def f_X4_pass_l27 (o : Nat) (v1_1 : Int32) : Nat → jm → Int32 → Option (Int32 × jm)
  | 0, _, _ => none
  | k_1 + 1, M_1, v2_1 => (if (M_1 o 5 0) ≤ v2_1 then (some (1, (ju M_1 o 10 0 ((M_1 o 10 0) + v1_1)))) else (f_X4_pass_l37 o (f_X4_pass_l27 o v1_1 k_1) v1_1 v2_1 10000 M_1 0))
def f_X4_pass (M : jm) (o : Nat) (v1 : Int32) : Option (Int32 × jm) := (if v1 < 1 then (some (0, M)) else (if 60 < v1 then (some (0, M)) else (if ((M o 10 0) + v1) ≤ 999 then (f_X4_pass_l27 o v1 10000 M 0) else (some (0, M)))))
set_option maxRecDepth 100000 in
theorem m_X4_pass (l : Launch) (X : jX) (A : Nat → Prop) (hs : jst X A) (M : jm) {o : Nat} (hj : job o 4) (v1 : Int32) (r : Int32) (N : jm) (h : f_X4_pass M o v1 = some (r, N)) : Met l yX4_pass (jws yX4_pass cX4_pass 4 (some .boolean)) (jrm 4 95) (va_Pc [.ref (jO X o), .int v1] (jB X M)) (jQm X A (some (.int r)) N) 0 0 A := by
  refine jm_of (by decide) (Nat.le_of_ble_eq_true rfl) ?_
  intro p e s m args below meth c ls S hr hlocks hB hl
  have S : CallFix p m c cX4_pass 4 s args jtb RX4 := S
  obtain ⟨hx, hb, hml, hown, hts⟩ := id S
  obtain ⟨hP, hK⟩ := hB
  have hN := hK.2
  have hS : va_S A s.heap s.heap [] := va_S.rf
  have hl : lv_has ls 4 [(0, .ref (jO X o)), (1, .int v1)] := hl
  refine lv_iload_n hx hb dX4_pass_0 rfl (lv_at hl 1 rfl) ?_
  refine lv_iconst (v := 1) hx hb dX4_pass_1 jci_1 ?_
  refine lv_icmp_lt (tgt := 23) hx hb dX4_pass_2 rfl (fun c2 => ?_) (fun c2 => ?_)
  · replace h := jh_t h c2
    refine lv_iconst (v := 0) hx hb dX4_pass_23 jci_0 ?_
    exact je_mz hx hb hr hlocks hK hP hS (Or.inl rfl) h dX4_pass_24
  · replace h := jh_f h c2
    refine lv_iload_n hx hb dX4_pass_5 rfl (lv_at hl 1 rfl) ?_
    refine lv_bipush (v := 60) hx hb dX4_pass_6 jcb_60 ?_
    refine lv_icmp_gt (tgt := 23) hx hb dX4_pass_8 rfl (fun c8 => ?_) (fun c8 => ?_)
    · replace h := jh_t h c8
      refine lv_iconst (v := 0) hx hb dX4_pass_23 jci_0 ?_
      exact je_mz hx hb hr hlocks hK hP hS (Or.inl rfl) h dX4_pass_24
    · replace h := jh_f h c8
      refine lv_aload_n hx hb dX4_pass_11 rfl (lv_at hl 0 rfl) ?_
      refine jr_get (k := 10) hx hb hts hown hK hP hj (Nat.le_of_ble_eq_true rfl) jlX4_55 rfl dX4_pass_12 ?_
      refine lv_iload_n hx hb dX4_pass_15 rfl (lv_at hl 1 rfl) ?_
      refine lv_iadd hx hb dX4_pass_16 ?_
      refine lv_sipush (v := 999) hx hb dX4_pass_17 jcs_999 ?_
      refine lv_icmp_le (tgt := 25) hx hb dX4_pass_20 rfl (fun c20 => ?_) (fun c20 => ?_)
      · replace h := jh_t h c20
        refine lv_iconst (v := 0) hx hb dX4_pass_25 jci_0 ?_
        refine lv_istore_n (lv' := [(2, .int 0), (0, .ref (jO X o)), (1, .int v1)]) hx hb dX4_pass_26 rfl hl (Nat.le_of_ble_eq_true rfl) rfl (fun ls hl => ?_)
        have L27 : ∀ (v1_1 : Int32) (k_1 : Nat) (M_1 : jm) (H : Heap) (locs : List Loc) (v2_1 : Int32) (ls : Array Slot), f_X4_pass_l27 o v1_1 k_1 M_1 v2_1 = some (r, N) → jrp X M_1 H → va_S A s.heap H locs → lv_has ls 4 [(0, .ref (jO X o)), (1, .int v1_1), (2, .int v2_1)] → W p l e (jrm 4 95) s m args below meth c H locs 0 0 (MQ below (jQm X A (some (.int r)) N) args s 0 0 A) (F0 m 27 ls []) := by
          intro v1_1 k_1
          induction k_1 with
          | zero => intro M_1 H locs v2_1 ls h; exact jh_0 h
          | succ k_1 ih27 =>
            intro M_1 H locs v2_1 ls h hP hS hl
            refine lv_iload_n hx hb dX4_pass_27 rfl (lv_at hl 2 rfl) ?_
            refine lv_aload_n hx hb dX4_pass_28 rfl (lv_at hl 0 rfl) ?_
            refine jr_get (k := 5) hx hb hts hown hK hP hj (Nat.le_of_ble_eq_true rfl) jlX4_52 rfl dX4_pass_29 ?_
            refine lv_icmp_ge (tgt := 82) hx hb dX4_pass_32 rfl (fun c32 => ?_) (fun c32 => ?_)
            · replace h := jh_t h c32
              refine lv_aload_n hx hb dX4_pass_82 rfl (lv_at hl 0 rfl) ?_
              refine lv_dup hx hb dX4_pass_83 rfl ?_
              refine jr_get (k := 10) hx hb hts hown hK hP hj (Nat.le_of_ble_eq_true rfl) jlX4_55 rfl dX4_pass_84 ?_
              refine lv_iload_n hx hb dX4_pass_87 rfl (lv_at hl 1 rfl) ?_
              refine lv_iadd hx hb dX4_pass_88 ?_
              refine jr_put (k := 10) (z := ((M_1 o 10 0) + v1_1)) hx hb hts hown hK hP hs hS hj (Nat.le_of_ble_eq_true rfl) jlX4_55 rfl (Or.inl rfl) rfl rfl rfl dX4_pass_89 (fun H locs hP hS => ?_)
              refine lv_iconst (v := 1) hx hb dX4_pass_92 jci_1 ?_
              exact je_mz hx hb hr hlocks hK hP hS (Or.inr rfl) h dX4_pass_93
            · replace h := jh_f h c32
              refine lv_iconst (v := 0) hx hb dX4_pass_35 jci_0 ?_
              refine lv_istore_n (lv' := [(3, .int 0), (0, .ref (jO X o)), (1, .int v1_1), (2, .int v2_1)]) hx hb dX4_pass_36 rfl hl (Nat.le_of_ble_eq_true rfl) rfl (fun ls hl => ?_)
              have L37 : ∀ (v2_2 : Int32) (k_2 : Nat) (M_2 : jm) (H : Heap) (locs : List Loc) (v3_2 : Int32) (ls : Array Slot), f_X4_pass_l37 o (f_X4_pass_l27 o v1_1 k_1) v1_1 v2_2 k_2 M_2 v3_2 = some (r, N) → jrp X M_2 H → va_S A s.heap H locs → lv_has ls 4 [(0, .ref (jO X o)), (1, .int v1_1), (2, .int v2_2), (3, .int v3_2)] → W p l e (jrm 4 95) s m args below meth c H locs 0 0 (MQ below (jQm X A (some (.int r)) N) args s 0 0 A) (F0 m 37 ls []) := by
                intro v2_2 k_2
                induction k_2 with
                | zero => intro M_2 H locs v3_2 ls h; exact jh_0 h
                | succ k_2 ih37 =>
                  intro M_2 H locs v3_2 ls h hP hS hl
                  refine lv_iload_n hx hb dX4_pass_37 rfl (lv_at hl 3 rfl) ?_
                  refine lv_aload_n hx hb dX4_pass_38 rfl (lv_at hl 0 rfl) ?_
                  refine jr_get (k := 0) hx hb hts hown hK hP hj (Nat.le_of_ble_eq_true rfl) jlX4_39 rfl dX4_pass_39 ?_
                  refine lv_icmp_ge (tgt := 64) hx hb dX4_pass_42 rfl (fun c42 => ?_) (fun c42 => ?_)
                  · replace h := jh_t h c42
                    refine lv_aload_n hx hb dX4_pass_64 rfl (lv_at hl 0 rfl) ?_
                    refine jr_get (k := 6) hx hb hts hown hK hP hj (Nat.le_of_ble_eq_true rfl) jlX4_21 rfl dX4_pass_65 ?_
                    refine lv_iload_n hx hb dX4_pass_68 rfl (lv_at hl 2 rfl) ?_
                    refine lv_aload_n hx hb dX4_pass_69 rfl (lv_at hl 0 rfl) ?_
                    refine lv_iload_n hx hb dX4_pass_70 rfl (lv_at hl 2 rfl) ?_
                    refine lv_iload_n hx hb dX4_pass_71 rfl (lv_at hl 1 rfl) ?_
                    obtain ⟨r3, e3, h⟩ := jh_b h
                    refine jr_kp (jr_rv (As := [.int v2_2, .int v1_1]) (rest := [.int v2_2, .ref (jA X o 6)]) S hK hP hj rfl (m_X4_placeBehind l X M_2 hj v2_2 v1_1 r3 e3) jw_X4_placeBehind ji_X4_placeBehind jmX4_80 rfl rfl ⟨(Nat.le_of_ble_eq_true rfl), (Nat.le_of_ble_eq_true rfl)⟩ rfl hl.1 rfl (Nat.le_of_ble_eq_true rfl) dX4_pass_72 ⟨Nat.zero_le _, Nat.zero_le _⟩) ?_
                    obtain ⟨g75, h⟩ := jh_gd h
                    refine jr_ast (n := 6) hx hb hK hP hs hS hj rfl g75 dX4_pass_75 (fun H locs hP hS => ?_)
                    refine lv_iinc (v := (v2_2 + 1)) (lv' := [(2, .int (v2_2 + 1)), (0, .ref (jO X o)), (1, .int v1_1), (3, .int v3_2)]) hx hb dX4_pass_76 hl (k := 2) rfl (congrArg _ jci_1) (Nat.le_of_ble_eq_true rfl) rfl (fun ls hl => ?_)
                    refine lv_goto (tgt := 27) hx hb dX4_pass_79 rfl ?_
                    exact ih27 (ju M_2 o 6 (Int32.toNatClampNeg v2_2) r3) _ _ (v2_2 + 1) _ h hP hS (lv_sub hl [1, 2, 0] rfl)
                  · replace h := jh_f h c42
                    refine lv_aload_n hx hb dX4_pass_45 rfl (lv_at hl 0 rfl) ?_
                    refine lv_iload_n hx hb dX4_pass_46 rfl (lv_at hl 2 rfl) ?_
                    refine lv_iload_n hx hb dX4_pass_47 rfl (lv_at hl 3 rfl) ?_
                    refine lv_aload_n hx hb dX4_pass_48 rfl (lv_at hl 0 rfl) ?_
                    refine lv_iload_n hx hb dX4_pass_49 rfl (lv_at hl 2 rfl) ?_
                    refine lv_iload_n hx hb dX4_pass_50 rfl (lv_at hl 3 rfl) ?_
                    refine lv_iload_n hx hb dX4_pass_51 rfl (lv_at hl 1 rfl) ?_
                    obtain ⟨r4, e4, h⟩ := jh_b h
                    refine jr_kp (jr_rv (As := [.int v2_2, .int v3_2, .int v1_1]) (rest := [.int v3_2, .int v2_2, .ref (jO X o)]) S hK hP hj rfl (m_X4_ageBehind l X M_2 hj v2_2 v3_2 v1_1 r4 e4) jw_X4_ageBehind ji_X4_ageBehind jmX4_76 rfl rfl ⟨(Nat.le_of_ble_eq_true rfl), (Nat.le_of_ble_eq_true rfl)⟩ rfl hl.1 rfl (Nat.le_of_ble_eq_true rfl) dX4_pass_52 ⟨Nat.zero_le _, Nat.zero_le _⟩) ?_
                    obtain ⟨M_5, e5, h⟩ := jh_b h
                    refine jr_kv (jr_rv (As := [.int v2_2, .int v3_2, .int r4]) (rest := []) S hK hP hj rfl (m_X4_setDebt l X A hs M_2 hj v2_2 v3_2 r4 M_5 e5) jw_X4_setDebt ji_X4_setDebt jmX4_72 rfl rfl ⟨(Nat.le_of_ble_eq_true rfl), (Nat.le_of_ble_eq_true rfl)⟩ rfl hl.1 rfl (Nat.le_of_ble_eq_true rfl) dX4_pass_55 ⟨Nat.zero_le _, Nat.zero_le _⟩) hS (fun H locs hP hS => ?_)
                    refine lv_iinc (v := (v3_2 + 1)) (lv' := [(3, .int (v3_2 + 1)), (0, .ref (jO X o)), (1, .int v1_1), (2, .int v2_2)]) hx hb dX4_pass_58 hl (k := 3) rfl (congrArg _ jci_1) (Nat.le_of_ble_eq_true rfl) rfl (fun ls hl => ?_)
                    refine lv_goto (tgt := 37) hx hb dX4_pass_61 rfl ?_
                    exact ih37 M_5 _ _ (v3_2 + 1) _ h hP hS (lv_sub hl [1, 2, 3, 0] rfl)
              exact L37 v2_1 10000 M_1 _ _ 0 _ h hP hS (lv_sub hl [1, 2, 3, 0] rfl)
        exact L27 v1 10000 M _ _ 0 _ h hP hS (lv_sub hl [1, 2, 0] rfl)
      · replace h := jh_f h c20
        refine lv_iconst (v := 0) hx hb dX4_pass_23 jci_0 ?_
        exact je_mz hx hb hr hlocks hK hP hS (Or.inl rfl) h dX4_pass_24
def f_X4_owesBehind_l5 (M : jm) (o : Nat) (v1_1 : Int32) (v2_1 : Int32) : Nat → Int32 → Int32 → Option Int32
  | 0, _, _ => none
  | k_1 + 1, v3_1, v4_1 => (if (M o 0 0) ≤ v4_1 then (some v3_1) else (jb (f_X4_ageBehind M o v1_1 v4_1 v2_1) fun r2 => (if r2 = (-1) then ((f_X4_owesBehind_l5 M o v1_1 v2_1 k_1) v3_1 (v4_1 + 1)) else ((f_X4_owesBehind_l5 M o v1_1 v2_1 k_1) (v3_1 ||| ((1 : Int32) <<< (v4_1 &&& 31))) (v4_1 + 1)))))
def f_X4_owesBehind (M : jm) (o : Nat) (v1 : Int32) (v2 : Int32) : Option Int32 := (f_X4_owesBehind_l5 M o v1 v2 10000 0 0)
set_option maxRecDepth 100000 in
theorem m_X4_owesBehind (l : Launch) (X : jX) (M : jm) {o : Nat} (hj : job o 4) (v1 : Int32) (v2 : Int32) (r : Int32) (h : f_X4_owesBehind M o v1 v2 = some r) : Met l yX4_owesBehind (jws yX4_owesBehind cX4_owesBehind 5 (some .int)) (jrm 4 95) (va_Pc [.ref (jO X o), .int v1, .int v2] (jB X M)) (jQ (.int r)) 0 0 (fun _ => False) := by
  refine jm_of (by decide) (Nat.le_of_ble_eq_true rfl) ?_
  intro p e s m args below meth c ls S hr hlocks hB hl
  have S : CallFix p m c cX4_owesBehind 5 s args jtb RX4 := S
  obtain ⟨hx, hb, hml, hown, hts⟩ := id S
  obtain ⟨hP, hK⟩ := hB
  have hN := hK.2
  have hl : lv_has ls 5 [(0, .ref (jO X o)), (1, .int v1), (2, .int v2)] := hl
  refine lv_iconst (v := 0) hx hb dX4_owesBehind_0 jci_0 ?_
  refine lv_istore_n (lv' := [(3, .int 0), (0, .ref (jO X o)), (1, .int v1), (2, .int v2)]) hx hb dX4_owesBehind_1 rfl hl (Nat.le_of_ble_eq_true rfl) rfl (fun ls hl => ?_)
  refine lv_iconst (v := 0) hx hb dX4_owesBehind_2 jci_0 ?_
  refine lv_istore (lv' := [(4, .int 0), (3, .int 0), (0, .ref (jO X o)), (1, .int v1), (2, .int v2)]) hx hb dX4_owesBehind_3 hl (Nat.le_of_ble_eq_true rfl) rfl (fun ls hl => ?_)
  have L5 : ∀ (v1_1 : Int32) (v2_1 : Int32) (k_1 : Nat) (v3_1 : Int32) (v4_1 : Int32) (ls : Array Slot), f_X4_owesBehind_l5 M o v1_1 v2_1 k_1 v3_1 v4_1 = some r → lv_has ls 5 [(0, .ref (jO X o)), (1, .int v1_1), (2, .int v2_1), (3, .int v3_1), (4, .int v4_1)] → W p l e (jrm 4 95) s m args below meth c s.heap [] 0 0 (MQ below (jQ (.int r)) args s 0 0 (fun _ => False)) (F0 m 5 ls []) := by
    intro v1_1 v2_1 k_1
    induction k_1 with
    | zero => intro v3_1 v4_1 ls h; exact jh_0 h
    | succ k_1 ih5 =>
      intro v3_1 v4_1 ls h hl
      refine lv_iload hx hb dX4_owesBehind_5 (lv_at hl 4 rfl) ?_
      refine lv_aload_n hx hb dX4_owesBehind_7 rfl (lv_at hl 0 rfl) ?_
      refine jr_get (k := 0) hx hb hts hown hK hP hj (Nat.le_of_ble_eq_true rfl) jlX4_39 rfl dX4_owesBehind_8 ?_
      refine lv_icmp_ge (tgt := 39) hx hb dX4_owesBehind_11 rfl (fun c11 => ?_) (fun c11 => ?_)
      · replace h := jh_t h c11
        refine lv_iload_n hx hb dX4_owesBehind_39 rfl (lv_at hl 3 rfl) ?_
        exact je_i hx hb hr hlocks (Option.some.inj h) dX4_owesBehind_40
      · replace h := jh_f h c11
        refine lv_aload_n hx hb dX4_owesBehind_14 rfl (lv_at hl 0 rfl) ?_
        refine lv_iload_n hx hb dX4_owesBehind_15 rfl (lv_at hl 1 rfl) ?_
        refine lv_iload hx hb dX4_owesBehind_16 (lv_at hl 4 rfl) ?_
        refine lv_iload_n hx hb dX4_owesBehind_18 rfl (lv_at hl 2 rfl) ?_
        obtain ⟨r2, e2, h⟩ := jh_b h
        refine jr_kp (jr_rv (As := [.int v1_1, .int v4_1, .int v2_1]) (rest := []) S hK hP hj rfl (m_X4_ageBehind l X M hj v1_1 v4_1 v2_1 r2 e2) jw_X4_ageBehind ji_X4_ageBehind jmX4_76 rfl rfl ⟨(Nat.le_of_ble_eq_true rfl), (Nat.le_of_ble_eq_true rfl)⟩ rfl hl.1 rfl (Nat.le_of_ble_eq_true rfl) dX4_owesBehind_19 ⟨Nat.zero_le _, Nat.zero_le _⟩) ?_
        refine lv_iconst (v := (-1)) hx hb dX4_owesBehind_22 jci_m1 ?_
        refine lv_icmp_eq (tgt := 33) hx hb dX4_owesBehind_23 rfl (fun c23 => ?_) (fun c23 => ?_)
        · replace h := jh_t h c23
          refine lv_iinc (v := (v4_1 + 1)) (lv' := [(4, .int (v4_1 + 1)), (0, .ref (jO X o)), (1, .int v1_1), (2, .int v2_1), (3, .int v3_1)]) hx hb dX4_owesBehind_33 hl (k := 4) rfl (congrArg _ jci_1) (Nat.le_of_ble_eq_true rfl) rfl (fun ls hl => ?_)
          refine lv_goto (tgt := 5) hx hb dX4_owesBehind_36 rfl ?_
          exact ih5 v3_1 (v4_1 + 1) _ h (lv_sub hl [1, 2, 3, 4, 0] rfl)
        · replace h := jh_f h c23
          refine lv_iload_n hx hb dX4_owesBehind_26 rfl (lv_at hl 3 rfl) ?_
          refine lv_iconst (v := 1) hx hb dX4_owesBehind_27 jci_1 ?_
          refine lv_iload hx hb dX4_owesBehind_28 (lv_at hl 4 rfl) ?_
          refine lv_ishl hx hb dX4_owesBehind_30 ?_
          refine lv_ior hx hb dX4_owesBehind_31 ?_
          refine lv_istore_n (lv' := [(3, .int (v3_1 ||| ((1 : Int32) <<< (v4_1 &&& 31)))), (0, .ref (jO X o)), (1, .int v1_1), (2, .int v2_1), (4, .int v4_1)]) hx hb dX4_owesBehind_32 rfl hl (Nat.le_of_ble_eq_true rfl) rfl (fun ls hl => ?_)
          refine lv_iinc (v := (v4_1 + 1)) (lv' := [(4, .int (v4_1 + 1)), (3, .int (v3_1 ||| ((1 : Int32) <<< (v4_1 &&& 31)))), (0, .ref (jO X o)), (1, .int v1_1), (2, .int v2_1)]) hx hb dX4_owesBehind_33 hl (k := 4) rfl (congrArg _ jci_1) (Nat.le_of_ble_eq_true rfl) rfl (fun ls hl => ?_)
          refine lv_goto (tgt := 5) hx hb dX4_owesBehind_36 rfl ?_
          exact ih5 (v3_1 ||| ((1 : Int32) <<< (v4_1 &&& 31))) (v4_1 + 1) _ h (lv_sub hl [2, 3, 4, 1, 0] rfl)
  exact L5 v1 v2 10000 0 0 _ h (lv_sub hl [2, 3, 4, 1, 0] rfl)
def f_X4_seesFrom_l5 (M : jm) (o : Nat) (v1_1 : Int32) (v2_1 : Int32) : Nat → Int32 → Int32 → Option Int32
  | 0, _, _ => none
  | k_1 + 1, v3_1, v4_1 => (if (M o 0 0) ≤ v4_1 then (some v3_1) else (jgd v4_1 8 (jb (f_X4_rangeOf M o v1_1 v4_1) fun r3 => (if r3 < (f_X5_steps v2_1 (M o 3 (Int32.toNatClampNeg v4_1))) then ((f_X4_seesFrom_l5 M o v1_1 v2_1 k_1) v3_1 (v4_1 + 1)) else ((f_X4_seesFrom_l5 M o v1_1 v2_1 k_1) (v3_1 ||| ((1 : Int32) <<< (v4_1 &&& 31))) (v4_1 + 1))))))
def f_X4_seesFrom (M : jm) (o : Nat) (v1 : Int32) (v2 : Int32) : Option Int32 := (f_X4_seesFrom_l5 M o v1 v2 10000 0 0)
set_option maxRecDepth 100000 in
theorem m_X4_seesFrom (l : Launch) (X : jX) (M : jm) {o : Nat} (hj : job o 4) (v1 : Int32) (v2 : Int32) (r : Int32) (h : f_X4_seesFrom M o v1 v2 = some r) : Met l yX4_seesFrom (jws yX4_seesFrom cX4_seesFrom 5 (some .int)) (jrm 2 44) (va_Pc [.ref (jO X o), .int v1, .int v2] (jB X M)) (jQ (.int r)) 0 0 (fun _ => False) := by
  refine jm_of (by decide) (Nat.le_of_ble_eq_true rfl) ?_
  intro p e s m args below meth c ls S hr hlocks hB hl
  have S : CallFix p m c cX4_seesFrom 5 s args jtb RX4 := S
  obtain ⟨hx, hb, hml, hown, hts⟩ := id S
  obtain ⟨hP, hK⟩ := hB
  have hN := hK.2
  have hl : lv_has ls 5 [(0, .ref (jO X o)), (1, .int v1), (2, .int v2)] := hl
  refine lv_iconst (v := 0) hx hb dX4_seesFrom_0 jci_0 ?_
  refine lv_istore_n (lv' := [(3, .int 0), (0, .ref (jO X o)), (1, .int v1), (2, .int v2)]) hx hb dX4_seesFrom_1 rfl hl (Nat.le_of_ble_eq_true rfl) rfl (fun ls hl => ?_)
  refine lv_iconst (v := 0) hx hb dX4_seesFrom_2 jci_0 ?_
  refine lv_istore (lv' := [(4, .int 0), (3, .int 0), (0, .ref (jO X o)), (1, .int v1), (2, .int v2)]) hx hb dX4_seesFrom_3 hl (Nat.le_of_ble_eq_true rfl) rfl (fun ls hl => ?_)
  have L5 : ∀ (v1_1 : Int32) (v2_1 : Int32) (k_1 : Nat) (v3_1 : Int32) (v4_1 : Int32) (ls : Array Slot), f_X4_seesFrom_l5 M o v1_1 v2_1 k_1 v3_1 v4_1 = some r → lv_has ls 5 [(0, .ref (jO X o)), (1, .int v1_1), (2, .int v2_1), (3, .int v3_1), (4, .int v4_1)] → W p l e (jrm 2 44) s m args below meth c s.heap [] 0 0 (MQ below (jQ (.int r)) args s 0 0 (fun _ => False)) (F0 m 5 ls []) := by
    intro v1_1 v2_1 k_1
    induction k_1 with
    | zero => intro v3_1 v4_1 ls h; exact jh_0 h
    | succ k_1 ih5 =>
      intro v3_1 v4_1 ls h hl
      refine lv_iload hx hb dX4_seesFrom_5 (lv_at hl 4 rfl) ?_
      refine lv_aload_n hx hb dX4_seesFrom_7 rfl (lv_at hl 0 rfl) ?_
      refine jr_get (k := 0) hx hb hts hown hK hP hj (Nat.le_of_ble_eq_true rfl) jlX4_39 rfl dX4_seesFrom_8 ?_
      refine lv_icmp_ge (tgt := 48) hx hb dX4_seesFrom_11 rfl (fun c11 => ?_) (fun c11 => ?_)
      · replace h := jh_t h c11
        refine lv_iload_n hx hb dX4_seesFrom_48 rfl (lv_at hl 3 rfl) ?_
        exact je_i hx hb hr hlocks (Option.some.inj h) dX4_seesFrom_49
      · replace h := jh_f h c11
        refine lv_iload_n hx hb dX4_seesFrom_14 rfl (lv_at hl 2 rfl) ?_
        refine lv_aload_n hx hb dX4_seesFrom_15 rfl (lv_at hl 0 rfl) ?_
        refine jr_get (k := 3) hx hb hts hown hK hP hj (Nat.le_of_ble_eq_true rfl) jlX4_18 rfl dX4_seesFrom_16 ?_
        refine lv_iload hx hb dX4_seesFrom_19 (lv_at hl 4 rfl) ?_
        obtain ⟨g21, h⟩ := jh_gd h
        refine jr_ald (n := 8) hx hb hK hP hj rfl g21 dX4_seesFrom_21 ?_
        refine jr_kp (jr_rn (As := [.int v2_1, .int (M o 3 (Int32.toNatClampNeg v4_1))]) (rest := []) S hN (m_X5_steps l v2_1 (M o 3 (Int32.toNatClampNeg v4_1)) _ rfl) jw_X5_steps js_X5_steps (List.mem_of_getElem? (i := 6) rfl) rfl rfl ⟨(Nat.le_of_ble_eq_true rfl), (Nat.le_of_ble_eq_true rfl)⟩ rfl hl.1 rfl (Nat.le_of_ble_eq_true rfl) dX4_seesFrom_22 ⟨Nat.zero_le _, Nat.zero_le _⟩) ?_
        refine lv_aload_n hx hb dX4_seesFrom_25 rfl (lv_at hl 0 rfl) ?_
        refine lv_iload_n hx hb dX4_seesFrom_26 rfl (lv_at hl 1 rfl) ?_
        refine lv_iload hx hb dX4_seesFrom_27 (lv_at hl 4 rfl) ?_
        obtain ⟨r3, e3, h⟩ := jh_b h
        refine jr_kp (jr_rv (As := [.int v1_1, .int v4_1]) (rest := [.int (f_X5_steps v2_1 (M o 3 (Int32.toNatClampNeg v4_1)))]) S hK hP hj rfl (m_X4_rangeOf l X M hj v1_1 v4_1 r3 e3) jw_X4_rangeOf ji_X4_rangeOf jmX4_96 rfl rfl ⟨(Nat.le_of_ble_eq_true rfl), (Nat.le_of_ble_eq_true rfl)⟩ rfl hl.1 rfl (Nat.le_of_ble_eq_true rfl) dX4_seesFrom_29 ⟨Nat.zero_le _, Nat.zero_le _⟩) ?_
        refine lv_icmp_gt (tgt := 42) hx hb dX4_seesFrom_32 rfl (fun c32 => ?_) (fun c32 => ?_)
        · replace h := jh_t h c32
          refine lv_iinc (v := (v4_1 + 1)) (lv' := [(4, .int (v4_1 + 1)), (0, .ref (jO X o)), (1, .int v1_1), (2, .int v2_1), (3, .int v3_1)]) hx hb dX4_seesFrom_42 hl (k := 4) rfl (congrArg _ jci_1) (Nat.le_of_ble_eq_true rfl) rfl (fun ls hl => ?_)
          refine lv_goto (tgt := 5) hx hb dX4_seesFrom_45 rfl ?_
          exact ih5 v3_1 (v4_1 + 1) _ h (lv_sub hl [1, 2, 3, 4, 0] rfl)
        · replace h := jh_f h c32
          refine lv_iload_n hx hb dX4_seesFrom_35 rfl (lv_at hl 3 rfl) ?_
          refine lv_iconst (v := 1) hx hb dX4_seesFrom_36 jci_1 ?_
          refine lv_iload hx hb dX4_seesFrom_37 (lv_at hl 4 rfl) ?_
          refine lv_ishl hx hb dX4_seesFrom_39 ?_
          refine lv_ior hx hb dX4_seesFrom_40 ?_
          refine lv_istore_n (lv' := [(3, .int (v3_1 ||| ((1 : Int32) <<< (v4_1 &&& 31)))), (0, .ref (jO X o)), (1, .int v1_1), (2, .int v2_1), (4, .int v4_1)]) hx hb dX4_seesFrom_41 rfl hl (Nat.le_of_ble_eq_true rfl) rfl (fun ls hl => ?_)
          refine lv_iinc (v := (v4_1 + 1)) (lv' := [(4, .int (v4_1 + 1)), (3, .int (v3_1 ||| ((1 : Int32) <<< (v4_1 &&& 31)))), (0, .ref (jO X o)), (1, .int v1_1), (2, .int v2_1)]) hx hb dX4_seesFrom_42 hl (k := 4) rfl (congrArg _ jci_1) (Nat.le_of_ble_eq_true rfl) rfl (fun ls hl => ?_)
          refine lv_goto (tgt := 5) hx hb dX4_seesFrom_45 rfl ?_
          exact ih5 (v3_1 ||| ((1 : Int32) <<< (v4_1 &&& 31))) (v4_1 + 1) _ h (lv_sub hl [2, 3, 4, 1, 0] rfl)
  exact L5 v1 v2 10000 0 0 _ h (lv_sub hl [2, 3, 4, 1, 0] rfl)
def f_J6_bitCount_0f7a4 (v0 : Int32) : Int32 := ((((((((v0 - (((Int32.toUInt32 v0 >>> (Int32.toUInt32 1 &&& Int32.toUInt32 31)).toInt32) &&& 1431655765)) &&& 858993459) + (((Int32.toUInt32 (v0 - (((Int32.toUInt32 v0 >>> (Int32.toUInt32 1 &&& Int32.toUInt32 31)).toInt32) &&& 1431655765)) >>> (Int32.toUInt32 2 &&& Int32.toUInt32 31)).toInt32) &&& 858993459)) + ((Int32.toUInt32 (((v0 - (((Int32.toUInt32 v0 >>> (Int32.toUInt32 1 &&& Int32.toUInt32 31)).toInt32) &&& 1431655765)) &&& 858993459) + (((Int32.toUInt32 (v0 - (((Int32.toUInt32 v0 >>> (Int32.toUInt32 1 &&& Int32.toUInt32 31)).toInt32) &&& 1431655765)) >>> (Int32.toUInt32 2 &&& Int32.toUInt32 31)).toInt32) &&& 858993459)) >>> (Int32.toUInt32 4 &&& Int32.toUInt32 31)).toInt32)) &&& 252645135) + ((Int32.toUInt32 (((((v0 - (((Int32.toUInt32 v0 >>> (Int32.toUInt32 1 &&& Int32.toUInt32 31)).toInt32) &&& 1431655765)) &&& 858993459) + (((Int32.toUInt32 (v0 - (((Int32.toUInt32 v0 >>> (Int32.toUInt32 1 &&& Int32.toUInt32 31)).toInt32) &&& 1431655765)) >>> (Int32.toUInt32 2 &&& Int32.toUInt32 31)).toInt32) &&& 858993459)) + ((Int32.toUInt32 (((v0 - (((Int32.toUInt32 v0 >>> (Int32.toUInt32 1 &&& Int32.toUInt32 31)).toInt32) &&& 1431655765)) &&& 858993459) + (((Int32.toUInt32 (v0 - (((Int32.toUInt32 v0 >>> (Int32.toUInt32 1 &&& Int32.toUInt32 31)).toInt32) &&& 1431655765)) >>> (Int32.toUInt32 2 &&& Int32.toUInt32 31)).toInt32) &&& 858993459)) >>> (Int32.toUInt32 4 &&& Int32.toUInt32 31)).toInt32)) &&& 252645135) >>> (Int32.toUInt32 8 &&& Int32.toUInt32 31)).toInt32)) + ((Int32.toUInt32 ((((((v0 - (((Int32.toUInt32 v0 >>> (Int32.toUInt32 1 &&& Int32.toUInt32 31)).toInt32) &&& 1431655765)) &&& 858993459) + (((Int32.toUInt32 (v0 - (((Int32.toUInt32 v0 >>> (Int32.toUInt32 1 &&& Int32.toUInt32 31)).toInt32) &&& 1431655765)) >>> (Int32.toUInt32 2 &&& Int32.toUInt32 31)).toInt32) &&& 858993459)) + ((Int32.toUInt32 (((v0 - (((Int32.toUInt32 v0 >>> (Int32.toUInt32 1 &&& Int32.toUInt32 31)).toInt32) &&& 1431655765)) &&& 858993459) + (((Int32.toUInt32 (v0 - (((Int32.toUInt32 v0 >>> (Int32.toUInt32 1 &&& Int32.toUInt32 31)).toInt32) &&& 1431655765)) >>> (Int32.toUInt32 2 &&& Int32.toUInt32 31)).toInt32) &&& 858993459)) >>> (Int32.toUInt32 4 &&& Int32.toUInt32 31)).toInt32)) &&& 252645135) + ((Int32.toUInt32 (((((v0 - (((Int32.toUInt32 v0 >>> (Int32.toUInt32 1 &&& Int32.toUInt32 31)).toInt32) &&& 1431655765)) &&& 858993459) + (((Int32.toUInt32 (v0 - (((Int32.toUInt32 v0 >>> (Int32.toUInt32 1 &&& Int32.toUInt32 31)).toInt32) &&& 1431655765)) >>> (Int32.toUInt32 2 &&& Int32.toUInt32 31)).toInt32) &&& 858993459)) + ((Int32.toUInt32 (((v0 - (((Int32.toUInt32 v0 >>> (Int32.toUInt32 1 &&& Int32.toUInt32 31)).toInt32) &&& 1431655765)) &&& 858993459) + (((Int32.toUInt32 (v0 - (((Int32.toUInt32 v0 >>> (Int32.toUInt32 1 &&& Int32.toUInt32 31)).toInt32) &&& 1431655765)) >>> (Int32.toUInt32 2 &&& Int32.toUInt32 31)).toInt32) &&& 858993459)) >>> (Int32.toUInt32 4 &&& Int32.toUInt32 31)).toInt32)) &&& 252645135) >>> (Int32.toUInt32 8 &&& Int32.toUInt32 31)).toInt32)) >>> (Int32.toUInt32 16 &&& Int32.toUInt32 31)).toInt32)) &&& 63)
set_option maxRecDepth 100000 in
theorem m_J6_bitCount_0f7a4 (l : Launch) (v0 : Int32) (r : Int32) (h : f_J6_bitCount_0f7a4 v0 = r) : Met l yJ6_bitCount_0f7a4 (jws yJ6_bitCount_0f7a4 cJ6_bitCount_0f7a4 1 (some .int)) (jrm 0 0) (va_Pc [.int v0] jN) (jQ (.int r)) 0 0 (fun _ => False) := by
  refine jm_of (by decide) (Nat.le_of_ble_eq_true rfl) ?_
  intro p e s m args below meth c ls S hr hlocks hB hl
  have S : CallFix p m c cJ6_bitCount_0f7a4 1 s args jtb RJ6 := S
  obtain ⟨hx, hb, hml, hown, hts⟩ := id S
  have hN := hB
  have hl : lv_has ls 1 [(0, .int v0)] := hl
  refine lv_iload_n hx hb dJ6_bitCount_0f7a4_0 rfl (lv_at hl 0 rfl) ?_
  refine lv_iload_n hx hb dJ6_bitCount_0f7a4_1 rfl (lv_at hl 0 rfl) ?_
  refine lv_iconst (v := 1) hx hb dJ6_bitCount_0f7a4_2 jci_1 ?_
  refine lv_iushr hx hb dJ6_bitCount_0f7a4_3 rfl ?_
  refine lv_ldcw hx hb hown (hts _ jkJ6_265) dJ6_bitCount_0f7a4_4 ?_
  refine lv_iand hx hb dJ6_bitCount_0f7a4_7 ?_
  refine lv_isub hx hb dJ6_bitCount_0f7a4_8 ?_
  refine lv_istore_n (lv' := [(0, .int (v0 - (((Int32.toUInt32 v0 >>> (Int32.toUInt32 1 &&& Int32.toUInt32 31)).toInt32) &&& 1431655765)))]) hx hb dJ6_bitCount_0f7a4_9 rfl hl (Nat.le_of_ble_eq_true rfl) rfl (fun ls hl => ?_)
  refine lv_iload_n hx hb dJ6_bitCount_0f7a4_10 rfl (lv_at hl 0 rfl) ?_
  refine lv_ldcw hx hb hown (hts _ jkJ6_266) dJ6_bitCount_0f7a4_11 ?_
  refine lv_iand hx hb dJ6_bitCount_0f7a4_14 ?_
  refine lv_iload_n hx hb dJ6_bitCount_0f7a4_15 rfl (lv_at hl 0 rfl) ?_
  refine lv_iconst (v := 2) hx hb dJ6_bitCount_0f7a4_16 jci_2 ?_
  refine lv_iushr hx hb dJ6_bitCount_0f7a4_17 rfl ?_
  refine lv_ldcw hx hb hown (hts _ jkJ6_266) dJ6_bitCount_0f7a4_18 ?_
  refine lv_iand hx hb dJ6_bitCount_0f7a4_21 ?_
  refine lv_iadd hx hb dJ6_bitCount_0f7a4_22 ?_
  refine lv_istore_n (lv' := [(0, .int (((v0 - (((Int32.toUInt32 v0 >>> (Int32.toUInt32 1 &&& Int32.toUInt32 31)).toInt32) &&& 1431655765)) &&& 858993459) + (((Int32.toUInt32 (v0 - (((Int32.toUInt32 v0 >>> (Int32.toUInt32 1 &&& Int32.toUInt32 31)).toInt32) &&& 1431655765)) >>> (Int32.toUInt32 2 &&& Int32.toUInt32 31)).toInt32) &&& 858993459)))]) hx hb dJ6_bitCount_0f7a4_23 rfl hl (Nat.le_of_ble_eq_true rfl) rfl (fun ls hl => ?_)
  refine lv_iload_n hx hb dJ6_bitCount_0f7a4_24 rfl (lv_at hl 0 rfl) ?_
  refine lv_iload_n hx hb dJ6_bitCount_0f7a4_25 rfl (lv_at hl 0 rfl) ?_
  refine lv_iconst (v := 4) hx hb dJ6_bitCount_0f7a4_26 jci_4 ?_
  refine lv_iushr hx hb dJ6_bitCount_0f7a4_27 rfl ?_
  refine lv_iadd hx hb dJ6_bitCount_0f7a4_28 ?_
  refine lv_ldcw hx hb hown (hts _ jkJ6_267) dJ6_bitCount_0f7a4_29 ?_
  refine lv_iand hx hb dJ6_bitCount_0f7a4_32 ?_
  refine lv_istore_n (lv' := [(0, .int (((((v0 - (((Int32.toUInt32 v0 >>> (Int32.toUInt32 1 &&& Int32.toUInt32 31)).toInt32) &&& 1431655765)) &&& 858993459) + (((Int32.toUInt32 (v0 - (((Int32.toUInt32 v0 >>> (Int32.toUInt32 1 &&& Int32.toUInt32 31)).toInt32) &&& 1431655765)) >>> (Int32.toUInt32 2 &&& Int32.toUInt32 31)).toInt32) &&& 858993459)) + ((Int32.toUInt32 (((v0 - (((Int32.toUInt32 v0 >>> (Int32.toUInt32 1 &&& Int32.toUInt32 31)).toInt32) &&& 1431655765)) &&& 858993459) + (((Int32.toUInt32 (v0 - (((Int32.toUInt32 v0 >>> (Int32.toUInt32 1 &&& Int32.toUInt32 31)).toInt32) &&& 1431655765)) >>> (Int32.toUInt32 2 &&& Int32.toUInt32 31)).toInt32) &&& 858993459)) >>> (Int32.toUInt32 4 &&& Int32.toUInt32 31)).toInt32)) &&& 252645135))]) hx hb dJ6_bitCount_0f7a4_33 rfl hl (Nat.le_of_ble_eq_true rfl) rfl (fun ls hl => ?_)
  refine lv_iload_n hx hb dJ6_bitCount_0f7a4_34 rfl (lv_at hl 0 rfl) ?_
  refine lv_iload_n hx hb dJ6_bitCount_0f7a4_35 rfl (lv_at hl 0 rfl) ?_
  refine lv_bipush (v := 8) hx hb dJ6_bitCount_0f7a4_36 jcb_8 ?_
  refine lv_iushr hx hb dJ6_bitCount_0f7a4_38 rfl ?_
  refine lv_iadd hx hb dJ6_bitCount_0f7a4_39 ?_
  refine lv_istore_n (lv' := [(0, .int ((((((v0 - (((Int32.toUInt32 v0 >>> (Int32.toUInt32 1 &&& Int32.toUInt32 31)).toInt32) &&& 1431655765)) &&& 858993459) + (((Int32.toUInt32 (v0 - (((Int32.toUInt32 v0 >>> (Int32.toUInt32 1 &&& Int32.toUInt32 31)).toInt32) &&& 1431655765)) >>> (Int32.toUInt32 2 &&& Int32.toUInt32 31)).toInt32) &&& 858993459)) + ((Int32.toUInt32 (((v0 - (((Int32.toUInt32 v0 >>> (Int32.toUInt32 1 &&& Int32.toUInt32 31)).toInt32) &&& 1431655765)) &&& 858993459) + (((Int32.toUInt32 (v0 - (((Int32.toUInt32 v0 >>> (Int32.toUInt32 1 &&& Int32.toUInt32 31)).toInt32) &&& 1431655765)) >>> (Int32.toUInt32 2 &&& Int32.toUInt32 31)).toInt32) &&& 858993459)) >>> (Int32.toUInt32 4 &&& Int32.toUInt32 31)).toInt32)) &&& 252645135) + ((Int32.toUInt32 (((((v0 - (((Int32.toUInt32 v0 >>> (Int32.toUInt32 1 &&& Int32.toUInt32 31)).toInt32) &&& 1431655765)) &&& 858993459) + (((Int32.toUInt32 (v0 - (((Int32.toUInt32 v0 >>> (Int32.toUInt32 1 &&& Int32.toUInt32 31)).toInt32) &&& 1431655765)) >>> (Int32.toUInt32 2 &&& Int32.toUInt32 31)).toInt32) &&& 858993459)) + ((Int32.toUInt32 (((v0 - (((Int32.toUInt32 v0 >>> (Int32.toUInt32 1 &&& Int32.toUInt32 31)).toInt32) &&& 1431655765)) &&& 858993459) + (((Int32.toUInt32 (v0 - (((Int32.toUInt32 v0 >>> (Int32.toUInt32 1 &&& Int32.toUInt32 31)).toInt32) &&& 1431655765)) >>> (Int32.toUInt32 2 &&& Int32.toUInt32 31)).toInt32) &&& 858993459)) >>> (Int32.toUInt32 4 &&& Int32.toUInt32 31)).toInt32)) &&& 252645135) >>> (Int32.toUInt32 8 &&& Int32.toUInt32 31)).toInt32)))]) hx hb dJ6_bitCount_0f7a4_40 rfl hl (Nat.le_of_ble_eq_true rfl) rfl (fun ls hl => ?_)
  refine lv_iload_n hx hb dJ6_bitCount_0f7a4_41 rfl (lv_at hl 0 rfl) ?_
  refine lv_iload_n hx hb dJ6_bitCount_0f7a4_42 rfl (lv_at hl 0 rfl) ?_
  refine lv_bipush (v := 16) hx hb dJ6_bitCount_0f7a4_43 jcb_16 ?_
  refine lv_iushr hx hb dJ6_bitCount_0f7a4_45 rfl ?_
  refine lv_iadd hx hb dJ6_bitCount_0f7a4_46 ?_
  refine lv_istore_n (lv' := [(0, .int (((((((v0 - (((Int32.toUInt32 v0 >>> (Int32.toUInt32 1 &&& Int32.toUInt32 31)).toInt32) &&& 1431655765)) &&& 858993459) + (((Int32.toUInt32 (v0 - (((Int32.toUInt32 v0 >>> (Int32.toUInt32 1 &&& Int32.toUInt32 31)).toInt32) &&& 1431655765)) >>> (Int32.toUInt32 2 &&& Int32.toUInt32 31)).toInt32) &&& 858993459)) + ((Int32.toUInt32 (((v0 - (((Int32.toUInt32 v0 >>> (Int32.toUInt32 1 &&& Int32.toUInt32 31)).toInt32) &&& 1431655765)) &&& 858993459) + (((Int32.toUInt32 (v0 - (((Int32.toUInt32 v0 >>> (Int32.toUInt32 1 &&& Int32.toUInt32 31)).toInt32) &&& 1431655765)) >>> (Int32.toUInt32 2 &&& Int32.toUInt32 31)).toInt32) &&& 858993459)) >>> (Int32.toUInt32 4 &&& Int32.toUInt32 31)).toInt32)) &&& 252645135) + ((Int32.toUInt32 (((((v0 - (((Int32.toUInt32 v0 >>> (Int32.toUInt32 1 &&& Int32.toUInt32 31)).toInt32) &&& 1431655765)) &&& 858993459) + (((Int32.toUInt32 (v0 - (((Int32.toUInt32 v0 >>> (Int32.toUInt32 1 &&& Int32.toUInt32 31)).toInt32) &&& 1431655765)) >>> (Int32.toUInt32 2 &&& Int32.toUInt32 31)).toInt32) &&& 858993459)) + ((Int32.toUInt32 (((v0 - (((Int32.toUInt32 v0 >>> (Int32.toUInt32 1 &&& Int32.toUInt32 31)).toInt32) &&& 1431655765)) &&& 858993459) + (((Int32.toUInt32 (v0 - (((Int32.toUInt32 v0 >>> (Int32.toUInt32 1 &&& Int32.toUInt32 31)).toInt32) &&& 1431655765)) >>> (Int32.toUInt32 2 &&& Int32.toUInt32 31)).toInt32) &&& 858993459)) >>> (Int32.toUInt32 4 &&& Int32.toUInt32 31)).toInt32)) &&& 252645135) >>> (Int32.toUInt32 8 &&& Int32.toUInt32 31)).toInt32)) + ((Int32.toUInt32 ((((((v0 - (((Int32.toUInt32 v0 >>> (Int32.toUInt32 1 &&& Int32.toUInt32 31)).toInt32) &&& 1431655765)) &&& 858993459) + (((Int32.toUInt32 (v0 - (((Int32.toUInt32 v0 >>> (Int32.toUInt32 1 &&& Int32.toUInt32 31)).toInt32) &&& 1431655765)) >>> (Int32.toUInt32 2 &&& Int32.toUInt32 31)).toInt32) &&& 858993459)) + ((Int32.toUInt32 (((v0 - (((Int32.toUInt32 v0 >>> (Int32.toUInt32 1 &&& Int32.toUInt32 31)).toInt32) &&& 1431655765)) &&& 858993459) + (((Int32.toUInt32 (v0 - (((Int32.toUInt32 v0 >>> (Int32.toUInt32 1 &&& Int32.toUInt32 31)).toInt32) &&& 1431655765)) >>> (Int32.toUInt32 2 &&& Int32.toUInt32 31)).toInt32) &&& 858993459)) >>> (Int32.toUInt32 4 &&& Int32.toUInt32 31)).toInt32)) &&& 252645135) + ((Int32.toUInt32 (((((v0 - (((Int32.toUInt32 v0 >>> (Int32.toUInt32 1 &&& Int32.toUInt32 31)).toInt32) &&& 1431655765)) &&& 858993459) + (((Int32.toUInt32 (v0 - (((Int32.toUInt32 v0 >>> (Int32.toUInt32 1 &&& Int32.toUInt32 31)).toInt32) &&& 1431655765)) >>> (Int32.toUInt32 2 &&& Int32.toUInt32 31)).toInt32) &&& 858993459)) + ((Int32.toUInt32 (((v0 - (((Int32.toUInt32 v0 >>> (Int32.toUInt32 1 &&& Int32.toUInt32 31)).toInt32) &&& 1431655765)) &&& 858993459) + (((Int32.toUInt32 (v0 - (((Int32.toUInt32 v0 >>> (Int32.toUInt32 1 &&& Int32.toUInt32 31)).toInt32) &&& 1431655765)) >>> (Int32.toUInt32 2 &&& Int32.toUInt32 31)).toInt32) &&& 858993459)) >>> (Int32.toUInt32 4 &&& Int32.toUInt32 31)).toInt32)) &&& 252645135) >>> (Int32.toUInt32 8 &&& Int32.toUInt32 31)).toInt32)) >>> (Int32.toUInt32 16 &&& Int32.toUInt32 31)).toInt32)))]) hx hb dJ6_bitCount_0f7a4_47 rfl hl (Nat.le_of_ble_eq_true rfl) rfl (fun ls hl => ?_)
  refine lv_iload_n hx hb dJ6_bitCount_0f7a4_48 rfl (lv_at hl 0 rfl) ?_
  refine lv_bipush (v := 63) hx hb dJ6_bitCount_0f7a4_49 jcb_63 ?_
  refine lv_iand hx hb dJ6_bitCount_0f7a4_51 ?_
  exact je_i hx hb hr hlocks h dJ6_bitCount_0f7a4_52
def f_X4_setCandle (M : jm) (o : Nat) : Option (Int32 × jm) := (jgd (M o 0 0) 8 (jgd ((ju M o 1 (Int32.toNatClampNeg (M o 0 0)) 0) o 0 0) 8 (some (((ju (ju (ju M o 1 (Int32.toNatClampNeg (M o 0 0)) 0) o 2 (Int32.toNatClampNeg ((ju M o 1 (Int32.toNatClampNeg (M o 0 0)) 0) o 0 0)) 0) o 4 0 (((ju (ju M o 1 (Int32.toNatClampNeg (M o 0 0)) 0) o 2 (Int32.toNatClampNeg ((ju M o 1 (Int32.toNatClampNeg (M o 0 0)) 0) o 0 0)) 0) o 4 0) ||| ((1 : Int32) <<< (((ju (ju M o 1 (Int32.toNatClampNeg (M o 0 0)) 0) o 2 (Int32.toNatClampNeg ((ju M o 1 (Int32.toNatClampNeg (M o 0 0)) 0) o 0 0)) 0) o 0 0) &&& 31)))) o 0 0), (ju (ju (ju M o 1 (Int32.toNatClampNeg (M o 0 0)) 0) o 2 (Int32.toNatClampNeg ((ju M o 1 (Int32.toNatClampNeg (M o 0 0)) 0) o 0 0)) 0) o 4 0 (((ju (ju M o 1 (Int32.toNatClampNeg (M o 0 0)) 0) o 2 (Int32.toNatClampNeg ((ju M o 1 (Int32.toNatClampNeg (M o 0 0)) 0) o 0 0)) 0) o 4 0) ||| ((1 : Int32) <<< (((ju (ju M o 1 (Int32.toNatClampNeg (M o 0 0)) 0) o 2 (Int32.toNatClampNeg ((ju M o 1 (Int32.toNatClampNeg (M o 0 0)) 0) o 0 0)) 0) o 0 0) &&& 31))))))))
set_option maxRecDepth 100000 in
theorem m_X4_setCandle (l : Launch) (X : jX) (A : Nat → Prop) (hs : jst X A) (M : jm) {o : Nat} (hj : job o 4) (r : Int32) (N : jm) (h : f_X4_setCandle M o = some (r, N)) : Met l yX4_setCandle (jws yX4_setCandle cX4_setCandle 1 (some .int)) (jrm 0 0) (va_Pc [.ref (jO X o)] (jB X M)) (jQm X A (some (.int r)) N) 0 0 A := by
  refine jm_of (by decide) (Nat.le_of_ble_eq_true rfl) ?_
  intro p e s m args below meth c ls S hr hlocks hB hl
  have S : CallFix p m c cX4_setCandle 1 s args jtb RX4 := S
  obtain ⟨hx, hb, hml, hown, hts⟩ := id S
  obtain ⟨hP, hK⟩ := hB
  have hN := hK.2
  have hS : va_S A s.heap s.heap [] := va_S.rf
  have hl : lv_has ls 1 [(0, .ref (jO X o))] := hl
  refine lv_aload_n hx hb dX4_setCandle_0 rfl (lv_at hl 0 rfl) ?_
  refine jr_get (k := 1) hx hb hts hown hK hP hj (Nat.le_of_ble_eq_true rfl) jlX4_9 rfl dX4_setCandle_1 ?_
  refine lv_aload_n hx hb dX4_setCandle_4 rfl (lv_at hl 0 rfl) ?_
  refine jr_get (k := 0) hx hb hts hown hK hP hj (Nat.le_of_ble_eq_true rfl) jlX4_39 rfl dX4_setCandle_5 ?_
  refine lv_iconst (v := 0) hx hb dX4_setCandle_8 jci_0 ?_
  obtain ⟨g9, h⟩ := jh_gd h
  refine jr_ast (n := 8) hx hb hK hP hs hS hj rfl g9 dX4_setCandle_9 (fun H locs hP hS => ?_)
  refine lv_aload_n hx hb dX4_setCandle_10 rfl (lv_at hl 0 rfl) ?_
  refine jr_get (k := 2) hx hb hts hown hK hP hj (Nat.le_of_ble_eq_true rfl) jlX4_15 rfl dX4_setCandle_11 ?_
  refine lv_aload_n hx hb dX4_setCandle_14 rfl (lv_at hl 0 rfl) ?_
  refine jr_get (k := 0) hx hb hts hown hK hP hj (Nat.le_of_ble_eq_true rfl) jlX4_39 rfl dX4_setCandle_15 ?_
  refine lv_iconst (v := 0) hx hb dX4_setCandle_18 jci_0 ?_
  obtain ⟨g19, h⟩ := jh_gd h
  refine jr_ast (n := 8) hx hb hK hP hs hS hj rfl g19 dX4_setCandle_19 (fun H locs hP hS => ?_)
  refine lv_aload_n hx hb dX4_setCandle_20 rfl (lv_at hl 0 rfl) ?_
  refine lv_dup hx hb dX4_setCandle_21 rfl ?_
  refine jr_get (k := 4) hx hb hts hown hK hP hj (Nat.le_of_ble_eq_true rfl) jlX4_49 rfl dX4_setCandle_22 ?_
  refine lv_iconst (v := 1) hx hb dX4_setCandle_25 jci_1 ?_
  refine lv_aload_n hx hb dX4_setCandle_26 rfl (lv_at hl 0 rfl) ?_
  refine jr_get (k := 0) hx hb hts hown hK hP hj (Nat.le_of_ble_eq_true rfl) jlX4_39 rfl dX4_setCandle_27 ?_
  refine lv_ishl hx hb dX4_setCandle_30 ?_
  refine lv_ior hx hb dX4_setCandle_31 ?_
  refine jr_put (k := 4) (z := (((ju (ju M o 1 (Int32.toNatClampNeg (M o 0 0)) 0) o 2 (Int32.toNatClampNeg ((ju M o 1 (Int32.toNatClampNeg (M o 0 0)) 0) o 0 0)) 0) o 4 0) ||| ((1 : Int32) <<< (((ju (ju M o 1 (Int32.toNatClampNeg (M o 0 0)) 0) o 2 (Int32.toNatClampNeg ((ju M o 1 (Int32.toNatClampNeg (M o 0 0)) 0) o 0 0)) 0) o 0 0) &&& 31)))) hx hb hts hown hK hP hs hS hj (Nat.le_of_ble_eq_true rfl) jlX4_49 rfl (Or.inl rfl) rfl rfl rfl dX4_setCandle_32 (fun H locs hP hS => ?_)
  refine lv_aload_n hx hb dX4_setCandle_35 rfl (lv_at hl 0 rfl) ?_
  refine jr_get (k := 0) hx hb hts hown hK hP hj (Nat.le_of_ble_eq_true rfl) jlX4_39 rfl dX4_setCandle_36 ?_
  exact je_mi hx hb hr hlocks hK hP hS h dX4_setCandle_39
def f_X5_minutes (v0 : Int32) (v1 : Int32) (v2 : Int32) : Int32 := (if v0 = 1 then (2 * (v1 + 5)) else (if v0 = 2 then ((v1 + 5) / 2) else (if v0 = 3 then ((v1 + 5) + 20) else (if v0 = 4 then (((v1 + 5) / 2) + v2) else (if v0 = 5 then (((v1 + 5) + 20) + (2 * v2)) else (v1 + 5))))))
set_option maxRecDepth 100000 in
theorem m_X5_minutes (l : Launch) (v0 : Int32) (v1 : Int32) (v2 : Int32) (r : Int32) (h : f_X5_minutes v0 v1 v2 = r) : Met l yX5_minutes (jws yX5_minutes cX5_minutes 4 (some .int)) (jrm 0 0) (va_Pc [.int v0, .int v1, .int v2] jN) (jQ (.int r)) 0 0 (fun _ => False) := by
  refine jm_of (by decide) (Nat.le_of_ble_eq_true rfl) ?_
  intro p e s m args below meth c ls S hr hlocks hB hl
  have S : CallFix p m c cX5_minutes 4 s args jtb RX5 := S
  obtain ⟨hx, hb, hml, hown, hts⟩ := id S
  have hN := hB
  have hl : lv_has ls 4 [(0, .int v0), (1, .int v1), (2, .int v2)] := hl
  refine lv_iload_n hx hb dX5_minutes_0 rfl (lv_at hl 1 rfl) ?_
  refine lv_iconst (v := 5) hx hb dX5_minutes_1 jci_5 ?_
  refine lv_iadd hx hb dX5_minutes_2 ?_
  refine lv_istore_n (lv' := [(3, .int (v1 + 5)), (0, .int v0), (1, .int v1), (2, .int v2)]) hx hb dX5_minutes_3 rfl hl (Nat.le_of_ble_eq_true rfl) rfl (fun ls hl => ?_)
  refine lv_iload_n hx hb dX5_minutes_4 rfl (lv_at hl 1 rfl) ?_
  by_cases c5_1 : v0 = 1
  · replace h := jh_t h c5_1
    refine lv_tableIn (off := 35) (tgt := 40) hx hb dX5_minutes_5 (by rw [c5_1]; decide) (by rw [c5_1]; decide) (by rw [c5_1]; rfl) rfl ?_
    refine lv_iconst (v := 2) hx hb dX5_minutes_40 jci_2 ?_
    refine lv_iload_n hx hb dX5_minutes_41 rfl (lv_at hl 0 rfl) ?_
    refine lv_imul hx hb dX5_minutes_42 ?_
    exact je_i hx hb hr hlocks h dX5_minutes_43
  replace h := jh_f h c5_1
  by_cases c5_2 : v0 = 2
  · replace h := jh_t h c5_2
    refine lv_tableIn (off := 39) (tgt := 44) hx hb dX5_minutes_5 (by rw [c5_2]; decide) (by rw [c5_2]; decide) (by rw [c5_2]; rfl) rfl ?_
    refine lv_iload_n hx hb dX5_minutes_44 rfl (lv_at hl 0 rfl) ?_
    refine lv_iconst (v := 2) hx hb dX5_minutes_45 jci_2 ?_
    refine lv_idiv hx hb dX5_minutes_46 (by decide) ?_
    exact je_i hx hb hr hlocks h dX5_minutes_47
  replace h := jh_f h c5_2
  by_cases c5_3 : v0 = 3
  · replace h := jh_t h c5_3
    refine lv_tableIn (off := 43) (tgt := 48) hx hb dX5_minutes_5 (by rw [c5_3]; decide) (by rw [c5_3]; decide) (by rw [c5_3]; rfl) rfl ?_
    refine lv_iload_n hx hb dX5_minutes_48 rfl (lv_at hl 0 rfl) ?_
    refine lv_bipush (v := 20) hx hb dX5_minutes_49 jcb_20 ?_
    refine lv_iadd hx hb dX5_minutes_51 ?_
    exact je_i hx hb hr hlocks h dX5_minutes_52
  replace h := jh_f h c5_3
  by_cases c5_4 : v0 = 4
  · replace h := jh_t h c5_4
    refine lv_tableIn (off := 48) (tgt := 53) hx hb dX5_minutes_5 (by rw [c5_4]; decide) (by rw [c5_4]; decide) (by rw [c5_4]; rfl) rfl ?_
    refine lv_iload_n hx hb dX5_minutes_53 rfl (lv_at hl 0 rfl) ?_
    refine lv_iconst (v := 2) hx hb dX5_minutes_54 jci_2 ?_
    refine lv_idiv hx hb dX5_minutes_55 (by decide) ?_
    refine lv_iload_n hx hb dX5_minutes_56 rfl (lv_at hl 3 rfl) ?_
    refine lv_iadd hx hb dX5_minutes_57 ?_
    exact je_i hx hb hr hlocks h dX5_minutes_58
  replace h := jh_f h c5_4
  by_cases c5_5 : v0 = 5
  · replace h := jh_t h c5_5
    refine lv_tableIn (off := 54) (tgt := 59) hx hb dX5_minutes_5 (by rw [c5_5]; decide) (by rw [c5_5]; decide) (by rw [c5_5]; rfl) rfl ?_
    refine lv_iload_n hx hb dX5_minutes_59 rfl (lv_at hl 0 rfl) ?_
    refine lv_bipush (v := 20) hx hb dX5_minutes_60 jcb_20 ?_
    refine lv_iadd hx hb dX5_minutes_62 ?_
    refine lv_iconst (v := 2) hx hb dX5_minutes_63 jci_2 ?_
    refine lv_iload_n hx hb dX5_minutes_64 rfl (lv_at hl 3 rfl) ?_
    refine lv_imul hx hb dX5_minutes_65 ?_
    refine lv_iadd hx hb dX5_minutes_66 ?_
    exact je_i hx hb hr hlocks h dX5_minutes_67
  replace h := jh_f h c5_5
  refine jr_tdef (ks := [1, 2, 3, 4, 5]) (tgt := 68) hx hb dX5_minutes_5 (jsw_cons (jsw_ne c5_1 rfl) (jsw_cons (jsw_ne c5_2 rfl) (jsw_cons (jsw_ne c5_3 rfl) (jsw_cons (jsw_ne c5_4 rfl) (jsw_cons (jsw_ne c5_5 rfl) (jsw_nil)))))) (by decide) rfl ?_
  refine lv_iload_n hx hb dX5_minutes_68 rfl (lv_at hl 0 rfl) ?_
  exact je_i hx hb hr hlocks h dX5_minutes_69
def f_X4_minutesOf (M : jm) (o : Nat) (v1 : Int32) (v2 : Int32) : Option Int32 := (jgd v1 8 (jgd v1 8 (some (f_X5_minutes (M o 1 (Int32.toNatClampNeg v1)) (M o 2 (Int32.toNatClampNeg v1)) v2))))
set_option maxRecDepth 100000 in
theorem m_X4_minutesOf (l : Launch) (X : jX) (M : jm) {o : Nat} (hj : job o 4) (v1 : Int32) (v2 : Int32) (r : Int32) (h : f_X4_minutesOf M o v1 v2 = some r) : Met l yX4_minutesOf (jws yX4_minutesOf cX4_minutesOf 3 (some .int)) (jrm 1 23) (va_Pc [.ref (jO X o), .int v1, .int v2] (jB X M)) (jQ (.int r)) 0 0 (fun _ => False) := by
  refine jm_of (by decide) (Nat.le_of_ble_eq_true rfl) ?_
  intro p e s m args below meth c ls S hr hlocks hB hl
  have S : CallFix p m c cX4_minutesOf 3 s args jtb RX4 := S
  obtain ⟨hx, hb, hml, hown, hts⟩ := id S
  obtain ⟨hP, hK⟩ := hB
  have hN := hK.2
  have hl : lv_has ls 3 [(0, .ref (jO X o)), (1, .int v1), (2, .int v2)] := hl
  refine lv_aload_n hx hb dX4_minutesOf_0 rfl (lv_at hl 0 rfl) ?_
  refine jr_get (k := 1) hx hb hts hown hK hP hj (Nat.le_of_ble_eq_true rfl) jlX4_9 rfl dX4_minutesOf_1 ?_
  refine lv_iload_n hx hb dX4_minutesOf_4 rfl (lv_at hl 1 rfl) ?_
  obtain ⟨g5, h⟩ := jh_gd h
  refine jr_ald (n := 8) hx hb hK hP hj rfl g5 dX4_minutesOf_5 ?_
  refine lv_aload_n hx hb dX4_minutesOf_6 rfl (lv_at hl 0 rfl) ?_
  refine jr_get (k := 2) hx hb hts hown hK hP hj (Nat.le_of_ble_eq_true rfl) jlX4_15 rfl dX4_minutesOf_7 ?_
  refine lv_iload_n hx hb dX4_minutesOf_10 rfl (lv_at hl 1 rfl) ?_
  obtain ⟨g11, h⟩ := jh_gd h
  refine jr_ald (n := 8) hx hb hK hP hj rfl g11 dX4_minutesOf_11 ?_
  refine lv_iload_n hx hb dX4_minutesOf_12 rfl (lv_at hl 2 rfl) ?_
  refine jr_kp (jr_rn (As := [.int (M o 1 (Int32.toNatClampNeg v1)), .int (M o 2 (Int32.toNatClampNeg v1)), .int v2]) (rest := []) S hN (m_X5_minutes l (M o 1 (Int32.toNatClampNeg v1)) (M o 2 (Int32.toNatClampNeg v1)) v2 _ rfl) jw_X5_minutes js_X5_minutes (List.mem_of_getElem? (i := 7) rfl) rfl rfl ⟨(Nat.le_of_ble_eq_true rfl), (Nat.le_of_ble_eq_true rfl)⟩ rfl hl.1 rfl (Nat.le_of_ble_eq_true rfl) dX4_minutesOf_13 ⟨Nat.zero_le _, Nat.zero_le _⟩) ?_
  exact je_i hx hb hr hlocks (Option.some.inj h) dX4_minutesOf_16
def f_X4_seenBy_l4 (M : jm) (o : Nat) (v1_1 : Int32) : Nat → Int32 → Int32 → Option Int32
  | 0, _, _ => none
  | k_1 + 1, v2_1, v3_1 => (if (M o 5 0) ≤ v3_1 then (some v2_1) else (jgd v3_1 6 (jgd v1_1 8 (jb (f_X4_rangeOf M o v3_1 v1_1) fun r3 => (if r3 < (f_X5_steps (M o 6 (Int32.toNatClampNeg v3_1)) (M o 3 (Int32.toNatClampNeg v1_1))) then ((f_X4_seenBy_l4 M o v1_1 k_1) v2_1 (v3_1 + 1)) else ((f_X4_seenBy_l4 M o v1_1 k_1) (v2_1 ||| ((1 : Int32) <<< (v3_1 &&& 31))) (v3_1 + 1)))))))
def f_X4_seenBy (M : jm) (o : Nat) (v1 : Int32) : Option Int32 := (f_X4_seenBy_l4 M o v1 10000 0 0)
set_option maxRecDepth 100000 in
theorem m_X4_seenBy (l : Launch) (X : jX) (M : jm) {o : Nat} (hj : job o 4) (v1 : Int32) (r : Int32) (h : f_X4_seenBy M o v1 = some r) : Met l yX4_seenBy (jws yX4_seenBy cX4_seenBy 4 (some .int)) (jrm 2 44) (va_Pc [.ref (jO X o), .int v1] (jB X M)) (jQ (.int r)) 0 0 (fun _ => False) := by
  refine jm_of (by decide) (Nat.le_of_ble_eq_true rfl) ?_
  intro p e s m args below meth c ls S hr hlocks hB hl
  have S : CallFix p m c cX4_seenBy 4 s args jtb RX4 := S
  obtain ⟨hx, hb, hml, hown, hts⟩ := id S
  obtain ⟨hP, hK⟩ := hB
  have hN := hK.2
  have hl : lv_has ls 4 [(0, .ref (jO X o)), (1, .int v1)] := hl
  refine lv_iconst (v := 0) hx hb dX4_seenBy_0 jci_0 ?_
  refine lv_istore_n (lv' := [(2, .int 0), (0, .ref (jO X o)), (1, .int v1)]) hx hb dX4_seenBy_1 rfl hl (Nat.le_of_ble_eq_true rfl) rfl (fun ls hl => ?_)
  refine lv_iconst (v := 0) hx hb dX4_seenBy_2 jci_0 ?_
  refine lv_istore_n (lv' := [(3, .int 0), (2, .int 0), (0, .ref (jO X o)), (1, .int v1)]) hx hb dX4_seenBy_3 rfl hl (Nat.le_of_ble_eq_true rfl) rfl (fun ls hl => ?_)
  have L4 : ∀ (v1_1 : Int32) (k_1 : Nat) (v2_1 : Int32) (v3_1 : Int32) (ls : Array Slot), f_X4_seenBy_l4 M o v1_1 k_1 v2_1 v3_1 = some r → lv_has ls 4 [(0, .ref (jO X o)), (1, .int v1_1), (2, .int v2_1), (3, .int v3_1)] → W p l e (jrm 2 44) s m args below meth c s.heap [] 0 0 (MQ below (jQ (.int r)) args s 0 0 (fun _ => False)) (F0 m 4 ls []) := by
    intro v1_1 k_1
    induction k_1 with
    | zero => intro v2_1 v3_1 ls h; exact jh_0 h
    | succ k_1 ih4 =>
      intro v2_1 v3_1 ls h hl
      refine lv_iload_n hx hb dX4_seenBy_4 rfl (lv_at hl 3 rfl) ?_
      refine lv_aload_n hx hb dX4_seenBy_5 rfl (lv_at hl 0 rfl) ?_
      refine jr_get (k := 5) hx hb hts hown hK hP hj (Nat.le_of_ble_eq_true rfl) jlX4_52 rfl dX4_seenBy_6 ?_
      refine lv_icmp_ge (tgt := 48) hx hb dX4_seenBy_9 rfl (fun c9 => ?_) (fun c9 => ?_)
      · replace h := jh_t h c9
        refine lv_iload_n hx hb dX4_seenBy_48 rfl (lv_at hl 2 rfl) ?_
        exact je_i hx hb hr hlocks (Option.some.inj h) dX4_seenBy_49
      · replace h := jh_f h c9
        refine lv_aload_n hx hb dX4_seenBy_12 rfl (lv_at hl 0 rfl) ?_
        refine jr_get (k := 6) hx hb hts hown hK hP hj (Nat.le_of_ble_eq_true rfl) jlX4_21 rfl dX4_seenBy_13 ?_
        refine lv_iload_n hx hb dX4_seenBy_16 rfl (lv_at hl 3 rfl) ?_
        obtain ⟨g17, h⟩ := jh_gd h
        refine jr_ald (n := 6) hx hb hK hP hj rfl g17 dX4_seenBy_17 ?_
        refine lv_aload_n hx hb dX4_seenBy_18 rfl (lv_at hl 0 rfl) ?_
        refine jr_get (k := 3) hx hb hts hown hK hP hj (Nat.le_of_ble_eq_true rfl) jlX4_18 rfl dX4_seenBy_19 ?_
        refine lv_iload_n hx hb dX4_seenBy_22 rfl (lv_at hl 1 rfl) ?_
        obtain ⟨g23, h⟩ := jh_gd h
        refine jr_ald (n := 8) hx hb hK hP hj rfl g23 dX4_seenBy_23 ?_
        refine jr_kp (jr_rn (As := [.int (M o 6 (Int32.toNatClampNeg v3_1)), .int (M o 3 (Int32.toNatClampNeg v1_1))]) (rest := []) S hN (m_X5_steps l (M o 6 (Int32.toNatClampNeg v3_1)) (M o 3 (Int32.toNatClampNeg v1_1)) _ rfl) jw_X5_steps js_X5_steps (List.mem_of_getElem? (i := 6) rfl) rfl rfl ⟨(Nat.le_of_ble_eq_true rfl), (Nat.le_of_ble_eq_true rfl)⟩ rfl hl.1 rfl (Nat.le_of_ble_eq_true rfl) dX4_seenBy_24 ⟨Nat.zero_le _, Nat.zero_le _⟩) ?_
        refine lv_aload_n hx hb dX4_seenBy_27 rfl (lv_at hl 0 rfl) ?_
        refine lv_iload_n hx hb dX4_seenBy_28 rfl (lv_at hl 3 rfl) ?_
        refine lv_iload_n hx hb dX4_seenBy_29 rfl (lv_at hl 1 rfl) ?_
        obtain ⟨r3, e3, h⟩ := jh_b h
        refine jr_kp (jr_rv (As := [.int v3_1, .int v1_1]) (rest := [.int (f_X5_steps (M o 6 (Int32.toNatClampNeg v3_1)) (M o 3 (Int32.toNatClampNeg v1_1)))]) S hK hP hj rfl (m_X4_rangeOf l X M hj v3_1 v1_1 r3 e3) jw_X4_rangeOf ji_X4_rangeOf jmX4_96 rfl rfl ⟨(Nat.le_of_ble_eq_true rfl), (Nat.le_of_ble_eq_true rfl)⟩ rfl hl.1 rfl (Nat.le_of_ble_eq_true rfl) dX4_seenBy_30 ⟨Nat.zero_le _, Nat.zero_le _⟩) ?_
        refine lv_icmp_gt (tgt := 42) hx hb dX4_seenBy_33 rfl (fun c33 => ?_) (fun c33 => ?_)
        · replace h := jh_t h c33
          refine lv_iinc (v := (v3_1 + 1)) (lv' := [(3, .int (v3_1 + 1)), (0, .ref (jO X o)), (1, .int v1_1), (2, .int v2_1)]) hx hb dX4_seenBy_42 hl (k := 3) rfl (congrArg _ jci_1) (Nat.le_of_ble_eq_true rfl) rfl (fun ls hl => ?_)
          refine lv_goto (tgt := 4) hx hb dX4_seenBy_45 rfl ?_
          exact ih4 v2_1 (v3_1 + 1) _ h (lv_sub hl [1, 2, 3, 0] rfl)
        · replace h := jh_f h c33
          refine lv_iload_n hx hb dX4_seenBy_36 rfl (lv_at hl 2 rfl) ?_
          refine lv_iconst (v := 1) hx hb dX4_seenBy_37 jci_1 ?_
          refine lv_iload_n hx hb dX4_seenBy_38 rfl (lv_at hl 3 rfl) ?_
          refine lv_ishl hx hb dX4_seenBy_39 ?_
          refine lv_ior hx hb dX4_seenBy_40 ?_
          refine lv_istore_n (lv' := [(2, .int (v2_1 ||| ((1 : Int32) <<< (v3_1 &&& 31)))), (0, .ref (jO X o)), (1, .int v1_1), (3, .int v3_1)]) hx hb dX4_seenBy_41 rfl hl (Nat.le_of_ble_eq_true rfl) rfl (fun ls hl => ?_)
          refine lv_iinc (v := (v3_1 + 1)) (lv' := [(3, .int (v3_1 + 1)), (2, .int (v2_1 ||| ((1 : Int32) <<< (v3_1 &&& 31)))), (0, .ref (jO X o)), (1, .int v1_1)]) hx hb dX4_seenBy_42 hl (k := 3) rfl (congrArg _ jci_1) (Nat.le_of_ble_eq_true rfl) rfl (fun ls hl => ?_)
          refine lv_goto (tgt := 4) hx hb dX4_seenBy_45 rfl ?_
          exact ih4 (v2_1 ||| ((1 : Int32) <<< (v3_1 &&& 31))) (v3_1 + 1) _ h (lv_sub hl [2, 3, 1, 0] rfl)
  exact L4 v1 10000 0 0 _ h (lv_sub hl [2, 3, 1, 0] rfl)
def f_X4_sightings_l6 (M : jm) (o : Nat) (v1_1 : Int32) (v2_1 : Int32) (v3_1 : Int32) : Nat → Int32 → Int32 → Option Int32
  | 0, _, _ => none
  | k_1 + 1, v4_1, v5_1 => (if v3_1 < v5_1 then (some v4_1) else (jb (f_X4_placeBehind M o v1_1 v5_1) fun r2 => (jgd v2_1 8 (jb (f_X4_rangeOf M o v1_1 v2_1) fun r4 => (if r4 < (f_X5_steps r2 (M o 3 (Int32.toNatClampNeg v2_1))) then ((f_X4_sightings_l6 M o v1_1 v2_1 v3_1 k_1) v4_1 (v5_1 + 1)) else ((f_X4_sightings_l6 M o v1_1 v2_1 v3_1 k_1) (v4_1 + 1) (v5_1 + 1)))))))
def f_X4_sightings (M : jm) (o : Nat) (v1 : Int32) (v2 : Int32) (v3 : Int32) : Option Int32 := (f_X4_sightings_l6 M o v1 v2 v3 10000 0 1)
set_option maxRecDepth 100000 in
theorem m_X4_sightings (l : Launch) (X : jX) (M : jm) {o : Nat} (hj : job o 4) (v1 : Int32) (v2 : Int32) (v3 : Int32) (r : Int32) (h : f_X4_sightings M o v1 v2 v3 = some r) : Met l yX4_sightings (jws yX4_sightings cX4_sightings 6 (some .int)) (jrm 3 66) (va_Pc [.ref (jO X o), .int v1, .int v2, .int v3] (jB X M)) (jQ (.int r)) 0 0 (fun _ => False) := by
  refine jm_of (by decide) (Nat.le_of_ble_eq_true rfl) ?_
  intro p e s m args below meth c ls S hr hlocks hB hl
  have S : CallFix p m c cX4_sightings 6 s args jtb RX4 := S
  obtain ⟨hx, hb, hml, hown, hts⟩ := id S
  obtain ⟨hP, hK⟩ := hB
  have hN := hK.2
  have hl : lv_has ls 6 [(0, .ref (jO X o)), (1, .int v1), (2, .int v2), (3, .int v3)] := hl
  refine lv_iconst (v := 0) hx hb dX4_sightings_0 jci_0 ?_
  refine lv_istore (lv' := [(4, .int 0), (0, .ref (jO X o)), (1, .int v1), (2, .int v2), (3, .int v3)]) hx hb dX4_sightings_1 hl (Nat.le_of_ble_eq_true rfl) rfl (fun ls hl => ?_)
  refine lv_iconst (v := 1) hx hb dX4_sightings_3 jci_1 ?_
  refine lv_istore (lv' := [(5, .int 1), (4, .int 0), (0, .ref (jO X o)), (1, .int v1), (2, .int v2), (3, .int v3)]) hx hb dX4_sightings_4 hl (Nat.le_of_ble_eq_true rfl) rfl (fun ls hl => ?_)
  have L6 : ∀ (v1_1 : Int32) (v2_1 : Int32) (v3_1 : Int32) (k_1 : Nat) (v4_1 : Int32) (v5_1 : Int32) (ls : Array Slot), f_X4_sightings_l6 M o v1_1 v2_1 v3_1 k_1 v4_1 v5_1 = some r → lv_has ls 6 [(0, .ref (jO X o)), (1, .int v1_1), (2, .int v2_1), (3, .int v3_1), (4, .int v4_1), (5, .int v5_1)] → W p l e (jrm 3 66) s m args below meth c s.heap [] 0 0 (MQ below (jQ (.int r)) args s 0 0 (fun _ => False)) (F0 m 6 ls []) := by
    intro v1_1 v2_1 v3_1 k_1
    induction k_1 with
    | zero => intro v4_1 v5_1 ls h; exact jh_0 h
    | succ k_1 ih6 =>
      intro v4_1 v5_1 ls h hl
      refine lv_iload hx hb dX4_sightings_6 (lv_at hl 5 rfl) ?_
      refine lv_iload_n hx hb dX4_sightings_8 rfl (lv_at hl 3 rfl) ?_
      refine lv_icmp_gt (tgt := 46) hx hb dX4_sightings_9 rfl (fun c9 => ?_) (fun c9 => ?_)
      · replace h := jh_t h c9
        refine lv_iload hx hb dX4_sightings_46 (lv_at hl 4 rfl) ?_
        exact je_i hx hb hr hlocks (Option.some.inj h) dX4_sightings_48
      · replace h := jh_f h c9
        refine lv_aload_n hx hb dX4_sightings_12 rfl (lv_at hl 0 rfl) ?_
        refine lv_iload_n hx hb dX4_sightings_13 rfl (lv_at hl 1 rfl) ?_
        refine lv_iload hx hb dX4_sightings_14 (lv_at hl 5 rfl) ?_
        obtain ⟨r2, e2, h⟩ := jh_b h
        refine jr_kp (jr_rv (As := [.int v1_1, .int v5_1]) (rest := []) S hK hP hj rfl (m_X4_placeBehind l X M hj v1_1 v5_1 r2 e2) jw_X4_placeBehind ji_X4_placeBehind jmX4_80 rfl rfl ⟨(Nat.le_of_ble_eq_true rfl), (Nat.le_of_ble_eq_true rfl)⟩ rfl hl.1 rfl (Nat.le_of_ble_eq_true rfl) dX4_sightings_16 ⟨Nat.zero_le _, Nat.zero_le _⟩) ?_
        refine lv_aload_n hx hb dX4_sightings_19 rfl (lv_at hl 0 rfl) ?_
        refine jr_get (k := 3) hx hb hts hown hK hP hj (Nat.le_of_ble_eq_true rfl) jlX4_18 rfl dX4_sightings_20 ?_
        refine lv_iload_n hx hb dX4_sightings_23 rfl (lv_at hl 2 rfl) ?_
        obtain ⟨g24, h⟩ := jh_gd h
        refine jr_ald (n := 8) hx hb hK hP hj rfl g24 dX4_sightings_24 ?_
        refine jr_kp (jr_rn (As := [.int r2, .int (M o 3 (Int32.toNatClampNeg v2_1))]) (rest := []) S hN (m_X5_steps l r2 (M o 3 (Int32.toNatClampNeg v2_1)) _ rfl) jw_X5_steps js_X5_steps (List.mem_of_getElem? (i := 6) rfl) rfl rfl ⟨(Nat.le_of_ble_eq_true rfl), (Nat.le_of_ble_eq_true rfl)⟩ rfl hl.1 rfl (Nat.le_of_ble_eq_true rfl) dX4_sightings_25 ⟨Nat.zero_le _, Nat.zero_le _⟩) ?_
        refine lv_aload_n hx hb dX4_sightings_28 rfl (lv_at hl 0 rfl) ?_
        refine lv_iload_n hx hb dX4_sightings_29 rfl (lv_at hl 1 rfl) ?_
        refine lv_iload_n hx hb dX4_sightings_30 rfl (lv_at hl 2 rfl) ?_
        obtain ⟨r4, e4, h⟩ := jh_b h
        refine jr_kp (jr_rv (As := [.int v1_1, .int v2_1]) (rest := [.int (f_X5_steps r2 (M o 3 (Int32.toNatClampNeg v2_1)))]) S hK hP hj rfl (m_X4_rangeOf l X M hj v1_1 v2_1 r4 e4) jw_X4_rangeOf ji_X4_rangeOf jmX4_96 rfl rfl ⟨(Nat.le_of_ble_eq_true rfl), (Nat.le_of_ble_eq_true rfl)⟩ rfl hl.1 rfl (Nat.le_of_ble_eq_true rfl) dX4_sightings_31 ⟨Nat.zero_le _, Nat.zero_le _⟩) ?_
        refine lv_icmp_gt (tgt := 40) hx hb dX4_sightings_34 rfl (fun c34 => ?_) (fun c34 => ?_)
        · replace h := jh_t h c34
          refine lv_iinc (v := (v5_1 + 1)) (lv' := [(5, .int (v5_1 + 1)), (0, .ref (jO X o)), (1, .int v1_1), (2, .int v2_1), (3, .int v3_1), (4, .int v4_1)]) hx hb dX4_sightings_40 hl (k := 5) rfl (congrArg _ jci_1) (Nat.le_of_ble_eq_true rfl) rfl (fun ls hl => ?_)
          refine lv_goto (tgt := 6) hx hb dX4_sightings_43 rfl ?_
          exact ih6 v4_1 (v5_1 + 1) _ h (lv_sub hl [1, 2, 3, 4, 5, 0] rfl)
        · replace h := jh_f h c34
          refine lv_iinc (v := (v4_1 + 1)) (lv' := [(4, .int (v4_1 + 1)), (0, .ref (jO X o)), (1, .int v1_1), (2, .int v2_1), (3, .int v3_1), (5, .int v5_1)]) hx hb dX4_sightings_37 hl (k := 4) rfl (congrArg _ jci_1) (Nat.le_of_ble_eq_true rfl) rfl (fun ls hl => ?_)
          refine lv_iinc (v := (v5_1 + 1)) (lv' := [(5, .int (v5_1 + 1)), (4, .int (v4_1 + 1)), (0, .ref (jO X o)), (1, .int v1_1), (2, .int v2_1), (3, .int v3_1)]) hx hb dX4_sightings_40 hl (k := 5) rfl (congrArg _ jci_1) (Nat.le_of_ble_eq_true rfl) rfl (fun ls hl => ?_)
          refine lv_goto (tgt := 6) hx hb dX4_sightings_43 rfl ?_
          exact ih6 (v4_1 + 1) (v5_1 + 1) _ h (lv_sub hl [2, 3, 4, 5, 1, 0] rfl)
  exact L6 v1 v2 v3 10000 0 1 _ h (lv_sub hl [2, 3, 4, 5, 1, 0] rfl)
def f_X4_minutesBehind (M : jm) (o : Nat) (v1 : Int32) (v2 : Int32) (v3 : Int32) : Option Int32 := (jb (f_X4_ageBehind M o v1 v2 v3) fun r1 => (if r1 = (-1) then (some 0) else (jb (f_X4_minutesOf M o v2 r1) fun r2 => (some r2))))
set_option maxRecDepth 100000 in
theorem m_X4_minutesBehind (l : Launch) (X : jX) (M : jm) {o : Nat} (hj : job o 4) (v1 : Int32) (v2 : Int32) (v3 : Int32) (r : Int32) (h : f_X4_minutesBehind M o v1 v2 v3 = some r) : Met l yX4_minutesBehind (jws yX4_minutesBehind cX4_minutesBehind 5 (some .int)) (jrm 4 95) (va_Pc [.ref (jO X o), .int v1, .int v2, .int v3] (jB X M)) (jQ (.int r)) 0 0 (fun _ => False) := by
  refine jm_of (by decide) (Nat.le_of_ble_eq_true rfl) ?_
  intro p e s m args below meth c ls S hr hlocks hB hl
  have S : CallFix p m c cX4_minutesBehind 5 s args jtb RX4 := S
  obtain ⟨hx, hb, hml, hown, hts⟩ := id S
  obtain ⟨hP, hK⟩ := hB
  have hN := hK.2
  have hl : lv_has ls 5 [(0, .ref (jO X o)), (1, .int v1), (2, .int v2), (3, .int v3)] := hl
  refine lv_aload_n hx hb dX4_minutesBehind_0 rfl (lv_at hl 0 rfl) ?_
  refine lv_iload_n hx hb dX4_minutesBehind_1 rfl (lv_at hl 1 rfl) ?_
  refine lv_iload_n hx hb dX4_minutesBehind_2 rfl (lv_at hl 2 rfl) ?_
  refine lv_iload_n hx hb dX4_minutesBehind_3 rfl (lv_at hl 3 rfl) ?_
  obtain ⟨r1, e1, h⟩ := jh_b h
  refine jr_kp (jr_rv (As := [.int v1, .int v2, .int v3]) (rest := []) S hK hP hj rfl (m_X4_ageBehind l X M hj v1 v2 v3 r1 e1) jw_X4_ageBehind ji_X4_ageBehind jmX4_76 rfl rfl ⟨(Nat.le_of_ble_eq_true rfl), (Nat.le_of_ble_eq_true rfl)⟩ rfl hl.1 rfl (Nat.le_of_ble_eq_true rfl) dX4_minutesBehind_4 ⟨Nat.zero_le _, Nat.zero_le _⟩) ?_
  refine lv_istore (lv' := [(4, .int r1), (0, .ref (jO X o)), (1, .int v1), (2, .int v2), (3, .int v3)]) hx hb dX4_minutesBehind_7 hl (Nat.le_of_ble_eq_true rfl) rfl (fun ls hl => ?_)
  refine lv_iload hx hb dX4_minutesBehind_9 (lv_at hl 0 rfl) ?_
  refine lv_iconst (v := (-1)) hx hb dX4_minutesBehind_11 jci_m1 ?_
  refine lv_icmp_ne (tgt := 19) hx hb dX4_minutesBehind_12 rfl (fun c12 => ?_) (fun c12 => ?_)
  · replace h := jh_f h c12
    refine lv_aload_n hx hb dX4_minutesBehind_19 rfl (lv_at hl 1 rfl) ?_
    refine lv_iload_n hx hb dX4_minutesBehind_20 rfl (lv_at hl 3 rfl) ?_
    refine lv_iload hx hb dX4_minutesBehind_21 (lv_at hl 0 rfl) ?_
    obtain ⟨r2, e2, h⟩ := jh_b h
    refine jr_kp (jr_rv (As := [.int v2, .int r1]) (rest := []) S hK hP hj rfl (m_X4_minutesOf l X M hj v2 r1 r2 e2) jw_X4_minutesOf ji_X4_minutesOf jmX4_110 rfl rfl ⟨(Nat.le_of_ble_eq_true rfl), (Nat.le_of_ble_eq_true rfl)⟩ rfl hl.1 rfl (Nat.le_of_ble_eq_true rfl) dX4_minutesBehind_23 ⟨Nat.zero_le _, Nat.zero_le _⟩) ?_
    exact je_i hx hb hr hlocks (Option.some.inj h) dX4_minutesBehind_26
  · replace h := jh_t h c12
    refine lv_iconst (v := 0) hx hb dX4_minutesBehind_15 jci_0 ?_
    refine lv_goto (tgt := 26) hx hb dX4_minutesBehind_16 rfl ?_
    exact je_i hx hb hr hlocks (Option.some.inj h) dX4_minutesBehind_26
def f_X4_priceBehind_l5 (M : jm) (o : Nat) (v1_1 : Int32) (v2_1 : Int32) : Nat → Int32 → Int32 → Option Int32
  | 0, _, _ => none
  | k_1 + 1, v3_1, v4_1 => (if (M o 0 0) ≤ v4_1 then (some v3_1) else (jb (f_X4_minutesBehind M o v1_1 v4_1 v2_1) fun r2 => ((f_X4_priceBehind_l5 M o v1_1 v2_1 k_1) (v3_1 + r2) (v4_1 + 1))))
def f_X4_priceBehind (M : jm) (o : Nat) (v1 : Int32) (v2 : Int32) : Option Int32 := (f_X4_priceBehind_l5 M o v1 v2 10000 0 0)
set_option maxRecDepth 100000 in
theorem m_X4_priceBehind (l : Launch) (X : jX) (M : jm) {o : Nat} (hj : job o 4) (v1 : Int32) (v2 : Int32) (r : Int32) (h : f_X4_priceBehind M o v1 v2 = some r) : Met l yX4_priceBehind (jws yX4_priceBehind cX4_priceBehind 5 (some .int)) (jrm 5 119) (va_Pc [.ref (jO X o), .int v1, .int v2] (jB X M)) (jQ (.int r)) 0 0 (fun _ => False) := by
  refine jm_of (by decide) (Nat.le_of_ble_eq_true rfl) ?_
  intro p e s m args below meth c ls S hr hlocks hB hl
  have S : CallFix p m c cX4_priceBehind 5 s args jtb RX4 := S
  obtain ⟨hx, hb, hml, hown, hts⟩ := id S
  obtain ⟨hP, hK⟩ := hB
  have hN := hK.2
  have hl : lv_has ls 5 [(0, .ref (jO X o)), (1, .int v1), (2, .int v2)] := hl
  refine lv_iconst (v := 0) hx hb dX4_priceBehind_0 jci_0 ?_
  refine lv_istore_n (lv' := [(3, .int 0), (0, .ref (jO X o)), (1, .int v1), (2, .int v2)]) hx hb dX4_priceBehind_1 rfl hl (Nat.le_of_ble_eq_true rfl) rfl (fun ls hl => ?_)
  refine lv_iconst (v := 0) hx hb dX4_priceBehind_2 jci_0 ?_
  refine lv_istore (lv' := [(4, .int 0), (3, .int 0), (0, .ref (jO X o)), (1, .int v1), (2, .int v2)]) hx hb dX4_priceBehind_3 hl (Nat.le_of_ble_eq_true rfl) rfl (fun ls hl => ?_)
  have L5 : ∀ (v1_1 : Int32) (v2_1 : Int32) (k_1 : Nat) (v3_1 : Int32) (v4_1 : Int32) (ls : Array Slot), f_X4_priceBehind_l5 M o v1_1 v2_1 k_1 v3_1 v4_1 = some r → lv_has ls 5 [(0, .ref (jO X o)), (1, .int v1_1), (2, .int v2_1), (3, .int v3_1), (4, .int v4_1)] → W p l e (jrm 5 119) s m args below meth c s.heap [] 0 0 (MQ below (jQ (.int r)) args s 0 0 (fun _ => False)) (F0 m 5 ls []) := by
    intro v1_1 v2_1 k_1
    induction k_1 with
    | zero => intro v3_1 v4_1 ls h; exact jh_0 h
    | succ k_1 ih5 =>
      intro v3_1 v4_1 ls h hl
      refine lv_iload hx hb dX4_priceBehind_5 (lv_at hl 4 rfl) ?_
      refine lv_aload_n hx hb dX4_priceBehind_7 rfl (lv_at hl 0 rfl) ?_
      refine jr_get (k := 0) hx hb hts hown hK hP hj (Nat.le_of_ble_eq_true rfl) jlX4_39 rfl dX4_priceBehind_8 ?_
      refine lv_icmp_ge (tgt := 31) hx hb dX4_priceBehind_11 rfl (fun c11 => ?_) (fun c11 => ?_)
      · replace h := jh_t h c11
        refine lv_iload_n hx hb dX4_priceBehind_31 rfl (lv_at hl 3 rfl) ?_
        exact je_i hx hb hr hlocks (Option.some.inj h) dX4_priceBehind_32
      · replace h := jh_f h c11
        refine lv_iload_n hx hb dX4_priceBehind_14 rfl (lv_at hl 3 rfl) ?_
        refine lv_aload_n hx hb dX4_priceBehind_15 rfl (lv_at hl 0 rfl) ?_
        refine lv_iload_n hx hb dX4_priceBehind_16 rfl (lv_at hl 1 rfl) ?_
        refine lv_iload hx hb dX4_priceBehind_17 (lv_at hl 4 rfl) ?_
        refine lv_iload_n hx hb dX4_priceBehind_19 rfl (lv_at hl 2 rfl) ?_
        obtain ⟨r2, e2, h⟩ := jh_b h
        refine jr_kp (jr_rv (As := [.int v1_1, .int v4_1, .int v2_1]) (rest := [.int v3_1]) S hK hP hj rfl (m_X4_minutesBehind l X M hj v1_1 v4_1 v2_1 r2 e2) jw_X4_minutesBehind ji_X4_minutesBehind jmX4_113 rfl rfl ⟨(Nat.le_of_ble_eq_true rfl), (Nat.le_of_ble_eq_true rfl)⟩ rfl hl.1 rfl (Nat.le_of_ble_eq_true rfl) dX4_priceBehind_20 ⟨Nat.zero_le _, Nat.zero_le _⟩) ?_
        refine lv_iadd hx hb dX4_priceBehind_23 ?_
        refine lv_istore_n (lv' := [(3, .int (v3_1 + r2)), (0, .ref (jO X o)), (1, .int v1_1), (2, .int v2_1), (4, .int v4_1)]) hx hb dX4_priceBehind_24 rfl hl (Nat.le_of_ble_eq_true rfl) rfl (fun ls hl => ?_)
        refine lv_iinc (v := (v4_1 + 1)) (lv' := [(4, .int (v4_1 + 1)), (3, .int (v3_1 + r2)), (0, .ref (jO X o)), (1, .int v1_1), (2, .int v2_1)]) hx hb dX4_priceBehind_25 hl (k := 4) rfl (congrArg _ jci_1) (Nat.le_of_ble_eq_true rfl) rfl (fun ls hl => ?_)
        refine lv_goto (tgt := 5) hx hb dX4_priceBehind_28 rfl ?_
        exact ih5 (v3_1 + r2) (v4_1 + 1) _ h (lv_sub hl [2, 3, 4, 1, 0] rfl)
  exact L5 v1 v2 10000 0 0 _ h (lv_sub hl [2, 3, 4, 1, 0] rfl)
def f_X4_pricesBehind_l15 (M : jm) (o : Nat) (K4_2 : Int32 → Int32 → Option Int32) (v1_1 : Int32) (v3_2 : Int32) : Nat → Int32 → Int32 → Option Int32
  | 0, _, _ => none
  | k_2 + 1, v2_2, v4_2 => (if (M o 0 0) ≤ v4_2 then (K4_2 v2_2 (v3_2 + 1)) else (jb (f_X4_minutesBehind M o v3_2 v4_2 v1_1) fun r3 => ((f_X4_pricesBehind_l15 M o K4_2 v1_1 v3_2 k_2) (v2_2 + r3) (v4_2 + 1))))
def f_X4_pricesBehind_l4 (M : jm) (o : Nat) (v1_1 : Int32) : Nat → Int32 → Int32 → Option Int32
  | 0, _, _ => none
  | k_1 + 1, v2_1, v3_1 => (if (M o 5 0) ≤ v3_1 then (some v2_1) else (f_X4_pricesBehind_l15 M o (f_X4_pricesBehind_l4 M o v1_1 k_1) v1_1 v3_1 10000 v2_1 0))
def f_X4_pricesBehind (M : jm) (o : Nat) (v1 : Int32) : Option Int32 := (f_X4_pricesBehind_l4 M o v1 10000 0 0)
set_option maxRecDepth 100000 in
theorem m_X4_pricesBehind (l : Launch) (X : jX) (M : jm) {o : Nat} (hj : job o 4) (v1 : Int32) (r : Int32) (h : f_X4_pricesBehind M o v1 = some r) : Met l yX4_pricesBehind (jws yX4_pricesBehind cX4_pricesBehind 5 (some .int)) (jrm 5 119) (va_Pc [.ref (jO X o), .int v1] (jB X M)) (jQ (.int r)) 0 0 (fun _ => False) := by
  refine jm_of (by decide) (Nat.le_of_ble_eq_true rfl) ?_
  intro p e s m args below meth c ls S hr hlocks hB hl
  have S : CallFix p m c cX4_pricesBehind 5 s args jtb RX4 := S
  obtain ⟨hx, hb, hml, hown, hts⟩ := id S
  obtain ⟨hP, hK⟩ := hB
  have hN := hK.2
  have hl : lv_has ls 5 [(0, .ref (jO X o)), (1, .int v1)] := hl
  refine lv_iconst (v := 0) hx hb dX4_pricesBehind_0 jci_0 ?_
  refine lv_istore_n (lv' := [(2, .int 0), (0, .ref (jO X o)), (1, .int v1)]) hx hb dX4_pricesBehind_1 rfl hl (Nat.le_of_ble_eq_true rfl) rfl (fun ls hl => ?_)
  refine lv_iconst (v := 0) hx hb dX4_pricesBehind_2 jci_0 ?_
  refine lv_istore_n (lv' := [(3, .int 0), (2, .int 0), (0, .ref (jO X o)), (1, .int v1)]) hx hb dX4_pricesBehind_3 rfl hl (Nat.le_of_ble_eq_true rfl) rfl (fun ls hl => ?_)
  have L4 : ∀ (v1_1 : Int32) (k_1 : Nat) (v2_1 : Int32) (v3_1 : Int32) (ls : Array Slot), f_X4_pricesBehind_l4 M o v1_1 k_1 v2_1 v3_1 = some r → lv_has ls 5 [(0, .ref (jO X o)), (1, .int v1_1), (2, .int v2_1), (3, .int v3_1)] → W p l e (jrm 5 119) s m args below meth c s.heap [] 0 0 (MQ below (jQ (.int r)) args s 0 0 (fun _ => False)) (F0 m 4 ls []) := by
    intro v1_1 k_1
    induction k_1 with
    | zero => intro v2_1 v3_1 ls h; exact jh_0 h
    | succ k_1 ih4 =>
      intro v2_1 v3_1 ls h hl
      refine lv_iload_n hx hb dX4_pricesBehind_4 rfl (lv_at hl 3 rfl) ?_
      refine lv_aload_n hx hb dX4_pricesBehind_5 rfl (lv_at hl 0 rfl) ?_
      refine jr_get (k := 5) hx hb hts hown hK hP hj (Nat.le_of_ble_eq_true rfl) jlX4_52 rfl dX4_pricesBehind_6 ?_
      refine lv_icmp_ge (tgt := 47) hx hb dX4_pricesBehind_9 rfl (fun c9 => ?_) (fun c9 => ?_)
      · replace h := jh_t h c9
        refine lv_iload_n hx hb dX4_pricesBehind_47 rfl (lv_at hl 2 rfl) ?_
        exact je_i hx hb hr hlocks (Option.some.inj h) dX4_pricesBehind_48
      · replace h := jh_f h c9
        refine lv_iconst (v := 0) hx hb dX4_pricesBehind_12 jci_0 ?_
        refine lv_istore (lv' := [(4, .int 0), (0, .ref (jO X o)), (1, .int v1_1), (2, .int v2_1), (3, .int v3_1)]) hx hb dX4_pricesBehind_13 hl (Nat.le_of_ble_eq_true rfl) rfl (fun ls hl => ?_)
        have L15 : ∀ (v3_2 : Int32) (k_2 : Nat) (v2_2 : Int32) (v4_2 : Int32) (ls : Array Slot), f_X4_pricesBehind_l15 M o (f_X4_pricesBehind_l4 M o v1_1 k_1) v1_1 v3_2 k_2 v2_2 v4_2 = some r → lv_has ls 5 [(0, .ref (jO X o)), (1, .int v1_1), (2, .int v2_2), (3, .int v3_2), (4, .int v4_2)] → W p l e (jrm 5 119) s m args below meth c s.heap [] 0 0 (MQ below (jQ (.int r)) args s 0 0 (fun _ => False)) (F0 m 15 ls []) := by
          intro v3_2 k_2
          induction k_2 with
          | zero => intro v2_2 v4_2 ls h; exact jh_0 h
          | succ k_2 ih15 =>
            intro v2_2 v4_2 ls h hl
            refine lv_iload hx hb dX4_pricesBehind_15 (lv_at hl 4 rfl) ?_
            refine lv_aload_n hx hb dX4_pricesBehind_17 rfl (lv_at hl 0 rfl) ?_
            refine jr_get (k := 0) hx hb hts hown hK hP hj (Nat.le_of_ble_eq_true rfl) jlX4_39 rfl dX4_pricesBehind_18 ?_
            refine lv_icmp_ge (tgt := 41) hx hb dX4_pricesBehind_21 rfl (fun c21 => ?_) (fun c21 => ?_)
            · replace h := jh_t h c21
              refine lv_iinc (v := (v3_2 + 1)) (lv' := [(3, .int (v3_2 + 1)), (0, .ref (jO X o)), (1, .int v1_1), (2, .int v2_2), (4, .int v4_2)]) hx hb dX4_pricesBehind_41 hl (k := 3) rfl (congrArg _ jci_1) (Nat.le_of_ble_eq_true rfl) rfl (fun ls hl => ?_)
              refine lv_goto (tgt := 4) hx hb dX4_pricesBehind_44 rfl ?_
              exact ih4 v2_2 (v3_2 + 1) _ h (lv_sub hl [1, 2, 3, 0] rfl)
            · replace h := jh_f h c21
              refine lv_iload_n hx hb dX4_pricesBehind_24 rfl (lv_at hl 2 rfl) ?_
              refine lv_aload_n hx hb dX4_pricesBehind_25 rfl (lv_at hl 0 rfl) ?_
              refine lv_iload_n hx hb dX4_pricesBehind_26 rfl (lv_at hl 3 rfl) ?_
              refine lv_iload hx hb dX4_pricesBehind_27 (lv_at hl 4 rfl) ?_
              refine lv_iload_n hx hb dX4_pricesBehind_29 rfl (lv_at hl 1 rfl) ?_
              obtain ⟨r3, e3, h⟩ := jh_b h
              refine jr_kp (jr_rv (As := [.int v3_2, .int v4_2, .int v1_1]) (rest := [.int v2_2]) S hK hP hj rfl (m_X4_minutesBehind l X M hj v3_2 v4_2 v1_1 r3 e3) jw_X4_minutesBehind ji_X4_minutesBehind jmX4_113 rfl rfl ⟨(Nat.le_of_ble_eq_true rfl), (Nat.le_of_ble_eq_true rfl)⟩ rfl hl.1 rfl (Nat.le_of_ble_eq_true rfl) dX4_pricesBehind_30 ⟨Nat.zero_le _, Nat.zero_le _⟩) ?_
              refine lv_iadd hx hb dX4_pricesBehind_33 ?_
              refine lv_istore_n (lv' := [(2, .int (v2_2 + r3)), (0, .ref (jO X o)), (1, .int v1_1), (3, .int v3_2), (4, .int v4_2)]) hx hb dX4_pricesBehind_34 rfl hl (Nat.le_of_ble_eq_true rfl) rfl (fun ls hl => ?_)
              refine lv_iinc (v := (v4_2 + 1)) (lv' := [(4, .int (v4_2 + 1)), (2, .int (v2_2 + r3)), (0, .ref (jO X o)), (1, .int v1_1), (3, .int v3_2)]) hx hb dX4_pricesBehind_35 hl (k := 4) rfl (congrArg _ jci_1) (Nat.le_of_ble_eq_true rfl) rfl (fun ls hl => ?_)
              refine lv_goto (tgt := 15) hx hb dX4_pricesBehind_38 rfl ?_
              exact ih15 (v2_2 + r3) (v4_2 + 1) _ h (lv_sub hl [2, 3, 1, 4, 0] rfl)
        exact L15 v3_1 10000 v2_1 0 _ h (lv_sub hl [1, 2, 3, 4, 0] rfl)
  exact L4 v1 10000 0 0 _ h (lv_sub hl [2, 3, 1, 0] rfl)
def f_X4_owersBehind_l5 (M : jm) (o : Nat) (v1_1 : Int32) (v2_1 : Int32) : Nat → Int32 → Int32 → Option Int32
  | 0, _, _ => none
  | k_1 + 1, v3_1, v4_1 => (if (M o 5 0) ≤ v4_1 then (some v3_1) else (jb (f_X4_ageBehind M o v4_1 v1_1 v2_1) fun r2 => (if r2 = (-1) then ((f_X4_owersBehind_l5 M o v1_1 v2_1 k_1) v3_1 (v4_1 + 1)) else ((f_X4_owersBehind_l5 M o v1_1 v2_1 k_1) (v3_1 ||| ((1 : Int32) <<< (v4_1 &&& 31))) (v4_1 + 1)))))
def f_X4_owersBehind (M : jm) (o : Nat) (v1 : Int32) (v2 : Int32) : Option Int32 := (f_X4_owersBehind_l5 M o v1 v2 10000 0 0)
set_option maxRecDepth 100000 in
theorem m_X4_owersBehind (l : Launch) (X : jX) (M : jm) {o : Nat} (hj : job o 4) (v1 : Int32) (v2 : Int32) (r : Int32) (h : f_X4_owersBehind M o v1 v2 = some r) : Met l yX4_owersBehind (jws yX4_owersBehind cX4_owersBehind 5 (some .int)) (jrm 4 95) (va_Pc [.ref (jO X o), .int v1, .int v2] (jB X M)) (jQ (.int r)) 0 0 (fun _ => False) := by
  refine jm_of (by decide) (Nat.le_of_ble_eq_true rfl) ?_
  intro p e s m args below meth c ls S hr hlocks hB hl
  have S : CallFix p m c cX4_owersBehind 5 s args jtb RX4 := S
  obtain ⟨hx, hb, hml, hown, hts⟩ := id S
  obtain ⟨hP, hK⟩ := hB
  have hN := hK.2
  have hl : lv_has ls 5 [(0, .ref (jO X o)), (1, .int v1), (2, .int v2)] := hl
  refine lv_iconst (v := 0) hx hb dX4_owersBehind_0 jci_0 ?_
  refine lv_istore_n (lv' := [(3, .int 0), (0, .ref (jO X o)), (1, .int v1), (2, .int v2)]) hx hb dX4_owersBehind_1 rfl hl (Nat.le_of_ble_eq_true rfl) rfl (fun ls hl => ?_)
  refine lv_iconst (v := 0) hx hb dX4_owersBehind_2 jci_0 ?_
  refine lv_istore (lv' := [(4, .int 0), (3, .int 0), (0, .ref (jO X o)), (1, .int v1), (2, .int v2)]) hx hb dX4_owersBehind_3 hl (Nat.le_of_ble_eq_true rfl) rfl (fun ls hl => ?_)
  have L5 : ∀ (v1_1 : Int32) (v2_1 : Int32) (k_1 : Nat) (v3_1 : Int32) (v4_1 : Int32) (ls : Array Slot), f_X4_owersBehind_l5 M o v1_1 v2_1 k_1 v3_1 v4_1 = some r → lv_has ls 5 [(0, .ref (jO X o)), (1, .int v1_1), (2, .int v2_1), (3, .int v3_1), (4, .int v4_1)] → W p l e (jrm 4 95) s m args below meth c s.heap [] 0 0 (MQ below (jQ (.int r)) args s 0 0 (fun _ => False)) (F0 m 5 ls []) := by
    intro v1_1 v2_1 k_1
    induction k_1 with
    | zero => intro v3_1 v4_1 ls h; exact jh_0 h
    | succ k_1 ih5 =>
      intro v3_1 v4_1 ls h hl
      refine lv_iload hx hb dX4_owersBehind_5 (lv_at hl 4 rfl) ?_
      refine lv_aload_n hx hb dX4_owersBehind_7 rfl (lv_at hl 0 rfl) ?_
      refine jr_get (k := 5) hx hb hts hown hK hP hj (Nat.le_of_ble_eq_true rfl) jlX4_52 rfl dX4_owersBehind_8 ?_
      refine lv_icmp_ge (tgt := 39) hx hb dX4_owersBehind_11 rfl (fun c11 => ?_) (fun c11 => ?_)
      · replace h := jh_t h c11
        refine lv_iload_n hx hb dX4_owersBehind_39 rfl (lv_at hl 3 rfl) ?_
        exact je_i hx hb hr hlocks (Option.some.inj h) dX4_owersBehind_40
      · replace h := jh_f h c11
        refine lv_aload_n hx hb dX4_owersBehind_14 rfl (lv_at hl 0 rfl) ?_
        refine lv_iload hx hb dX4_owersBehind_15 (lv_at hl 4 rfl) ?_
        refine lv_iload_n hx hb dX4_owersBehind_17 rfl (lv_at hl 1 rfl) ?_
        refine lv_iload_n hx hb dX4_owersBehind_18 rfl (lv_at hl 2 rfl) ?_
        obtain ⟨r2, e2, h⟩ := jh_b h
        refine jr_kp (jr_rv (As := [.int v4_1, .int v1_1, .int v2_1]) (rest := []) S hK hP hj rfl (m_X4_ageBehind l X M hj v4_1 v1_1 v2_1 r2 e2) jw_X4_ageBehind ji_X4_ageBehind jmX4_76 rfl rfl ⟨(Nat.le_of_ble_eq_true rfl), (Nat.le_of_ble_eq_true rfl)⟩ rfl hl.1 rfl (Nat.le_of_ble_eq_true rfl) dX4_owersBehind_19 ⟨Nat.zero_le _, Nat.zero_le _⟩) ?_
        refine lv_iconst (v := (-1)) hx hb dX4_owersBehind_22 jci_m1 ?_
        refine lv_icmp_eq (tgt := 33) hx hb dX4_owersBehind_23 rfl (fun c23 => ?_) (fun c23 => ?_)
        · replace h := jh_t h c23
          refine lv_iinc (v := (v4_1 + 1)) (lv' := [(4, .int (v4_1 + 1)), (0, .ref (jO X o)), (1, .int v1_1), (2, .int v2_1), (3, .int v3_1)]) hx hb dX4_owersBehind_33 hl (k := 4) rfl (congrArg _ jci_1) (Nat.le_of_ble_eq_true rfl) rfl (fun ls hl => ?_)
          refine lv_goto (tgt := 5) hx hb dX4_owersBehind_36 rfl ?_
          exact ih5 v3_1 (v4_1 + 1) _ h (lv_sub hl [1, 2, 3, 4, 0] rfl)
        · replace h := jh_f h c23
          refine lv_iload_n hx hb dX4_owersBehind_26 rfl (lv_at hl 3 rfl) ?_
          refine lv_iconst (v := 1) hx hb dX4_owersBehind_27 jci_1 ?_
          refine lv_iload hx hb dX4_owersBehind_28 (lv_at hl 4 rfl) ?_
          refine lv_ishl hx hb dX4_owersBehind_30 ?_
          refine lv_ior hx hb dX4_owersBehind_31 ?_
          refine lv_istore_n (lv' := [(3, .int (v3_1 ||| ((1 : Int32) <<< (v4_1 &&& 31)))), (0, .ref (jO X o)), (1, .int v1_1), (2, .int v2_1), (4, .int v4_1)]) hx hb dX4_owersBehind_32 rfl hl (Nat.le_of_ble_eq_true rfl) rfl (fun ls hl => ?_)
          refine lv_iinc (v := (v4_1 + 1)) (lv' := [(4, .int (v4_1 + 1)), (3, .int (v3_1 ||| ((1 : Int32) <<< (v4_1 &&& 31)))), (0, .ref (jO X o)), (1, .int v1_1), (2, .int v2_1)]) hx hb dX4_owersBehind_33 hl (k := 4) rfl (congrArg _ jci_1) (Nat.le_of_ble_eq_true rfl) rfl (fun ls hl => ?_)
          refine lv_goto (tgt := 5) hx hb dX4_owersBehind_36 rfl ?_
          exact ih5 (v3_1 ||| ((1 : Int32) <<< (v4_1 &&& 31))) (v4_1 + 1) _ h (lv_sub hl [2, 3, 4, 1, 0] rfl)
  exact L5 v1 v2 10000 0 0 _ h (lv_sub hl [2, 3, 4, 1, 0] rfl)
def f_X4_debtsBehind_l4 (M : jm) (o : Nat) (v1_1 : Int32) : Nat → Int32 → Int32 → Option Int32
  | 0, _, _ => none
  | k_1 + 1, v2_1, v3_1 => (if (M o 5 0) ≤ v3_1 then (some v2_1) else (jb (f_X4_owesBehind M o v3_1 v1_1) fun r2 => ((f_X4_debtsBehind_l4 M o v1_1 k_1) (v2_1 + (f_J6_bitCount_0f7a4 r2)) (v3_1 + 1))))
def f_X4_debtsBehind (M : jm) (o : Nat) (v1 : Int32) : Option Int32 := (f_X4_debtsBehind_l4 M o v1 10000 0 0)
set_option maxRecDepth 100000 in
theorem m_X4_debtsBehind (l : Launch) (X : jX) (M : jm) {o : Nat} (hj : job o 4) (v1 : Int32) (r : Int32) (h : f_X4_debtsBehind M o v1 = some r) : Met l yX4_debtsBehind (jws yX4_debtsBehind cX4_debtsBehind 4 (some .int)) (jrm 5 119) (va_Pc [.ref (jO X o), .int v1] (jB X M)) (jQ (.int r)) 0 0 (fun _ => False) := by
  refine jm_of (by decide) (Nat.le_of_ble_eq_true rfl) ?_
  intro p e s m args below meth c ls S hr hlocks hB hl
  have S : CallFix p m c cX4_debtsBehind 4 s args jtb RX4 := S
  obtain ⟨hx, hb, hml, hown, hts⟩ := id S
  obtain ⟨hP, hK⟩ := hB
  have hN := hK.2
  have hl : lv_has ls 4 [(0, .ref (jO X o)), (1, .int v1)] := hl
  refine lv_iconst (v := 0) hx hb dX4_debtsBehind_0 jci_0 ?_
  refine lv_istore_n (lv' := [(2, .int 0), (0, .ref (jO X o)), (1, .int v1)]) hx hb dX4_debtsBehind_1 rfl hl (Nat.le_of_ble_eq_true rfl) rfl (fun ls hl => ?_)
  refine lv_iconst (v := 0) hx hb dX4_debtsBehind_2 jci_0 ?_
  refine lv_istore_n (lv' := [(3, .int 0), (2, .int 0), (0, .ref (jO X o)), (1, .int v1)]) hx hb dX4_debtsBehind_3 rfl hl (Nat.le_of_ble_eq_true rfl) rfl (fun ls hl => ?_)
  have L4 : ∀ (v1_1 : Int32) (k_1 : Nat) (v2_1 : Int32) (v3_1 : Int32) (ls : Array Slot), f_X4_debtsBehind_l4 M o v1_1 k_1 v2_1 v3_1 = some r → lv_has ls 4 [(0, .ref (jO X o)), (1, .int v1_1), (2, .int v2_1), (3, .int v3_1)] → W p l e (jrm 5 119) s m args below meth c s.heap [] 0 0 (MQ below (jQ (.int r)) args s 0 0 (fun _ => False)) (F0 m 4 ls []) := by
    intro v1_1 k_1
    induction k_1 with
    | zero => intro v2_1 v3_1 ls h; exact jh_0 h
    | succ k_1 ih4 =>
      intro v2_1 v3_1 ls h hl
      refine lv_iload_n hx hb dX4_debtsBehind_4 rfl (lv_at hl 3 rfl) ?_
      refine lv_aload_n hx hb dX4_debtsBehind_5 rfl (lv_at hl 0 rfl) ?_
      refine jr_get (k := 5) hx hb hts hown hK hP hj (Nat.le_of_ble_eq_true rfl) jlX4_52 rfl dX4_debtsBehind_6 ?_
      refine lv_icmp_ge (tgt := 30) hx hb dX4_debtsBehind_9 rfl (fun c9 => ?_) (fun c9 => ?_)
      · replace h := jh_t h c9
        refine lv_iload_n hx hb dX4_debtsBehind_30 rfl (lv_at hl 2 rfl) ?_
        exact je_i hx hb hr hlocks (Option.some.inj h) dX4_debtsBehind_31
      · replace h := jh_f h c9
        refine lv_iload_n hx hb dX4_debtsBehind_12 rfl (lv_at hl 2 rfl) ?_
        refine lv_aload_n hx hb dX4_debtsBehind_13 rfl (lv_at hl 0 rfl) ?_
        refine lv_iload_n hx hb dX4_debtsBehind_14 rfl (lv_at hl 3 rfl) ?_
        refine lv_iload_n hx hb dX4_debtsBehind_15 rfl (lv_at hl 1 rfl) ?_
        obtain ⟨r2, e2, h⟩ := jh_b h
        refine jr_kp (jr_rv (As := [.int v3_1, .int v1_1]) (rest := [.int v2_1]) S hK hP hj rfl (m_X4_owesBehind l X M hj v3_1 v1_1 r2 e2) jw_X4_owesBehind ji_X4_owesBehind jmX4_116 rfl rfl ⟨(Nat.le_of_ble_eq_true rfl), (Nat.le_of_ble_eq_true rfl)⟩ rfl hl.1 rfl (Nat.le_of_ble_eq_true rfl) dX4_debtsBehind_16 ⟨Nat.zero_le _, Nat.zero_le _⟩) ?_
        refine jr_kp (jr_rs (As := [.int r2]) (rest := [.int v2_1]) S hN (m_J6_bitCount_0f7a4 l r2 _ rfl) jw_J6_bitCount_0f7a4 js_J6_bitCount_0f7a4 jmX4_119 rfl rfl ⟨(Nat.le_of_ble_eq_true rfl), (Nat.le_of_ble_eq_true rfl)⟩ rfl hl.1 rfl (Nat.le_of_ble_eq_true rfl) dX4_debtsBehind_19 ⟨Nat.zero_le _, Nat.zero_le _⟩) ?_
        refine lv_iadd hx hb dX4_debtsBehind_22 ?_
        refine lv_istore_n (lv' := [(2, .int (v2_1 + (f_J6_bitCount_0f7a4 r2))), (0, .ref (jO X o)), (1, .int v1_1), (3, .int v3_1)]) hx hb dX4_debtsBehind_23 rfl hl (Nat.le_of_ble_eq_true rfl) rfl (fun ls hl => ?_)
        refine lv_iinc (v := (v3_1 + 1)) (lv' := [(3, .int (v3_1 + 1)), (2, .int (v2_1 + (f_J6_bitCount_0f7a4 r2))), (0, .ref (jO X o)), (1, .int v1_1)]) hx hb dX4_debtsBehind_24 hl (k := 3) rfl (congrArg _ jci_1) (Nat.le_of_ble_eq_true rfl) rfl (fun ls hl => ?_)
        refine lv_goto (tgt := 4) hx hb dX4_debtsBehind_27 rfl ?_
        exact ih4 (v2_1 + (f_J6_bitCount_0f7a4 r2)) (v3_1 + 1) _ h (lv_sub hl [2, 3, 1, 0] rfl)
  exact L4 v1 10000 0 0 _ h (lv_sub hl [2, 3, 1, 0] rfl)
def f_X4_burden_l4 (M : jm) (o : Nat) : Nat → Int32 → Int32 → Option Int32
  | 0, _, _ => none
  | k_1 + 1, v1_1, v2_1 => (if (M o 5 0) ≤ v2_1 then (some v1_1) else (jb (f_X4_priceBehind M o v2_1 0) fun r2 => (if r2 ≤ 30 then ((f_X4_burden_l4 M o k_1) (v1_1 + r2) (v2_1 + 1)) else ((f_X4_burden_l4 M o k_1) (v1_1 + (2 * r2)) (v2_1 + 1)))))
def f_X4_burden (M : jm) (o : Nat) : Option Int32 := (f_X4_burden_l4 M o 10000 0 0)
set_option maxRecDepth 100000 in
theorem m_X4_burden (l : Launch) (X : jX) (M : jm) {o : Nat} (hj : job o 4) (r : Int32) (h : f_X4_burden M o = some r) : Met l yX4_burden (jws yX4_burden cX4_burden 4 (some .int)) (jrm 6 143) (va_Pc [.ref (jO X o)] (jB X M)) (jQ (.int r)) 0 0 (fun _ => False) := by
  refine jm_of (by decide) (Nat.le_of_ble_eq_true rfl) ?_
  intro p e s m args below meth c ls S hr hlocks hB hl
  have S : CallFix p m c cX4_burden 4 s args jtb RX4 := S
  obtain ⟨hx, hb, hml, hown, hts⟩ := id S
  obtain ⟨hP, hK⟩ := hB
  have hN := hK.2
  have hl : lv_has ls 4 [(0, .ref (jO X o))] := hl
  refine lv_iconst (v := 0) hx hb dX4_burden_0 jci_0 ?_
  refine lv_istore_n (lv' := [(1, .int 0), (0, .ref (jO X o))]) hx hb dX4_burden_1 rfl hl (Nat.le_of_ble_eq_true rfl) rfl (fun ls hl => ?_)
  refine lv_iconst (v := 0) hx hb dX4_burden_2 jci_0 ?_
  refine lv_istore_n (lv' := [(2, .int 0), (1, .int 0), (0, .ref (jO X o))]) hx hb dX4_burden_3 rfl hl (Nat.le_of_ble_eq_true rfl) rfl (fun ls hl => ?_)
  have L4 : ∀ (k_1 : Nat) (v1_1 : Int32) (v2_1 : Int32) (ls : Array Slot), f_X4_burden_l4 M o k_1 v1_1 v2_1 = some r → lv_has ls 4 [(0, .ref (jO X o)), (1, .int v1_1), (2, .int v2_1)] → W p l e (jrm 6 143) s m args below meth c s.heap [] 0 0 (MQ below (jQ (.int r)) args s 0 0 (fun _ => False)) (F0 m 4 ls []) := by
    intro k_1
    induction k_1 with
    | zero => intro v1_1 v2_1 ls h; exact jh_0 h
    | succ k_1 ih4 =>
      intro v1_1 v2_1 ls h hl
      refine lv_iload_n hx hb dX4_burden_4 rfl (lv_at hl 2 rfl) ?_
      refine lv_aload_n hx hb dX4_burden_5 rfl (lv_at hl 0 rfl) ?_
      refine jr_get (k := 5) hx hb hts hown hK hP hj (Nat.le_of_ble_eq_true rfl) jlX4_52 rfl dX4_burden_6 ?_
      refine lv_icmp_ge (tgt := 41) hx hb dX4_burden_9 rfl (fun c9 => ?_) (fun c9 => ?_)
      · replace h := jh_t h c9
        refine lv_iload_n hx hb dX4_burden_41 rfl (lv_at hl 1 rfl) ?_
        exact je_i hx hb hr hlocks (Option.some.inj h) dX4_burden_42
      · replace h := jh_f h c9
        refine lv_aload_n hx hb dX4_burden_12 rfl (lv_at hl 0 rfl) ?_
        refine lv_iload_n hx hb dX4_burden_13 rfl (lv_at hl 2 rfl) ?_
        refine lv_iconst (v := 0) hx hb dX4_burden_14 jci_0 ?_
        obtain ⟨r2, e2, h⟩ := jh_b h
        refine jr_kp (jr_rv (As := [.int v2_1, .int 0]) (rest := []) S hK hP hj rfl (m_X4_priceBehind l X M hj v2_1 0 r2 e2) jw_X4_priceBehind ji_X4_priceBehind jmX4_125 rfl rfl ⟨(Nat.le_of_ble_eq_true rfl), (Nat.le_of_ble_eq_true rfl)⟩ rfl hl.1 rfl (Nat.le_of_ble_eq_true rfl) dX4_burden_15 ⟨Nat.zero_le _, Nat.zero_le _⟩) ?_
        refine lv_istore_n (lv' := [(3, .int r2), (0, .ref (jO X o)), (1, .int v1_1), (2, .int v2_1)]) hx hb dX4_burden_18 rfl hl (Nat.le_of_ble_eq_true rfl) rfl (fun ls hl => ?_)
        refine lv_iload_n hx hb dX4_burden_19 rfl (lv_at hl 2 rfl) ?_
        refine lv_iload_n hx hb dX4_burden_20 rfl (lv_at hl 0 rfl) ?_
        refine lv_bipush (v := 30) hx hb dX4_burden_21 jcb_30 ?_
        refine lv_icmp_le (tgt := 32) hx hb dX4_burden_23 rfl (fun c23 => ?_) (fun c23 => ?_)
        · replace h := jh_t h c23
          refine lv_iload_n hx hb dX4_burden_32 rfl (lv_at hl 0 rfl) ?_
          refine lv_iadd hx hb dX4_burden_33 ?_
          refine lv_istore_n (lv' := [(1, .int (v1_1 + r2)), (3, .int r2), (0, .ref (jO X o)), (2, .int v2_1)]) hx hb dX4_burden_34 rfl hl (Nat.le_of_ble_eq_true rfl) rfl (fun ls hl => ?_)
          refine lv_iinc (v := (v2_1 + 1)) (lv' := [(2, .int (v2_1 + 1)), (1, .int (v1_1 + r2)), (3, .int r2), (0, .ref (jO X o))]) hx hb dX4_burden_35 hl (k := 3) rfl (congrArg _ jci_1) (Nat.le_of_ble_eq_true rfl) rfl (fun ls hl => ?_)
          refine lv_goto (tgt := 4) hx hb dX4_burden_38 rfl ?_
          exact ih4 (v1_1 + r2) (v2_1 + 1) _ h (lv_sub hl [3, 1, 0] rfl)
        · replace h := jh_f h c23
          refine lv_iconst (v := 2) hx hb dX4_burden_26 jci_2 ?_
          refine lv_iload_n hx hb dX4_burden_27 rfl (lv_at hl 0 rfl) ?_
          refine lv_imul hx hb dX4_burden_28 ?_
          refine lv_goto (tgt := 33) hx hb dX4_burden_29 rfl ?_
          refine lv_iadd hx hb dX4_burden_33 ?_
          refine lv_istore_n (lv' := [(1, .int (v1_1 + (2 * r2))), (3, .int r2), (0, .ref (jO X o)), (2, .int v2_1)]) hx hb dX4_burden_34 rfl hl (Nat.le_of_ble_eq_true rfl) rfl (fun ls hl => ?_)
          refine lv_iinc (v := (v2_1 + 1)) (lv' := [(2, .int (v2_1 + 1)), (1, .int (v1_1 + (2 * r2))), (3, .int r2), (0, .ref (jO X o))]) hx hb dX4_burden_35 hl (k := 3) rfl (congrArg _ jci_1) (Nat.le_of_ble_eq_true rfl) rfl (fun ls hl => ?_)
          refine lv_goto (tgt := 4) hx hb dX4_burden_38 rfl ?_
          exact ih4 (v1_1 + (2 * r2)) (v2_1 + 1) _ h (lv_sub hl [3, 1, 0] rfl)
  exact L4 10000 0 0 _ h (lv_sub hl [2, 1, 0] rfl)
def f_X4_highestAgeOf_l4 (M : jm) (o : Nat) (v1_1 : Int32) : Nat → Int32 → Int32 → Option Int32
  | 0, _, _ => none
  | k_1 + 1, v2_1, v3_1 => (if (M o 0 0) ≤ v3_1 then (some v2_1) else (jgd ((v1_1 * 8) + v3_1) 48 ((f_X4_highestAgeOf_l4 M o v1_1 k_1) (if v2_1 < (M o 9 (Int32.toNatClampNeg ((v1_1 * 8) + v3_1))) then (M o 9 (Int32.toNatClampNeg ((v1_1 * 8) + v3_1))) else v2_1) (v3_1 + 1))))
def f_X4_highestAgeOf (M : jm) (o : Nat) (v1 : Int32) : Option Int32 := (f_X4_highestAgeOf_l4 M o v1 10000 (-1) 0)
set_option maxRecDepth 100000 in
theorem m_X4_highestAgeOf (l : Launch) (X : jX) (M : jm) {o : Nat} (hj : job o 4) (v1 : Int32) (r : Int32) (h : f_X4_highestAgeOf M o v1 = some r) : Met l yX4_highestAgeOf (jws yX4_highestAgeOf cX4_highestAgeOf 4 (some .int)) (jrm 1 21) (va_Pc [.ref (jO X o), .int v1] (jB X M)) (jQ (.int r)) 0 0 (fun _ => False) := by
  refine jm_of (by decide) (Nat.le_of_ble_eq_true rfl) ?_
  intro p e s m args below meth c ls S hr hlocks hB hl
  have S : CallFix p m c cX4_highestAgeOf 4 s args jtb RX4 := S
  obtain ⟨hx, hb, hml, hown, hts⟩ := id S
  obtain ⟨hP, hK⟩ := hB
  have hN := hK.2
  have hl : lv_has ls 4 [(0, .ref (jO X o)), (1, .int v1)] := hl
  refine lv_iconst (v := (-1)) hx hb dX4_highestAgeOf_0 jci_m1 ?_
  refine lv_istore_n (lv' := [(2, .int (-1)), (0, .ref (jO X o)), (1, .int v1)]) hx hb dX4_highestAgeOf_1 rfl hl (Nat.le_of_ble_eq_true rfl) rfl (fun ls hl => ?_)
  refine lv_iconst (v := 0) hx hb dX4_highestAgeOf_2 jci_0 ?_
  refine lv_istore_n (lv' := [(3, .int 0), (2, .int (-1)), (0, .ref (jO X o)), (1, .int v1)]) hx hb dX4_highestAgeOf_3 rfl hl (Nat.le_of_ble_eq_true rfl) rfl (fun ls hl => ?_)
  have L4 : ∀ (v1_1 : Int32) (k_1 : Nat) (v2_1 : Int32) (v3_1 : Int32) (ls : Array Slot), f_X4_highestAgeOf_l4 M o v1_1 k_1 v2_1 v3_1 = some r → lv_has ls 4 [(0, .ref (jO X o)), (1, .int v1_1), (2, .int v2_1), (3, .int v3_1)] → W p l e (jrm 1 21) s m args below meth c s.heap [] 0 0 (MQ below (jQ (.int r)) args s 0 0 (fun _ => False)) (F0 m 4 ls []) := by
    intro v1_1 k_1
    induction k_1 with
    | zero => intro v2_1 v3_1 ls h; exact jh_0 h
    | succ k_1 ih4 =>
      intro v2_1 v3_1 ls h hl
      refine lv_iload_n hx hb dX4_highestAgeOf_4 rfl (lv_at hl 3 rfl) ?_
      refine lv_aload_n hx hb dX4_highestAgeOf_5 rfl (lv_at hl 0 rfl) ?_
      refine jr_get (k := 0) hx hb hts hown hK hP hj (Nat.le_of_ble_eq_true rfl) jlX4_39 rfl dX4_highestAgeOf_6 ?_
      refine lv_icmp_ge (tgt := 34) hx hb dX4_highestAgeOf_9 rfl (fun c9 => ?_) (fun c9 => ?_)
      · replace h := jh_t h c9
        refine lv_iload_n hx hb dX4_highestAgeOf_34 rfl (lv_at hl 2 rfl) ?_
        exact je_i hx hb hr hlocks (Option.some.inj h) dX4_highestAgeOf_35
      · replace h := jh_f h c9
        refine lv_iload_n hx hb dX4_highestAgeOf_12 rfl (lv_at hl 2 rfl) ?_
        refine lv_aload_n hx hb dX4_highestAgeOf_13 rfl (lv_at hl 0 rfl) ?_
        refine jr_get (k := 9) hx hb hts hown hK hP hj (Nat.le_of_ble_eq_true rfl) jlX4_30 rfl dX4_highestAgeOf_14 ?_
        refine lv_iload_n hx hb dX4_highestAgeOf_17 rfl (lv_at hl 1 rfl) ?_
        refine lv_bipush (v := 8) hx hb dX4_highestAgeOf_18 jcb_8 ?_
        refine lv_imul hx hb dX4_highestAgeOf_20 ?_
        refine lv_iload_n hx hb dX4_highestAgeOf_21 rfl (lv_at hl 3 rfl) ?_
        refine lv_iadd hx hb dX4_highestAgeOf_22 ?_
        obtain ⟨g23, h⟩ := jh_gd h
        refine jr_ald (n := 48) hx hb hK hP hj rfl g23 dX4_highestAgeOf_23 ?_
        refine va_mmax hx hb (hml.trans hl.1.symm) hown (hts _ jmX4_128) (hts _ jstM_max) (hts _ jinM) (hts _ jcoM_max) (Nat.le_of_ble_eq_true rfl) (Nat.le_of_ble_eq_true rfl) (Nat.zero_le _) (Nat.zero_le _) dX4_highestAgeOf_24 ?_
        refine lv_istore_n (lv' := [(2, .int (if v2_1 < (M o 9 (Int32.toNatClampNeg ((v1_1 * 8) + v3_1))) then (M o 9 (Int32.toNatClampNeg ((v1_1 * 8) + v3_1))) else v2_1)), (0, .ref (jO X o)), (1, .int v1_1), (3, .int v3_1)]) hx hb dX4_highestAgeOf_27 rfl hl (Nat.le_of_ble_eq_true rfl) rfl (fun ls hl => ?_)
        refine lv_iinc (v := (v3_1 + 1)) (lv' := [(3, .int (v3_1 + 1)), (2, .int (if v2_1 < (M o 9 (Int32.toNatClampNeg ((v1_1 * 8) + v3_1))) then (M o 9 (Int32.toNatClampNeg ((v1_1 * 8) + v3_1))) else v2_1)), (0, .ref (jO X o)), (1, .int v1_1)]) hx hb dX4_highestAgeOf_28 hl (k := 3) rfl (congrArg _ jci_1) (Nat.le_of_ble_eq_true rfl) rfl (fun ls hl => ?_)
        refine lv_goto (tgt := 4) hx hb dX4_highestAgeOf_31 rfl ?_
        exact ih4 (if v2_1 < (M o 9 (Int32.toNatClampNeg ((v1_1 * 8) + v3_1))) then (M o 9 (Int32.toNatClampNeg ((v1_1 * 8) + v3_1))) else v2_1) (v3_1 + 1) _ h (lv_sub hl [2, 3, 1, 0] rfl)
  exact L4 v1 10000 (-1) 0 _ h (lv_sub hl [2, 3, 1, 0] rfl)
def f_X5_nextSeed (v0 : Int32) : Int32 := ((v0 * 1103515245) + 12345)
set_option maxRecDepth 100000 in
theorem m_X5_nextSeed (l : Launch) (v0 : Int32) (r : Int32) (h : f_X5_nextSeed v0 = r) : Met l yX5_nextSeed (jws yX5_nextSeed cX5_nextSeed 1 (some .int)) (jrm 0 0) (va_Pc [.int v0] jN) (jQ (.int r)) 0 0 (fun _ => False) := by
  refine jm_of (by decide) (Nat.le_of_ble_eq_true rfl) ?_
  intro p e s m args below meth c ls S hr hlocks hB hl
  have S : CallFix p m c cX5_nextSeed 1 s args jtb RX5 := S
  obtain ⟨hx, hb, hml, hown, hts⟩ := id S
  have hN := hB
  have hl : lv_has ls 1 [(0, .int v0)] := hl
  refine lv_iload_n hx hb dX5_nextSeed_0 rfl (lv_at hl 0 rfl) ?_
  refine lv_ldcw hx hb hown (hts _ jkX5_308) dX5_nextSeed_1 ?_
  refine lv_imul hx hb dX5_nextSeed_4 ?_
  refine lv_sipush (v := 12345) hx hb dX5_nextSeed_5 jcs_12345 ?_
  refine lv_iadd hx hb dX5_nextSeed_8 ?_
  exact je_i hx hb hr hlocks h dX5_nextSeed_9
def f_X5_drawnCell (v0 : Int32) : Int32 := (((v0 &&& 2147483647) / 65536) - ((v0 &&& 2147483647) / 65536) / 49 * 49)
set_option maxRecDepth 100000 in
theorem m_X5_drawnCell (l : Launch) (v0 : Int32) (r : Int32) (h : f_X5_drawnCell v0 = r) : Met l yX5_drawnCell (jws yX5_drawnCell cX5_drawnCell 1 (some .int)) (jrm 0 0) (va_Pc [.int v0] jN) (jQ (.int r)) 0 0 (fun _ => False) := by
  refine jm_of (by decide) (Nat.le_of_ble_eq_true rfl) ?_
  intro p e s m args below meth c ls S hr hlocks hB hl
  have S : CallFix p m c cX5_drawnCell 1 s args jtb RX5 := S
  obtain ⟨hx, hb, hml, hown, hts⟩ := id S
  have hN := hB
  have hl : lv_has ls 1 [(0, .int v0)] := hl
  refine lv_iload_n hx hb dX5_drawnCell_0 rfl (lv_at hl 0 rfl) ?_
  refine lv_ldcw hx hb hown (hts _ jkX5_309) dX5_drawnCell_1 ?_
  refine lv_iand hx hb dX5_drawnCell_4 ?_
  refine lv_ldcw hx hb hown (hts _ jkX5_310) dX5_drawnCell_5 ?_
  refine lv_idiv hx hb dX5_drawnCell_8 (by decide) ?_
  refine lv_bipush (v := 49) hx hb dX5_drawnCell_9 jcb_49 ?_
  refine lv_irem hx hb dX5_drawnCell_11 (by decide) ?_
  exact je_i hx hb hr hlocks h dX5_drawnCell_12
