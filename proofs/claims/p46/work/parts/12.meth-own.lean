def f_X5_refuse (M : jm) (v1 : Int32) : Option (Int32 × jm) := (jgd (-v1) 7 (jgd (-v1) 7 (some (v1, (ju M 0 10 (Int32.toNatClampNeg (-v1)) ((M 0 10 (Int32.toNatClampNeg (-v1))) + 1))))))
set_option maxRecDepth 100000 in
theorem m_X5_refuse (l : Launch) (X : jX) (A : Nat → Prop) (hs : jst X A) (M : jm) (v1 : Int32) (r : Int32) (N : jm) (h : f_X5_refuse M v1 = some (r, N)) : Met l yX5_refuse (jws yX5_refuse cX5_refuse 2 (some .int)) (jrm 0 0) (va_Pc [.ref (jO X 0), .int v1] (jB X M)) (jQm X A (some (.int r)) N) 0 0 A := by
  refine jm_of (by decide) (Nat.le_of_ble_eq_true rfl) ?_
  intro p e s m args below meth c ls S hr hlocks hB hl
  have S : CallFix p m c cX5_refuse 2 s args jtb RX5 := S
  obtain ⟨hx, hb, hml, hown, hts⟩ := id S
  obtain ⟨hP, hK⟩ := hB
  have hN := hK.2
  have hS : va_S A s.heap s.heap [] := va_S.rf
  have hl : lv_has ls 2 [(0, .ref (jO X 0)), (1, .int v1)] := hl
  refine lv_aload_n hx hb dX5_refuse_0 rfl (lv_at hl 0 rfl) ?_
  refine jr_get (k := 10) hx hb hts hown hK hP jb_0 (Nat.le_of_ble_eq_true rfl) jlX5_62 rfl dX5_refuse_1 ?_
  refine lv_iload_n hx hb dX5_refuse_4 rfl (lv_at hl 1 rfl) ?_
  refine lv_ineg hx hb dX5_refuse_5 ?_
  refine lv_dup2_11 hx hb dX5_refuse_6 rfl rfl ?_
  obtain ⟨g7, h⟩ := jh_gd h
  refine jr_ald (n := 7) hx hb hK hP jb_0 rfl g7 dX5_refuse_7 ?_
  refine lv_iconst (v := 1) hx hb dX5_refuse_8 jci_1 ?_
  refine lv_iadd hx hb dX5_refuse_9 ?_
  obtain ⟨g10, h⟩ := jh_gd h
  refine jr_ast (n := 7) hx hb hK hP hs hS jb_0 rfl g10 dX5_refuse_10 (fun H locs hP hS => ?_)
  refine lv_iload_n hx hb dX5_refuse_11 rfl (lv_at hl 1 rfl) ?_
  exact je_mi hx hb hr hlocks hK hP hS h dX5_refuse_12
def f_X5_feed (M : jm) (v1 : Int32) : Option (Int32 × jm) := (if 0 ≤ v1 then (if 255 < v1 then (jb2 (f_X5_refuse M (-6)) fun r1 M_1 => (some (r1, M_1))) else (if (f_X1_areFull M) = 0 then (jb2 (f_X1_take M v1) fun r3 M_3 => (some (r3, M_3))) else (jb2 (f_X5_refuse M (-6)) fun r4 M_4 => (some (r4, M_4))))) else (jb2 (f_X5_refuse M (-4)) fun r5 M_5 => (some (r5, M_5))))
set_option maxRecDepth 100000 in
theorem m_X5_feed (l : Launch) (X : jX) (A : Nat → Prop) (hs : jst X A) (M : jm) (v1 : Int32) (r : Int32) (N : jm) (h : f_X5_feed M v1 = some (r, N)) : Met l yX5_feed (jws yX5_feed cX5_feed 2 (some .int)) (jrm 2 41) (va_Pc [.ref (jO X 0), .int v1] (jB X M)) (jQm X A (some (.int r)) N) 0 0 A := by
  refine jm_of (by decide) (Nat.le_of_ble_eq_true rfl) ?_
  intro p e s m args below meth c ls S hr hlocks hB hl
  have S : CallFix p m c cX5_feed 2 s args jtb RX5 := S
  obtain ⟨hx, hb, hml, hown, hts⟩ := id S
  obtain ⟨hP, hK⟩ := hB
  have hN := hK.2
  have hS : va_S A s.heap s.heap [] := va_S.rf
  have hl : lv_has ls 2 [(0, .ref (jO X 0)), (1, .int v1)] := hl
  refine lv_iload_n hx hb dX5_feed_0 rfl (lv_at hl 1 rfl) ?_
  refine lv_if_ge (tgt := 11) hx hb dX5_feed_1 rfl (fun c1 => ?_) (fun c1 => ?_)
  · replace h := jh_t h c1
    refine lv_iload_n hx hb dX5_feed_11 rfl (lv_at hl 1 rfl) ?_
    refine lv_sipush (v := 255) hx hb dX5_feed_12 jcs_255 ?_
    refine lv_icmp_gt (tgt := 28) hx hb dX5_feed_15 rfl (fun c15 => ?_) (fun c15 => ?_)
    · replace h := jh_t h c15
      refine lv_aload_n hx hb dX5_feed_28 rfl (lv_at hl 0 rfl) ?_
      refine lv_bipush (v := (-6)) hx hb dX5_feed_29 jcb_m6 ?_
      obtain ⟨r1, M_1, e1, h⟩ := jh_b2 h
      refine jr_km (jr_rv (As := [.int (-6)]) (rest := []) S hK hP jb_0 rfl (m_X5_refuse l X A hs M (-6) r1 M_1 e1) jw_X5_refuse ji_X5_refuse jmX5_65 rfl rfl ⟨(Nat.le_of_ble_eq_true rfl), (Nat.le_of_ble_eq_true rfl)⟩ rfl hl.1 rfl (Nat.le_of_ble_eq_true rfl) dX5_feed_31 ⟨Nat.zero_le _, Nat.zero_le _⟩) hS (fun H locs hP hS => ?_)
      exact je_mi hx hb hr hlocks hK hP hS h dX5_feed_34
    · replace h := jh_f h c15
      refine lv_aload_n hx hb dX5_feed_18 rfl (lv_at hl 0 rfl) ?_
      refine jr_get (k := 5) hx hb hts hown hK hP jb_0 (Nat.le_of_ble_eq_true rfl) jlX5_36 rfl dX5_feed_19 ?_
      refine jr_kp (jr_rv (As := []) (rest := []) S hK hP jb_13 rfl (m_X1_areFull l X M  _ rfl) jw_X1_areFull ji_X1_areFull jmX5_69 rfl rfl ⟨(Nat.le_of_ble_eq_true rfl), (Nat.le_of_ble_eq_true rfl)⟩ rfl hl.1 rfl (Nat.le_of_ble_eq_true rfl) dX5_feed_22 ⟨Nat.zero_le _, Nat.zero_le _⟩) ?_
      refine lv_if_eq (tgt := 35) hx hb dX5_feed_25 rfl (fun c25 => ?_) (fun c25 => ?_)
      · replace h := jh_t h c25
        refine lv_aload_n hx hb dX5_feed_35 rfl (lv_at hl 0 rfl) ?_
        refine jr_get (k := 5) hx hb hts hown hK hP jb_0 (Nat.le_of_ble_eq_true rfl) jlX5_36 rfl dX5_feed_36 ?_
        refine lv_iload_n hx hb dX5_feed_39 rfl (lv_at hl 1 rfl) ?_
        obtain ⟨r3, M_3, e3, h⟩ := jh_b2 h
        refine jr_km (jr_rv (As := [.int v1]) (rest := []) S hK hP jb_13 rfl (m_X1_take l X A hs M v1 r3 M_3 e3) jw_X1_take ji_X1_take jmX5_73 rfl rfl ⟨(Nat.le_of_ble_eq_true rfl), (Nat.le_of_ble_eq_true rfl)⟩ rfl hl.1 rfl (Nat.le_of_ble_eq_true rfl) dX5_feed_40 ⟨Nat.zero_le _, Nat.zero_le _⟩) hS (fun H locs hP hS => ?_)
        exact je_mi hx hb hr hlocks hK hP hS h dX5_feed_43
      · replace h := jh_f h c25
        refine lv_aload_n hx hb dX5_feed_28 rfl (lv_at hl 0 rfl) ?_
        refine lv_bipush (v := (-6)) hx hb dX5_feed_29 jcb_m6 ?_
        obtain ⟨r4, M_4, e4, h⟩ := jh_b2 h
        refine jr_km (jr_rv (As := [.int (-6)]) (rest := []) S hK hP jb_0 rfl (m_X5_refuse l X A hs M (-6) r4 M_4 e4) jw_X5_refuse ji_X5_refuse jmX5_65 rfl rfl ⟨(Nat.le_of_ble_eq_true rfl), (Nat.le_of_ble_eq_true rfl)⟩ rfl hl.1 rfl (Nat.le_of_ble_eq_true rfl) dX5_feed_31 ⟨Nat.zero_le _, Nat.zero_le _⟩) hS (fun H locs hP hS => ?_)
        exact je_mi hx hb hr hlocks hK hP hS h dX5_feed_34
  · replace h := jh_f h c1
    refine lv_aload_n hx hb dX5_feed_4 rfl (lv_at hl 0 rfl) ?_
    refine lv_bipush (v := (-4)) hx hb dX5_feed_5 jcb_m4 ?_
    obtain ⟨r5, M_5, e5, h⟩ := jh_b2 h
    refine jr_km (jr_rv (As := [.int (-4)]) (rest := []) S hK hP jb_0 rfl (m_X5_refuse l X A hs M (-4) r5 M_5 e5) jw_X5_refuse ji_X5_refuse jmX5_65 rfl rfl ⟨(Nat.le_of_ble_eq_true rfl), (Nat.le_of_ble_eq_true rfl)⟩ rfl hl.1 rfl (Nat.le_of_ble_eq_true rfl) dX5_feed_7 ⟨Nat.zero_le _, Nat.zero_le _⟩) hS (fun H locs hP hS => ?_)
    exact je_mi hx hb hr hlocks hK hP hS h dX5_feed_10
def f_X5_village (M : jm) : Option (Int32 × jm) := (jb (f_X4_become M 2 1) fun M_1 => (jb2 (f_X1_tell M_1 2) fun r2 M_2 => (jb (f_X1_drop M_2) fun M_3 => (if 0 ≤ r2 then (jb (f_X4_become M_3 1 2) fun M_4 => (jb (f_X0_forget M_4) fun M_5 => (some (r2, M_5)))) else (some (r2, M_3))))))
set_option maxRecDepth 100000 in
theorem m_X5_village (l : Launch) (X : jX) (A : Nat → Prop) (hs : jst X A) (M : jm) (r : Int32) (N : jm) (h : f_X5_village M = some (r, N)) : Met l yX5_village (jws yX5_village cX5_village 2 (some .int)) (jrm 7 165) (va_Pc [.ref (jO X 0)] (jB X M)) (jQm X A (some (.int r)) N) 0 0 A := by
  refine jm_of (by decide) (Nat.le_of_ble_eq_true rfl) ?_
  intro p e s m args below meth c ls S hr hlocks hB hl
  have S : CallFix p m c cX5_village 2 s args jtb RX5 := S
  obtain ⟨hx, hb, hml, hown, hts⟩ := id S
  obtain ⟨hP, hK⟩ := hB
  have hN := hK.2
  have hS : va_S A s.heap s.heap [] := va_S.rf
  have hl : lv_has ls 2 [(0, .ref (jO X 0))] := hl
  refine lv_aload_n hx hb dX5_village_0 rfl (lv_at hl 0 rfl) ?_
  refine jr_get (k := 1) hx hb hts hown hK hP jb_0 (Nat.le_of_ble_eq_true rfl) jlX5_16 rfl dX5_village_1 ?_
  refine lv_aload_n hx hb dX5_village_4 rfl (lv_at hl 0 rfl) ?_
  refine jr_get (k := 0) hx hb hts hown hK hP jb_0 (Nat.le_of_ble_eq_true rfl) jlX5_12 rfl dX5_village_5 ?_
  obtain ⟨M_1, e1, h⟩ := jh_b h
  refine jr_kv (jr_rv (As := [.ref (jO X 1)]) (rest := []) S hK hP jb_2 rfl (m_X4_become l X A hs M jb_2 jb_1 M_1 e1) jw_X4_become ji_X4_become jmX5_76 rfl rfl ⟨(Nat.le_of_ble_eq_true rfl), (Nat.le_of_ble_eq_true rfl)⟩ rfl hl.1 rfl (Nat.le_of_ble_eq_true rfl) dX5_village_8 ⟨Nat.zero_le _, Nat.zero_le _⟩) hS (fun H locs hP hS => ?_)
  refine lv_aload_n hx hb dX5_village_11 rfl (lv_at hl 0 rfl) ?_
  refine jr_get (k := 5) hx hb hts hown hK hP jb_0 (Nat.le_of_ble_eq_true rfl) jlX5_36 rfl dX5_village_12 ?_
  refine lv_aload_n hx hb dX5_village_15 rfl (lv_at hl 0 rfl) ?_
  refine jr_get (k := 1) hx hb hts hown hK hP jb_0 (Nat.le_of_ble_eq_true rfl) jlX5_16 rfl dX5_village_16 ?_
  obtain ⟨r2, M_2, e2, h⟩ := jh_b2 h
  refine jr_km (jr_rv (As := [.ref (jO X 2)]) (rest := []) S hK hP jb_13 rfl (m_X1_tell l X A hs M_1 jb_2 r2 M_2 e2) jw_X1_tell ji_X1_tell jmX5_80 rfl rfl ⟨(Nat.le_of_ble_eq_true rfl), (Nat.le_of_ble_eq_true rfl)⟩ rfl hl.1 rfl (Nat.le_of_ble_eq_true rfl) dX5_village_19 ⟨Nat.zero_le _, Nat.zero_le _⟩) hS (fun H locs hP hS => ?_)
  refine lv_istore_n (lv' := [(1, .int r2), (0, .ref (jO X 0))]) hx hb dX5_village_22 rfl hl (Nat.le_of_ble_eq_true rfl) rfl (fun ls hl => ?_)
  refine lv_aload_n hx hb dX5_village_23 rfl (lv_at hl 1 rfl) ?_
  refine jr_get (k := 5) hx hb hts hown hK hP jb_0 (Nat.le_of_ble_eq_true rfl) jlX5_36 rfl dX5_village_24 ?_
  obtain ⟨M_3, e3, h⟩ := jh_b h
  refine jr_kv (jr_rv (As := []) (rest := []) S hK hP jb_13 rfl (m_X1_drop l X A hs M_2  M_3 e3) jw_X1_drop ji_X1_drop jmX5_84 rfl rfl ⟨(Nat.le_of_ble_eq_true rfl), (Nat.le_of_ble_eq_true rfl)⟩ rfl hl.1 rfl (Nat.le_of_ble_eq_true rfl) dX5_village_27 ⟨Nat.zero_le _, Nat.zero_le _⟩) hS (fun H locs hP hS => ?_)
  refine lv_iload_n hx hb dX5_village_30 rfl (lv_at hl 0 rfl) ?_
  refine lv_if_ge (tgt := 36) hx hb dX5_village_31 rfl (fun c31 => ?_) (fun c31 => ?_)
  · replace h := jh_t h c31
    refine lv_aload_n hx hb dX5_village_36 rfl (lv_at hl 1 rfl) ?_
    refine jr_get (k := 0) hx hb hts hown hK hP jb_0 (Nat.le_of_ble_eq_true rfl) jlX5_12 rfl dX5_village_37 ?_
    refine lv_aload_n hx hb dX5_village_40 rfl (lv_at hl 1 rfl) ?_
    refine jr_get (k := 1) hx hb hts hown hK hP jb_0 (Nat.le_of_ble_eq_true rfl) jlX5_16 rfl dX5_village_41 ?_
    obtain ⟨M_4, e4, h⟩ := jh_b h
    refine jr_kv (jr_rv (As := [.ref (jO X 2)]) (rest := []) S hK hP jb_1 rfl (m_X4_become l X A hs M_3 jb_1 jb_2 M_4 e4) jw_X4_become ji_X4_become jmX5_76 rfl rfl ⟨(Nat.le_of_ble_eq_true rfl), (Nat.le_of_ble_eq_true rfl)⟩ rfl hl.1 rfl (Nat.le_of_ble_eq_true rfl) dX5_village_44 ⟨Nat.zero_le _, Nat.zero_le _⟩) hS (fun H locs hP hS => ?_)
    refine lv_aload_n hx hb dX5_village_47 rfl (lv_at hl 1 rfl) ?_
    refine jr_get (k := 4) hx hb hts hown hK hP jb_0 (Nat.le_of_ble_eq_true rfl) jlX5_29 rfl dX5_village_48 ?_
    obtain ⟨M_5, e5, h⟩ := jh_b h
    refine jr_kv (jr_rv (As := []) (rest := []) S hK hP jb_12 rfl (m_X0_forget l X A hs M_4  M_5 e5) jw_X0_forget ji_X0_forget jmX5_87 rfl rfl ⟨(Nat.le_of_ble_eq_true rfl), (Nat.le_of_ble_eq_true rfl)⟩ rfl hl.1 rfl (Nat.le_of_ble_eq_true rfl) dX5_village_51 ⟨Nat.zero_le _, Nat.zero_le _⟩) hS (fun H locs hP hS => ?_)
    refine lv_iload_n hx hb dX5_village_54 rfl (lv_at hl 0 rfl) ?_
    exact je_mi hx hb hr hlocks hK hP hS h dX5_village_55
  · replace h := jh_f h c31
    refine lv_iload_n hx hb dX5_village_34 rfl (lv_at hl 0 rfl) ?_
    exact je_mi hx hb hr hlocks hK hP hS h dX5_village_35
def f_X5_houseOf (M : jm) (v1 : Int32) (v2 : Int32) : Option (Int32 × jm) := (if (f_X4_hasHouse M 1 v1) = 0 then (jb2 (f_X5_refuse M (-1)) fun r8 M_8 => (some (r8, M_8))) else (if v2 = 0 then (jgd v1 8 (some ((M 1 1 (Int32.toNatClampNeg v1)), M))) else (if v2 = 1 then (jgd v1 8 (some ((M 1 2 (Int32.toNatClampNeg v1)), M))) else (if v2 = 2 then (jgd v1 8 (some ((M 1 3 (Int32.toNatClampNeg v1)), M))) else (if v2 = 3 then (if (f_X4_isLit M 1 v1) = 0 then (some (0, M)) else (some (1, M))) else (if v2 = 4 then (jgd v1 8 (jgd v1 8 (some ((f_X5_reach (M 1 1 (Int32.toNatClampNeg v1)) (M 1 2 (Int32.toNatClampNeg v1))), M)))) else (if v2 = 5 then (jb (f_X4_minutesOf M 1 v1 0) fun r4 => (some (r4, M))) else (if v2 = 6 then (jb (f_X4_owersBehind M 1 v1 0) fun r5 => (some (r5, M))) else (if v2 = 7 then (jb (f_X4_seenBy M 1 v1) fun r6 => (some (r6, M))) else (jb2 (f_X5_refuse M (-2)) fun r7 M_7 => (some (r7, M_7))))))))))))
set_option maxRecDepth 100000 in
theorem m_X5_houseOf (l : Launch) (X : jX) (A : Nat → Prop) (hs : jst X A) (M : jm) (v1 : Int32) (v2 : Int32) (r : Int32) (N : jm) (h : f_X5_houseOf M v1 v2 = some (r, N)) : Met l yX5_houseOf (jws yX5_houseOf cX5_houseOf 3 (some .int)) (jrm 5 119) (va_Pc [.ref (jO X 0), .int v1, .int v2] (jB X M)) (jQm X A (some (.int r)) N) 0 0 A := by
  refine jm_of (by decide) (Nat.le_of_ble_eq_true rfl) ?_
  intro p e s m args below meth c ls S hr hlocks hB hl
  have S : CallFix p m c cX5_houseOf 3 s args jtb RX5 := S
  obtain ⟨hx, hb, hml, hown, hts⟩ := id S
  obtain ⟨hP, hK⟩ := hB
  have hN := hK.2
  have hS : va_S A s.heap s.heap [] := va_S.rf
  have hl : lv_has ls 3 [(0, .ref (jO X 0)), (1, .int v1), (2, .int v2)] := hl
  refine lv_aload_n hx hb dX5_houseOf_0 rfl (lv_at hl 0 rfl) ?_
  refine jr_get (k := 0) hx hb hts hown hK hP jb_0 (Nat.le_of_ble_eq_true rfl) jlX5_12 rfl dX5_houseOf_1 ?_
  refine lv_iload_n hx hb dX5_houseOf_4 rfl (lv_at hl 1 rfl) ?_
  refine jr_kp (jr_rv (As := [.int v1]) (rest := []) S hK hP jb_1 rfl (m_X4_hasHouse l X M jb_1 v1 _ rfl) jw_X4_hasHouse ji_X4_hasHouse jmX5_90 rfl rfl ⟨(Nat.le_of_ble_eq_true rfl), (Nat.le_of_ble_eq_true rfl)⟩ rfl hl.1 rfl (Nat.le_of_ble_eq_true rfl) dX5_houseOf_5 ⟨Nat.zero_le _, Nat.zero_le _⟩) ?_
  refine lv_if_ne (tgt := 17) hx hb dX5_houseOf_8 rfl (fun c8 => ?_) (fun c8 => ?_)
  · replace h := jh_f h c8
    refine lv_iload_n hx hb dX5_houseOf_17 rfl (lv_at hl 2 rfl) ?_
    by_cases c18_0 : v2 = 0
    · replace h := jh_t h c18_0
      refine lv_tableIn (off := 46) (tgt := 64) hx hb dX5_houseOf_18 (by rw [c18_0]; decide) (by rw [c18_0]; decide) (by rw [c18_0]; rfl) rfl ?_
      refine lv_aload_n hx hb dX5_houseOf_64 rfl (lv_at hl 0 rfl) ?_
      refine jr_get (k := 0) hx hb hts hown hK hP jb_0 (Nat.le_of_ble_eq_true rfl) jlX5_12 rfl dX5_houseOf_65 ?_
      refine jr_get (k := 1) hx hb hts hown hK hP jb_1 (Nat.le_of_ble_eq_true rfl) jlX5_94 rfl dX5_houseOf_68 ?_
      refine lv_iload_n hx hb dX5_houseOf_71 rfl (lv_at hl 1 rfl) ?_
      obtain ⟨g72, h⟩ := jh_gd h
      refine jr_ald (n := 8) hx hb hK hP jb_1 rfl g72 dX5_houseOf_72 ?_
      exact je_mi hx hb hr hlocks hK hP hS h dX5_houseOf_73
    replace h := jh_f h c18_0
    by_cases c18_1 : v2 = 1
    · replace h := jh_t h c18_1
      refine lv_tableIn (off := 56) (tgt := 74) hx hb dX5_houseOf_18 (by rw [c18_1]; decide) (by rw [c18_1]; decide) (by rw [c18_1]; rfl) rfl ?_
      refine lv_aload_n hx hb dX5_houseOf_74 rfl (lv_at hl 0 rfl) ?_
      refine jr_get (k := 0) hx hb hts hown hK hP jb_0 (Nat.le_of_ble_eq_true rfl) jlX5_12 rfl dX5_houseOf_75 ?_
      refine jr_get (k := 2) hx hb hts hown hK hP jb_1 (Nat.le_of_ble_eq_true rfl) jlX5_97 rfl dX5_houseOf_78 ?_
      refine lv_iload_n hx hb dX5_houseOf_81 rfl (lv_at hl 1 rfl) ?_
      obtain ⟨g82, h⟩ := jh_gd h
      refine jr_ald (n := 8) hx hb hK hP jb_1 rfl g82 dX5_houseOf_82 ?_
      exact je_mi hx hb hr hlocks hK hP hS h dX5_houseOf_83
    replace h := jh_f h c18_1
    by_cases c18_2 : v2 = 2
    · replace h := jh_t h c18_2
      refine lv_tableIn (off := 66) (tgt := 84) hx hb dX5_houseOf_18 (by rw [c18_2]; decide) (by rw [c18_2]; decide) (by rw [c18_2]; rfl) rfl ?_
      refine lv_aload_n hx hb dX5_houseOf_84 rfl (lv_at hl 0 rfl) ?_
      refine jr_get (k := 0) hx hb hts hown hK hP jb_0 (Nat.le_of_ble_eq_true rfl) jlX5_12 rfl dX5_houseOf_85 ?_
      refine jr_get (k := 3) hx hb hts hown hK hP jb_1 (Nat.le_of_ble_eq_true rfl) jlX5_100 rfl dX5_houseOf_88 ?_
      refine lv_iload_n hx hb dX5_houseOf_91 rfl (lv_at hl 1 rfl) ?_
      obtain ⟨g92, h⟩ := jh_gd h
      refine jr_ald (n := 8) hx hb hK hP jb_1 rfl g92 dX5_houseOf_92 ?_
      exact je_mi hx hb hr hlocks hK hP hS h dX5_houseOf_93
    replace h := jh_f h c18_2
    by_cases c18_3 : v2 = 3
    · replace h := jh_t h c18_3
      refine lv_tableIn (off := 76) (tgt := 94) hx hb dX5_houseOf_18 (by rw [c18_3]; decide) (by rw [c18_3]; decide) (by rw [c18_3]; rfl) rfl ?_
      refine lv_aload_n hx hb dX5_houseOf_94 rfl (lv_at hl 0 rfl) ?_
      refine jr_get (k := 0) hx hb hts hown hK hP jb_0 (Nat.le_of_ble_eq_true rfl) jlX5_12 rfl dX5_houseOf_95 ?_
      refine lv_iload_n hx hb dX5_houseOf_98 rfl (lv_at hl 1 rfl) ?_
      refine jr_kp (jr_rv (As := [.int v1]) (rest := []) S hK hP jb_1 rfl (m_X4_isLit l X M jb_1 v1 _ rfl) jw_X4_isLit ji_X4_isLit jmX5_103 rfl rfl ⟨(Nat.le_of_ble_eq_true rfl), (Nat.le_of_ble_eq_true rfl)⟩ rfl hl.1 rfl (Nat.le_of_ble_eq_true rfl) dX5_houseOf_99 ⟨Nat.zero_le _, Nat.zero_le _⟩) ?_
      refine lv_if_eq (tgt := 109) hx hb dX5_houseOf_102 rfl (fun c102 => ?_) (fun c102 => ?_)
      · replace h := jh_t h c102
        refine lv_iconst (v := 0) hx hb dX5_houseOf_109 jci_0 ?_
        exact je_mi hx hb hr hlocks hK hP hS h dX5_houseOf_110
      · replace h := jh_f h c102
        refine lv_iconst (v := 1) hx hb dX5_houseOf_105 jci_1 ?_
        refine lv_goto (tgt := 110) hx hb dX5_houseOf_106 rfl ?_
        exact je_mi hx hb hr hlocks hK hP hS h dX5_houseOf_110
    replace h := jh_f h c18_3
    by_cases c18_4 : v2 = 4
    · replace h := jh_t h c18_4
      refine lv_tableIn (off := 93) (tgt := 111) hx hb dX5_houseOf_18 (by rw [c18_4]; decide) (by rw [c18_4]; decide) (by rw [c18_4]; rfl) rfl ?_
      refine lv_aload_n hx hb dX5_houseOf_111 rfl (lv_at hl 0 rfl) ?_
      refine jr_get (k := 0) hx hb hts hown hK hP jb_0 (Nat.le_of_ble_eq_true rfl) jlX5_12 rfl dX5_houseOf_112 ?_
      refine jr_get (k := 1) hx hb hts hown hK hP jb_1 (Nat.le_of_ble_eq_true rfl) jlX5_94 rfl dX5_houseOf_115 ?_
      refine lv_iload_n hx hb dX5_houseOf_118 rfl (lv_at hl 1 rfl) ?_
      obtain ⟨g119, h⟩ := jh_gd h
      refine jr_ald (n := 8) hx hb hK hP jb_1 rfl g119 dX5_houseOf_119 ?_
      refine lv_aload_n hx hb dX5_houseOf_120 rfl (lv_at hl 0 rfl) ?_
      refine jr_get (k := 0) hx hb hts hown hK hP jb_0 (Nat.le_of_ble_eq_true rfl) jlX5_12 rfl dX5_houseOf_121 ?_
      refine jr_get (k := 2) hx hb hts hown hK hP jb_1 (Nat.le_of_ble_eq_true rfl) jlX5_97 rfl dX5_houseOf_124 ?_
      refine lv_iload_n hx hb dX5_houseOf_127 rfl (lv_at hl 1 rfl) ?_
      obtain ⟨g128, h⟩ := jh_gd h
      refine jr_ald (n := 8) hx hb hK hP jb_1 rfl g128 dX5_houseOf_128 ?_
      refine jr_kp (jr_rs (As := [.int (M 1 1 (Int32.toNatClampNeg v1)), .int (M 1 2 (Int32.toNatClampNeg v1))]) (rest := []) S hN (m_X5_reach l (M 1 1 (Int32.toNatClampNeg v1)) (M 1 2 (Int32.toNatClampNeg v1)) _ rfl) jw_X5_reach js_X5_reach jmX5_106 rfl rfl ⟨(Nat.le_of_ble_eq_true rfl), (Nat.le_of_ble_eq_true rfl)⟩ rfl hl.1 rfl (Nat.le_of_ble_eq_true rfl) dX5_houseOf_129 ⟨Nat.zero_le _, Nat.zero_le _⟩) ?_
      exact je_mi hx hb hr hlocks hK hP hS h dX5_houseOf_132
    replace h := jh_f h c18_4
    by_cases c18_5 : v2 = 5
    · replace h := jh_t h c18_5
      refine lv_tableIn (off := 115) (tgt := 133) hx hb dX5_houseOf_18 (by rw [c18_5]; decide) (by rw [c18_5]; decide) (by rw [c18_5]; rfl) rfl ?_
      refine lv_aload_n hx hb dX5_houseOf_133 rfl (lv_at hl 0 rfl) ?_
      refine jr_get (k := 0) hx hb hts hown hK hP jb_0 (Nat.le_of_ble_eq_true rfl) jlX5_12 rfl dX5_houseOf_134 ?_
      refine lv_iload_n hx hb dX5_houseOf_137 rfl (lv_at hl 1 rfl) ?_
      refine lv_iconst (v := 0) hx hb dX5_houseOf_138 jci_0 ?_
      obtain ⟨r4, e4, h⟩ := jh_b h
      refine jr_kp (jr_rv (As := [.int v1, .int 0]) (rest := []) S hK hP jb_1 rfl (m_X4_minutesOf l X M jb_1 v1 0 r4 e4) jw_X4_minutesOf ji_X4_minutesOf jmX5_110 rfl rfl ⟨(Nat.le_of_ble_eq_true rfl), (Nat.le_of_ble_eq_true rfl)⟩ rfl hl.1 rfl (Nat.le_of_ble_eq_true rfl) dX5_houseOf_139 ⟨Nat.zero_le _, Nat.zero_le _⟩) ?_
      exact je_mi hx hb hr hlocks hK hP hS h dX5_houseOf_142
    replace h := jh_f h c18_5
    by_cases c18_6 : v2 = 6
    · replace h := jh_t h c18_6
      refine lv_tableIn (off := 125) (tgt := 143) hx hb dX5_houseOf_18 (by rw [c18_6]; decide) (by rw [c18_6]; decide) (by rw [c18_6]; rfl) rfl ?_
      refine lv_aload_n hx hb dX5_houseOf_143 rfl (lv_at hl 0 rfl) ?_
      refine jr_get (k := 0) hx hb hts hown hK hP jb_0 (Nat.le_of_ble_eq_true rfl) jlX5_12 rfl dX5_houseOf_144 ?_
      refine lv_iload_n hx hb dX5_houseOf_147 rfl (lv_at hl 1 rfl) ?_
      refine lv_iconst (v := 0) hx hb dX5_houseOf_148 jci_0 ?_
      obtain ⟨r5, e5, h⟩ := jh_b h
      refine jr_kp (jr_rv (As := [.int v1, .int 0]) (rest := []) S hK hP jb_1 rfl (m_X4_owersBehind l X M jb_1 v1 0 r5 e5) jw_X4_owersBehind ji_X4_owersBehind jmX5_113 rfl rfl ⟨(Nat.le_of_ble_eq_true rfl), (Nat.le_of_ble_eq_true rfl)⟩ rfl hl.1 rfl (Nat.le_of_ble_eq_true rfl) dX5_houseOf_149 ⟨Nat.zero_le _, Nat.zero_le _⟩) ?_
      exact je_mi hx hb hr hlocks hK hP hS h dX5_houseOf_152
    replace h := jh_f h c18_6
    by_cases c18_7 : v2 = 7
    · replace h := jh_t h c18_7
      refine lv_tableIn (off := 135) (tgt := 153) hx hb dX5_houseOf_18 (by rw [c18_7]; decide) (by rw [c18_7]; decide) (by rw [c18_7]; rfl) rfl ?_
      refine lv_aload_n hx hb dX5_houseOf_153 rfl (lv_at hl 0 rfl) ?_
      refine jr_get (k := 0) hx hb hts hown hK hP jb_0 (Nat.le_of_ble_eq_true rfl) jlX5_12 rfl dX5_houseOf_154 ?_
      refine lv_iload_n hx hb dX5_houseOf_157 rfl (lv_at hl 1 rfl) ?_
      obtain ⟨r6, e6, h⟩ := jh_b h
      refine jr_kp (jr_rv (As := [.int v1]) (rest := []) S hK hP jb_1 rfl (m_X4_seenBy l X M jb_1 v1 r6 e6) jw_X4_seenBy ji_X4_seenBy jmX5_116 rfl rfl ⟨(Nat.le_of_ble_eq_true rfl), (Nat.le_of_ble_eq_true rfl)⟩ rfl hl.1 rfl (Nat.le_of_ble_eq_true rfl) dX5_houseOf_158 ⟨Nat.zero_le _, Nat.zero_le _⟩) ?_
      exact je_mi hx hb hr hlocks hK hP hS h dX5_houseOf_161
    replace h := jh_f h c18_7
    refine jr_tdef (ks := [0, 1, 2, 3, 4, 5, 6, 7]) (tgt := 162) hx hb dX5_houseOf_18 (jsw_cons (jsw_ne c18_0 rfl) (jsw_cons (jsw_ne c18_1 rfl) (jsw_cons (jsw_ne c18_2 rfl) (jsw_cons (jsw_ne c18_3 rfl) (jsw_cons (jsw_ne c18_4 rfl) (jsw_cons (jsw_ne c18_5 rfl) (jsw_cons (jsw_ne c18_6 rfl) (jsw_cons (jsw_ne c18_7 rfl) (jsw_nil))))))))) (by decide) rfl ?_
    refine lv_aload_n hx hb dX5_houseOf_162 rfl (lv_at hl 0 rfl) ?_
    refine lv_bipush (v := (-2)) hx hb dX5_houseOf_163 jcb_m2 ?_
    obtain ⟨r7, M_7, e7, h⟩ := jh_b2 h
    refine jr_km (jr_rv (As := [.int (-2)]) (rest := []) S hK hP jb_0 rfl (m_X5_refuse l X A hs M (-2) r7 M_7 e7) jw_X5_refuse ji_X5_refuse jmX5_65 rfl rfl ⟨(Nat.le_of_ble_eq_true rfl), (Nat.le_of_ble_eq_true rfl)⟩ rfl hl.1 rfl (Nat.le_of_ble_eq_true rfl) dX5_houseOf_165 ⟨Nat.zero_le _, Nat.zero_le _⟩) hS (fun H locs hP hS => ?_)
    exact je_mi hx hb hr hlocks hK hP hS h dX5_houseOf_168
  · replace h := jh_t h c8
    refine lv_aload_n hx hb dX5_houseOf_11 rfl (lv_at hl 0 rfl) ?_
    refine lv_iconst (v := (-1)) hx hb dX5_houseOf_12 jci_m1 ?_
    obtain ⟨r8, M_8, e8, h⟩ := jh_b2 h
    refine jr_km (jr_rv (As := [.int (-1)]) (rest := []) S hK hP jb_0 rfl (m_X5_refuse l X A hs M (-1) r8 M_8 e8) jw_X5_refuse ji_X5_refuse jmX5_65 rfl rfl ⟨(Nat.le_of_ble_eq_true rfl), (Nat.le_of_ble_eq_true rfl)⟩ rfl hl.1 rfl (Nat.le_of_ble_eq_true rfl) dX5_houseOf_13 ⟨Nat.zero_le _, Nat.zero_le _⟩) hS (fun H locs hP hS => ?_)
    exact je_mi hx hb hr hlocks hK hP hS h dX5_houseOf_16
def f_X5_walkerOf (M : jm) (v1 : Int32) (v2 : Int32) : Option (Int32 × jm) := (if (f_X4_hasWalker M 1 v1) = 0 then (jb2 (f_X5_refuse M (-1)) fun r6 M_6 => (some (r6, M_6))) else (if v2 = 0 then (jgd v1 6 (some ((M 1 6 (Int32.toNatClampNeg v1)), M))) else (if v2 = 1 then (jgd v1 6 (some ((M 1 7 (Int32.toNatClampNeg v1)), M))) else (if v2 = 2 then (jgd v1 6 (some ((M 1 8 (Int32.toNatClampNeg v1)), M))) else (if v2 = 3 then (jb (f_X4_owesBehind M 1 v1 0) fun r2 => (some (r2, M))) else (if v2 = 4 then (jgd v1 6 (jb (f_X4_seesFrom M 1 v1 (M 1 6 (Int32.toNatClampNeg v1))) fun r3 => (some (r3, M)))) else (if v2 = 5 then (jb (f_X4_priceBehind M 1 v1 0) fun r4 => (some (r4, M))) else (jb2 (f_X5_refuse M (-2)) fun r5 M_5 => (some (r5, M_5))))))))))
set_option maxRecDepth 100000 in
theorem m_X5_walkerOf (l : Launch) (X : jX) (A : Nat → Prop) (hs : jst X A) (M : jm) (v1 : Int32) (v2 : Int32) (r : Int32) (N : jm) (h : f_X5_walkerOf M v1 v2 = some (r, N)) : Met l yX5_walkerOf (jws yX5_walkerOf cX5_walkerOf 3 (some .int)) (jrm 6 143) (va_Pc [.ref (jO X 0), .int v1, .int v2] (jB X M)) (jQm X A (some (.int r)) N) 0 0 A := by
  refine jm_of (by decide) (Nat.le_of_ble_eq_true rfl) ?_
  intro p e s m args below meth c ls S hr hlocks hB hl
  have S : CallFix p m c cX5_walkerOf 3 s args jtb RX5 := S
  obtain ⟨hx, hb, hml, hown, hts⟩ := id S
  obtain ⟨hP, hK⟩ := hB
  have hN := hK.2
  have hS : va_S A s.heap s.heap [] := va_S.rf
  have hl : lv_has ls 3 [(0, .ref (jO X 0)), (1, .int v1), (2, .int v2)] := hl
  refine lv_aload_n hx hb dX5_walkerOf_0 rfl (lv_at hl 0 rfl) ?_
  refine jr_get (k := 0) hx hb hts hown hK hP jb_0 (Nat.le_of_ble_eq_true rfl) jlX5_12 rfl dX5_walkerOf_1 ?_
  refine lv_iload_n hx hb dX5_walkerOf_4 rfl (lv_at hl 1 rfl) ?_
  refine jr_kp (jr_rv (As := [.int v1]) (rest := []) S hK hP jb_1 rfl (m_X4_hasWalker l X M jb_1 v1 _ rfl) jw_X4_hasWalker ji_X4_hasWalker jmX5_119 rfl rfl ⟨(Nat.le_of_ble_eq_true rfl), (Nat.le_of_ble_eq_true rfl)⟩ rfl hl.1 rfl (Nat.le_of_ble_eq_true rfl) dX5_walkerOf_5 ⟨Nat.zero_le _, Nat.zero_le _⟩) ?_
  refine lv_if_ne (tgt := 17) hx hb dX5_walkerOf_8 rfl (fun c8 => ?_) (fun c8 => ?_)
  · replace h := jh_f h c8
    refine lv_iload_n hx hb dX5_walkerOf_17 rfl (lv_at hl 2 rfl) ?_
    by_cases c18_0 : v2 = 0
    · replace h := jh_t h c18_0
      refine lv_tableIn (off := 38) (tgt := 56) hx hb dX5_walkerOf_18 (by rw [c18_0]; decide) (by rw [c18_0]; decide) (by rw [c18_0]; rfl) rfl ?_
      refine lv_aload_n hx hb dX5_walkerOf_56 rfl (lv_at hl 0 rfl) ?_
      refine jr_get (k := 0) hx hb hts hown hK hP jb_0 (Nat.le_of_ble_eq_true rfl) jlX5_12 rfl dX5_walkerOf_57 ?_
      refine jr_get (k := 6) hx hb hts hown hK hP jb_1 (Nat.le_of_ble_eq_true rfl) jlX5_122 rfl dX5_walkerOf_60 ?_
      refine lv_iload_n hx hb dX5_walkerOf_63 rfl (lv_at hl 1 rfl) ?_
      obtain ⟨g64, h⟩ := jh_gd h
      refine jr_ald (n := 6) hx hb hK hP jb_1 rfl g64 dX5_walkerOf_64 ?_
      exact je_mi hx hb hr hlocks hK hP hS h dX5_walkerOf_65
    replace h := jh_f h c18_0
    by_cases c18_1 : v2 = 1
    · replace h := jh_t h c18_1
      refine lv_tableIn (off := 48) (tgt := 66) hx hb dX5_walkerOf_18 (by rw [c18_1]; decide) (by rw [c18_1]; decide) (by rw [c18_1]; rfl) rfl ?_
      refine lv_aload_n hx hb dX5_walkerOf_66 rfl (lv_at hl 0 rfl) ?_
      refine jr_get (k := 0) hx hb hts hown hK hP jb_0 (Nat.le_of_ble_eq_true rfl) jlX5_12 rfl dX5_walkerOf_67 ?_
      refine jr_get (k := 7) hx hb hts hown hK hP jb_1 (Nat.le_of_ble_eq_true rfl) jlX5_125 rfl dX5_walkerOf_70 ?_
      refine lv_iload_n hx hb dX5_walkerOf_73 rfl (lv_at hl 1 rfl) ?_
      obtain ⟨g74, h⟩ := jh_gd h
      refine jr_ald (n := 6) hx hb hK hP jb_1 rfl g74 dX5_walkerOf_74 ?_
      exact je_mi hx hb hr hlocks hK hP hS h dX5_walkerOf_75
    replace h := jh_f h c18_1
    by_cases c18_2 : v2 = 2
    · replace h := jh_t h c18_2
      refine lv_tableIn (off := 58) (tgt := 76) hx hb dX5_walkerOf_18 (by rw [c18_2]; decide) (by rw [c18_2]; decide) (by rw [c18_2]; rfl) rfl ?_
      refine lv_aload_n hx hb dX5_walkerOf_76 rfl (lv_at hl 0 rfl) ?_
      refine jr_get (k := 0) hx hb hts hown hK hP jb_0 (Nat.le_of_ble_eq_true rfl) jlX5_12 rfl dX5_walkerOf_77 ?_
      refine jr_get (k := 8) hx hb hts hown hK hP jb_1 (Nat.le_of_ble_eq_true rfl) jlX5_128 rfl dX5_walkerOf_80 ?_
      refine lv_iload_n hx hb dX5_walkerOf_83 rfl (lv_at hl 1 rfl) ?_
      obtain ⟨g84, h⟩ := jh_gd h
      refine jr_ald (n := 6) hx hb hK hP jb_1 rfl g84 dX5_walkerOf_84 ?_
      exact je_mi hx hb hr hlocks hK hP hS h dX5_walkerOf_85
    replace h := jh_f h c18_2
    by_cases c18_3 : v2 = 3
    · replace h := jh_t h c18_3
      refine lv_tableIn (off := 68) (tgt := 86) hx hb dX5_walkerOf_18 (by rw [c18_3]; decide) (by rw [c18_3]; decide) (by rw [c18_3]; rfl) rfl ?_
      refine lv_aload_n hx hb dX5_walkerOf_86 rfl (lv_at hl 0 rfl) ?_
      refine jr_get (k := 0) hx hb hts hown hK hP jb_0 (Nat.le_of_ble_eq_true rfl) jlX5_12 rfl dX5_walkerOf_87 ?_
      refine lv_iload_n hx hb dX5_walkerOf_90 rfl (lv_at hl 1 rfl) ?_
      refine lv_iconst (v := 0) hx hb dX5_walkerOf_91 jci_0 ?_
      obtain ⟨r2, e2, h⟩ := jh_b h
      refine jr_kp (jr_rv (As := [.int v1, .int 0]) (rest := []) S hK hP jb_1 rfl (m_X4_owesBehind l X M jb_1 v1 0 r2 e2) jw_X4_owesBehind ji_X4_owesBehind jmX5_131 rfl rfl ⟨(Nat.le_of_ble_eq_true rfl), (Nat.le_of_ble_eq_true rfl)⟩ rfl hl.1 rfl (Nat.le_of_ble_eq_true rfl) dX5_walkerOf_92 ⟨Nat.zero_le _, Nat.zero_le _⟩) ?_
      exact je_mi hx hb hr hlocks hK hP hS h dX5_walkerOf_95
    replace h := jh_f h c18_3
    by_cases c18_4 : v2 = 4
    · replace h := jh_t h c18_4
      refine lv_tableIn (off := 78) (tgt := 96) hx hb dX5_walkerOf_18 (by rw [c18_4]; decide) (by rw [c18_4]; decide) (by rw [c18_4]; rfl) rfl ?_
      refine lv_aload_n hx hb dX5_walkerOf_96 rfl (lv_at hl 0 rfl) ?_
      refine jr_get (k := 0) hx hb hts hown hK hP jb_0 (Nat.le_of_ble_eq_true rfl) jlX5_12 rfl dX5_walkerOf_97 ?_
      refine lv_iload_n hx hb dX5_walkerOf_100 rfl (lv_at hl 1 rfl) ?_
      refine lv_aload_n hx hb dX5_walkerOf_101 rfl (lv_at hl 0 rfl) ?_
      refine jr_get (k := 0) hx hb hts hown hK hP jb_0 (Nat.le_of_ble_eq_true rfl) jlX5_12 rfl dX5_walkerOf_102 ?_
      refine jr_get (k := 6) hx hb hts hown hK hP jb_1 (Nat.le_of_ble_eq_true rfl) jlX5_122 rfl dX5_walkerOf_105 ?_
      refine lv_iload_n hx hb dX5_walkerOf_108 rfl (lv_at hl 1 rfl) ?_
      obtain ⟨g109, h⟩ := jh_gd h
      refine jr_ald (n := 6) hx hb hK hP jb_1 rfl g109 dX5_walkerOf_109 ?_
      obtain ⟨r3, e3, h⟩ := jh_b h
      refine jr_kp (jr_rv (As := [.int v1, .int (M 1 6 (Int32.toNatClampNeg v1))]) (rest := []) S hK hP jb_1 rfl (m_X4_seesFrom l X M jb_1 v1 (M 1 6 (Int32.toNatClampNeg v1)) r3 e3) jw_X4_seesFrom ji_X4_seesFrom jmX5_134 rfl rfl ⟨(Nat.le_of_ble_eq_true rfl), (Nat.le_of_ble_eq_true rfl)⟩ rfl hl.1 rfl (Nat.le_of_ble_eq_true rfl) dX5_walkerOf_110 ⟨Nat.zero_le _, Nat.zero_le _⟩) ?_
      exact je_mi hx hb hr hlocks hK hP hS h dX5_walkerOf_113
    replace h := jh_f h c18_4
    by_cases c18_5 : v2 = 5
    · replace h := jh_t h c18_5
      refine lv_tableIn (off := 96) (tgt := 114) hx hb dX5_walkerOf_18 (by rw [c18_5]; decide) (by rw [c18_5]; decide) (by rw [c18_5]; rfl) rfl ?_
      refine lv_aload_n hx hb dX5_walkerOf_114 rfl (lv_at hl 0 rfl) ?_
      refine jr_get (k := 0) hx hb hts hown hK hP jb_0 (Nat.le_of_ble_eq_true rfl) jlX5_12 rfl dX5_walkerOf_115 ?_
      refine lv_iload_n hx hb dX5_walkerOf_118 rfl (lv_at hl 1 rfl) ?_
      refine lv_iconst (v := 0) hx hb dX5_walkerOf_119 jci_0 ?_
      obtain ⟨r4, e4, h⟩ := jh_b h
      refine jr_kp (jr_rv (As := [.int v1, .int 0]) (rest := []) S hK hP jb_1 rfl (m_X4_priceBehind l X M jb_1 v1 0 r4 e4) jw_X4_priceBehind ji_X4_priceBehind jmX5_137 rfl rfl ⟨(Nat.le_of_ble_eq_true rfl), (Nat.le_of_ble_eq_true rfl)⟩ rfl hl.1 rfl (Nat.le_of_ble_eq_true rfl) dX5_walkerOf_120 ⟨Nat.zero_le _, Nat.zero_le _⟩) ?_
      exact je_mi hx hb hr hlocks hK hP hS h dX5_walkerOf_123
    replace h := jh_f h c18_5
    refine jr_tdef (ks := [0, 1, 2, 3, 4, 5]) (tgt := 124) hx hb dX5_walkerOf_18 (jsw_cons (jsw_ne c18_0 rfl) (jsw_cons (jsw_ne c18_1 rfl) (jsw_cons (jsw_ne c18_2 rfl) (jsw_cons (jsw_ne c18_3 rfl) (jsw_cons (jsw_ne c18_4 rfl) (jsw_cons (jsw_ne c18_5 rfl) (jsw_nil))))))) (by decide) rfl ?_
    refine lv_aload_n hx hb dX5_walkerOf_124 rfl (lv_at hl 0 rfl) ?_
    refine lv_bipush (v := (-2)) hx hb dX5_walkerOf_125 jcb_m2 ?_
    obtain ⟨r5, M_5, e5, h⟩ := jh_b2 h
    refine jr_km (jr_rv (As := [.int (-2)]) (rest := []) S hK hP jb_0 rfl (m_X5_refuse l X A hs M (-2) r5 M_5 e5) jw_X5_refuse ji_X5_refuse jmX5_65 rfl rfl ⟨(Nat.le_of_ble_eq_true rfl), (Nat.le_of_ble_eq_true rfl)⟩ rfl hl.1 rfl (Nat.le_of_ble_eq_true rfl) dX5_walkerOf_127 ⟨Nat.zero_le _, Nat.zero_le _⟩) hS (fun H locs hP hS => ?_)
    exact je_mi hx hb hr hlocks hK hP hS h dX5_walkerOf_130
  · replace h := jh_t h c8
    refine lv_aload_n hx hb dX5_walkerOf_11 rfl (lv_at hl 0 rfl) ?_
    refine lv_iconst (v := (-1)) hx hb dX5_walkerOf_12 jci_m1 ?_
    obtain ⟨r6, M_6, e6, h⟩ := jh_b2 h
    refine jr_km (jr_rv (As := [.int (-1)]) (rest := []) S hK hP jb_0 rfl (m_X5_refuse l X A hs M (-1) r6 M_6 e6) jw_X5_refuse ji_X5_refuse jmX5_65 rfl rfl ⟨(Nat.le_of_ble_eq_true rfl), (Nat.le_of_ble_eq_true rfl)⟩ rfl hl.1 rfl (Nat.le_of_ble_eq_true rfl) dX5_walkerOf_13 ⟨Nat.zero_le _, Nat.zero_le _⟩) hS (fun H locs hP hS => ?_)
    exact je_mi hx hb hr hlocks hK hP hS h dX5_walkerOf_16
def f_X5_age (M : jm) (v1 : Int32) (v2 : Int32) : Option (Int32 × jm) := (if (f_X4_hasWalker M 1 v1) = 0 then (jb2 (f_X5_refuse M (-1)) fun r2 M_2 => (some (r2, M_2))) else (if (f_X4_hasHouse M 1 v2) = 0 then (jb2 (f_X5_refuse M (-1)) fun r6 M_6 => (some (r6, M_6))) else (jb (f_X4_owes M 1 v1 v2) fun r4 => (if r4 = 0 then (some ((-9), M)) else (jb (f_X4_ageBehind M 1 v1 v2 0) fun r5 => (some (r5, M)))))))
set_option maxRecDepth 100000 in
theorem m_X5_age (l : Launch) (X : jX) (A : Nat → Prop) (hs : jst X A) (M : jm) (v1 : Int32) (v2 : Int32) (r : Int32) (N : jm) (h : f_X5_age M v1 v2 = some (r, N)) : Met l yX5_age (jws yX5_age cX5_age 3 (some .int)) (jrm 4 95) (va_Pc [.ref (jO X 0), .int v1, .int v2] (jB X M)) (jQm X A (some (.int r)) N) 0 0 A := by
  refine jm_of (by decide) (Nat.le_of_ble_eq_true rfl) ?_
  intro p e s m args below meth c ls S hr hlocks hB hl
  have S : CallFix p m c cX5_age 3 s args jtb RX5 := S
  obtain ⟨hx, hb, hml, hown, hts⟩ := id S
  obtain ⟨hP, hK⟩ := hB
  have hN := hK.2
  have hS : va_S A s.heap s.heap [] := va_S.rf
  have hl : lv_has ls 3 [(0, .ref (jO X 0)), (1, .int v1), (2, .int v2)] := hl
  refine lv_aload_n hx hb dX5_age_0 rfl (lv_at hl 0 rfl) ?_
  refine jr_get (k := 0) hx hb hts hown hK hP jb_0 (Nat.le_of_ble_eq_true rfl) jlX5_12 rfl dX5_age_1 ?_
  refine lv_iload_n hx hb dX5_age_4 rfl (lv_at hl 1 rfl) ?_
  refine jr_kp (jr_rv (As := [.int v1]) (rest := []) S hK hP jb_1 rfl (m_X4_hasWalker l X M jb_1 v1 _ rfl) jw_X4_hasWalker ji_X4_hasWalker jmX5_119 rfl rfl ⟨(Nat.le_of_ble_eq_true rfl), (Nat.le_of_ble_eq_true rfl)⟩ rfl hl.1 rfl (Nat.le_of_ble_eq_true rfl) dX5_age_5 ⟨Nat.zero_le _, Nat.zero_le _⟩) ?_
  refine lv_if_eq (tgt := 22) hx hb dX5_age_8 rfl (fun c8 => ?_) (fun c8 => ?_)
  · replace h := jh_t h c8
    refine lv_aload_n hx hb dX5_age_22 rfl (lv_at hl 0 rfl) ?_
    refine lv_iconst (v := (-1)) hx hb dX5_age_23 jci_m1 ?_
    obtain ⟨r2, M_2, e2, h⟩ := jh_b2 h
    refine jr_km (jr_rv (As := [.int (-1)]) (rest := []) S hK hP jb_0 rfl (m_X5_refuse l X A hs M (-1) r2 M_2 e2) jw_X5_refuse ji_X5_refuse jmX5_65 rfl rfl ⟨(Nat.le_of_ble_eq_true rfl), (Nat.le_of_ble_eq_true rfl)⟩ rfl hl.1 rfl (Nat.le_of_ble_eq_true rfl) dX5_age_24 ⟨Nat.zero_le _, Nat.zero_le _⟩) hS (fun H locs hP hS => ?_)
    exact je_mi hx hb hr hlocks hK hP hS h dX5_age_27
  · replace h := jh_f h c8
    refine lv_aload_n hx hb dX5_age_11 rfl (lv_at hl 0 rfl) ?_
    refine jr_get (k := 0) hx hb hts hown hK hP jb_0 (Nat.le_of_ble_eq_true rfl) jlX5_12 rfl dX5_age_12 ?_
    refine lv_iload_n hx hb dX5_age_15 rfl (lv_at hl 2 rfl) ?_
    refine jr_kp (jr_rv (As := [.int v2]) (rest := []) S hK hP jb_1 rfl (m_X4_hasHouse l X M jb_1 v2 _ rfl) jw_X4_hasHouse ji_X4_hasHouse jmX5_90 rfl rfl ⟨(Nat.le_of_ble_eq_true rfl), (Nat.le_of_ble_eq_true rfl)⟩ rfl hl.1 rfl (Nat.le_of_ble_eq_true rfl) dX5_age_16 ⟨Nat.zero_le _, Nat.zero_le _⟩) ?_
    refine lv_if_ne (tgt := 28) hx hb dX5_age_19 rfl (fun c19 => ?_) (fun c19 => ?_)
    · replace h := jh_f h c19
      refine lv_aload_n hx hb dX5_age_28 rfl (lv_at hl 0 rfl) ?_
      refine jr_get (k := 0) hx hb hts hown hK hP jb_0 (Nat.le_of_ble_eq_true rfl) jlX5_12 rfl dX5_age_29 ?_
      refine lv_iload_n hx hb dX5_age_32 rfl (lv_at hl 1 rfl) ?_
      refine lv_iload_n hx hb dX5_age_33 rfl (lv_at hl 2 rfl) ?_
      obtain ⟨r4, e4, h⟩ := jh_b h
      refine jr_kp (jr_rv (As := [.int v1, .int v2]) (rest := []) S hK hP jb_1 rfl (m_X4_owes l X M jb_1 v1 v2 r4 e4) jw_X4_owes ji_X4_owes jmX5_140 rfl rfl ⟨(Nat.le_of_ble_eq_true rfl), (Nat.le_of_ble_eq_true rfl)⟩ rfl hl.1 rfl (Nat.le_of_ble_eq_true rfl) dX5_age_34 ⟨Nat.zero_le _, Nat.zero_le _⟩) ?_
      refine lv_if_eq (tgt := 53) hx hb dX5_age_37 rfl (fun c37 => ?_) (fun c37 => ?_)
      · replace h := jh_t h c37
        refine lv_bipush (v := (-9)) hx hb dX5_age_53 jcb_m9 ?_
        exact je_mi hx hb hr hlocks hK hP hS h dX5_age_55
      · replace h := jh_f h c37
        refine lv_aload_n hx hb dX5_age_40 rfl (lv_at hl 0 rfl) ?_
        refine jr_get (k := 0) hx hb hts hown hK hP jb_0 (Nat.le_of_ble_eq_true rfl) jlX5_12 rfl dX5_age_41 ?_
        refine lv_iload_n hx hb dX5_age_44 rfl (lv_at hl 1 rfl) ?_
        refine lv_iload_n hx hb dX5_age_45 rfl (lv_at hl 2 rfl) ?_
        refine lv_iconst (v := 0) hx hb dX5_age_46 jci_0 ?_
        obtain ⟨r5, e5, h⟩ := jh_b h
        refine jr_kp (jr_rv (As := [.int v1, .int v2, .int 0]) (rest := []) S hK hP jb_1 rfl (m_X4_ageBehind l X M jb_1 v1 v2 0 r5 e5) jw_X4_ageBehind ji_X4_ageBehind jmX5_144 rfl rfl ⟨(Nat.le_of_ble_eq_true rfl), (Nat.le_of_ble_eq_true rfl)⟩ rfl hl.1 rfl (Nat.le_of_ble_eq_true rfl) dX5_age_47 ⟨Nat.zero_le _, Nat.zero_le _⟩) ?_
        refine lv_goto (tgt := 55) hx hb dX5_age_50 rfl ?_
        exact je_mi hx hb hr hlocks hK hP hS h dX5_age_55
    · replace h := jh_t h c19
      refine lv_aload_n hx hb dX5_age_22 rfl (lv_at hl 0 rfl) ?_
      refine lv_iconst (v := (-1)) hx hb dX5_age_23 jci_m1 ?_
      obtain ⟨r6, M_6, e6, h⟩ := jh_b2 h
      refine jr_km (jr_rv (As := [.int (-1)]) (rest := []) S hK hP jb_0 rfl (m_X5_refuse l X A hs M (-1) r6 M_6 e6) jw_X5_refuse ji_X5_refuse jmX5_65 rfl rfl ⟨(Nat.le_of_ble_eq_true rfl), (Nat.le_of_ble_eq_true rfl)⟩ rfl hl.1 rfl (Nat.le_of_ble_eq_true rfl) dX5_age_24 ⟨Nat.zero_le _, Nat.zero_le _⟩) hS (fun H locs hP hS => ?_)
      exact je_mi hx hb hr hlocks hK hP hS h dX5_age_27
def f_X5_house (M : jm) (v1 : Int32) (v2 : Int32) (v3 : Int32) : Option (Int32 × jm) := (if v1 < 0 then (jb2 (f_X5_refuse M (-2)) fun r1 M_1 => (some (r1, M_1))) else (if v1 < 6 then (if 0 ≤ v2 then (if 10 ≤ v2 then (jb2 (f_X5_refuse M (-6)) fun r2 M_2 => (some (r2, M_2))) else (if (M 1 0 0) < 7 then (if (f_X5_isCell v3) = 0 then (jb2 (f_X5_refuse M (-1)) fun r6 M_6 => (some (r6, M_6))) else (jb2 (f_X4_addHouse M 1 v1 v2 v3) fun r4 M_4 => (jb (f_X0_forget M_4) fun M_5 => (some (((M_5 1 0 0) - 1), M_5))))) else (jb2 (f_X5_refuse M (-6)) fun r7 M_7 => (some (r7, M_7))))) else (jb2 (f_X5_refuse M (-4)) fun r8 M_8 => (some (r8, M_8)))) else (jb2 (f_X5_refuse M (-2)) fun r9 M_9 => (some (r9, M_9)))))
set_option maxRecDepth 100000 in
theorem m_X5_house (l : Launch) (X : jX) (A : Nat → Prop) (hs : jst X A) (M : jm) (v1 : Int32) (v2 : Int32) (v3 : Int32) (r : Int32) (N : jm) (h : f_X5_house M v1 v2 v3 = some (r, N)) : Met l yX5_house (jws yX5_house cX5_house 4 (some .int)) (jrm 2 43) (va_Pc [.ref (jO X 0), .int v1, .int v2, .int v3] (jB X M)) (jQm X A (some (.int r)) N) 0 0 A := by
  refine jm_of (by decide) (Nat.le_of_ble_eq_true rfl) ?_
  intro p e s m args below meth c ls S hr hlocks hB hl
  have S : CallFix p m c cX5_house 4 s args jtb RX5 := S
  obtain ⟨hx, hb, hml, hown, hts⟩ := id S
  obtain ⟨hP, hK⟩ := hB
  have hN := hK.2
  have hS : va_S A s.heap s.heap [] := va_S.rf
  have hl : lv_has ls 4 [(0, .ref (jO X 0)), (1, .int v1), (2, .int v2), (3, .int v3)] := hl
  refine lv_iload_n hx hb dX5_house_0 rfl (lv_at hl 1 rfl) ?_
  refine lv_if_lt (tgt := 10) hx hb dX5_house_1 rfl (fun c1 => ?_) (fun c1 => ?_)
  · replace h := jh_t h c1
    refine lv_aload_n hx hb dX5_house_10 rfl (lv_at hl 0 rfl) ?_
    refine lv_bipush (v := (-2)) hx hb dX5_house_11 jcb_m2 ?_
    obtain ⟨r1, M_1, e1, h⟩ := jh_b2 h
    refine jr_km (jr_rv (As := [.int (-2)]) (rest := []) S hK hP jb_0 rfl (m_X5_refuse l X A hs M (-2) r1 M_1 e1) jw_X5_refuse ji_X5_refuse jmX5_65 rfl rfl ⟨(Nat.le_of_ble_eq_true rfl), (Nat.le_of_ble_eq_true rfl)⟩ rfl hl.1 rfl (Nat.le_of_ble_eq_true rfl) dX5_house_13 ⟨Nat.zero_le _, Nat.zero_le _⟩) hS (fun H locs hP hS => ?_)
    exact je_mi hx hb hr hlocks hK hP hS h dX5_house_16
  · replace h := jh_f h c1
    refine lv_iload_n hx hb dX5_house_4 rfl (lv_at hl 1 rfl) ?_
    refine lv_bipush (v := 6) hx hb dX5_house_5 jcb_6 ?_
    refine lv_icmp_lt (tgt := 17) hx hb dX5_house_7 rfl (fun c7 => ?_) (fun c7 => ?_)
    · replace h := jh_t h c7
      refine lv_iload_n hx hb dX5_house_17 rfl (lv_at hl 2 rfl) ?_
      refine lv_if_ge (tgt := 28) hx hb dX5_house_18 rfl (fun c18 => ?_) (fun c18 => ?_)
      · replace h := jh_t h c18
        refine lv_iload_n hx hb dX5_house_28 rfl (lv_at hl 2 rfl) ?_
        refine lv_bipush (v := 10) hx hb dX5_house_29 jcb_10 ?_
        refine lv_icmp_ge (tgt := 46) hx hb dX5_house_31 rfl (fun c31 => ?_) (fun c31 => ?_)
        · replace h := jh_t h c31
          refine lv_aload_n hx hb dX5_house_46 rfl (lv_at hl 0 rfl) ?_
          refine lv_bipush (v := (-6)) hx hb dX5_house_47 jcb_m6 ?_
          obtain ⟨r2, M_2, e2, h⟩ := jh_b2 h
          refine jr_km (jr_rv (As := [.int (-6)]) (rest := []) S hK hP jb_0 rfl (m_X5_refuse l X A hs M (-6) r2 M_2 e2) jw_X5_refuse ji_X5_refuse jmX5_65 rfl rfl ⟨(Nat.le_of_ble_eq_true rfl), (Nat.le_of_ble_eq_true rfl)⟩ rfl hl.1 rfl (Nat.le_of_ble_eq_true rfl) dX5_house_49 ⟨Nat.zero_le _, Nat.zero_le _⟩) hS (fun H locs hP hS => ?_)
          exact je_mi hx hb hr hlocks hK hP hS h dX5_house_52
        · replace h := jh_f h c31
          refine lv_aload_n hx hb dX5_house_34 rfl (lv_at hl 0 rfl) ?_
          refine jr_get (k := 0) hx hb hts hown hK hP jb_0 (Nat.le_of_ble_eq_true rfl) jlX5_12 rfl dX5_house_35 ?_
          refine jr_get (k := 0) hx hb hts hown hK hP jb_1 (Nat.le_of_ble_eq_true rfl) jlX5_148 rfl dX5_house_38 ?_
          refine lv_bipush (v := 7) hx hb dX5_house_41 jcb_7 ?_
          refine lv_icmp_lt (tgt := 53) hx hb dX5_house_43 rfl (fun c43 => ?_) (fun c43 => ?_)
          · replace h := jh_t h c43
            refine lv_iload_n hx hb dX5_house_53 rfl (lv_at hl 3 rfl) ?_
            refine jr_kp (jr_rs (As := [.int v3]) (rest := []) S hN (m_X5_isCell l v3 _ rfl) jw_X5_isCell js_X5_isCell jmX5_151 rfl rfl ⟨(Nat.le_of_ble_eq_true rfl), (Nat.le_of_ble_eq_true rfl)⟩ rfl hl.1 rfl (Nat.le_of_ble_eq_true rfl) dX5_house_54 ⟨Nat.zero_le _, Nat.zero_le _⟩) ?_
            refine lv_if_ne (tgt := 66) hx hb dX5_house_57 rfl (fun c57 => ?_) (fun c57 => ?_)
            · replace h := jh_f h c57
              refine lv_aload_n hx hb dX5_house_66 rfl (lv_at hl 0 rfl) ?_
              refine jr_get (k := 0) hx hb hts hown hK hP jb_0 (Nat.le_of_ble_eq_true rfl) jlX5_12 rfl dX5_house_67 ?_
              refine lv_iload_n hx hb dX5_house_70 rfl (lv_at hl 1 rfl) ?_
              refine lv_iload_n hx hb dX5_house_71 rfl (lv_at hl 2 rfl) ?_
              refine lv_iload_n hx hb dX5_house_72 rfl (lv_at hl 3 rfl) ?_
              obtain ⟨r4, M_4, e4, h⟩ := jh_b2 h
              refine jr_km (jr_rv (As := [.int v1, .int v2, .int v3]) (rest := []) S hK hP jb_1 rfl (m_X4_addHouse l X A hs M jb_1 v1 v2 v3 r4 M_4 e4) jw_X4_addHouse ji_X4_addHouse jmX5_154 rfl rfl ⟨(Nat.le_of_ble_eq_true rfl), (Nat.le_of_ble_eq_true rfl)⟩ rfl hl.1 rfl (Nat.le_of_ble_eq_true rfl) dX5_house_73 ⟨Nat.zero_le _, Nat.zero_le _⟩) hS (fun H locs hP hS => ?_)
              refine lv_pop hx hb dX5_house_76 rfl ?_
              refine lv_aload_n hx hb dX5_house_77 rfl (lv_at hl 0 rfl) ?_
              refine jr_get (k := 4) hx hb hts hown hK hP jb_0 (Nat.le_of_ble_eq_true rfl) jlX5_29 rfl dX5_house_78 ?_
              obtain ⟨M_5, e5, h⟩ := jh_b h
              refine jr_kv (jr_rv (As := []) (rest := []) S hK hP jb_12 rfl (m_X0_forget l X A hs M_4  M_5 e5) jw_X0_forget ji_X0_forget jmX5_87 rfl rfl ⟨(Nat.le_of_ble_eq_true rfl), (Nat.le_of_ble_eq_true rfl)⟩ rfl hl.1 rfl (Nat.le_of_ble_eq_true rfl) dX5_house_81 ⟨Nat.zero_le _, Nat.zero_le _⟩) hS (fun H locs hP hS => ?_)
              refine lv_aload_n hx hb dX5_house_84 rfl (lv_at hl 0 rfl) ?_
              refine jr_get (k := 0) hx hb hts hown hK hP jb_0 (Nat.le_of_ble_eq_true rfl) jlX5_12 rfl dX5_house_85 ?_
              refine jr_get (k := 0) hx hb hts hown hK hP jb_1 (Nat.le_of_ble_eq_true rfl) jlX5_148 rfl dX5_house_88 ?_
              refine lv_iconst (v := 1) hx hb dX5_house_91 jci_1 ?_
              refine lv_isub hx hb dX5_house_92 ?_
              exact je_mi hx hb hr hlocks hK hP hS h dX5_house_93
            · replace h := jh_t h c57
              refine lv_aload_n hx hb dX5_house_60 rfl (lv_at hl 0 rfl) ?_
              refine lv_iconst (v := (-1)) hx hb dX5_house_61 jci_m1 ?_
              obtain ⟨r6, M_6, e6, h⟩ := jh_b2 h
              refine jr_km (jr_rv (As := [.int (-1)]) (rest := []) S hK hP jb_0 rfl (m_X5_refuse l X A hs M (-1) r6 M_6 e6) jw_X5_refuse ji_X5_refuse jmX5_65 rfl rfl ⟨(Nat.le_of_ble_eq_true rfl), (Nat.le_of_ble_eq_true rfl)⟩ rfl hl.1 rfl (Nat.le_of_ble_eq_true rfl) dX5_house_62 ⟨Nat.zero_le _, Nat.zero_le _⟩) hS (fun H locs hP hS => ?_)
              exact je_mi hx hb hr hlocks hK hP hS h dX5_house_65
          · replace h := jh_f h c43
            refine lv_aload_n hx hb dX5_house_46 rfl (lv_at hl 0 rfl) ?_
            refine lv_bipush (v := (-6)) hx hb dX5_house_47 jcb_m6 ?_
            obtain ⟨r7, M_7, e7, h⟩ := jh_b2 h
            refine jr_km (jr_rv (As := [.int (-6)]) (rest := []) S hK hP jb_0 rfl (m_X5_refuse l X A hs M (-6) r7 M_7 e7) jw_X5_refuse ji_X5_refuse jmX5_65 rfl rfl ⟨(Nat.le_of_ble_eq_true rfl), (Nat.le_of_ble_eq_true rfl)⟩ rfl hl.1 rfl (Nat.le_of_ble_eq_true rfl) dX5_house_49 ⟨Nat.zero_le _, Nat.zero_le _⟩) hS (fun H locs hP hS => ?_)
            exact je_mi hx hb hr hlocks hK hP hS h dX5_house_52
      · replace h := jh_f h c18
        refine lv_aload_n hx hb dX5_house_21 rfl (lv_at hl 0 rfl) ?_
        refine lv_bipush (v := (-4)) hx hb dX5_house_22 jcb_m4 ?_
        obtain ⟨r8, M_8, e8, h⟩ := jh_b2 h
        refine jr_km (jr_rv (As := [.int (-4)]) (rest := []) S hK hP jb_0 rfl (m_X5_refuse l X A hs M (-4) r8 M_8 e8) jw_X5_refuse ji_X5_refuse jmX5_65 rfl rfl ⟨(Nat.le_of_ble_eq_true rfl), (Nat.le_of_ble_eq_true rfl)⟩ rfl hl.1 rfl (Nat.le_of_ble_eq_true rfl) dX5_house_24 ⟨Nat.zero_le _, Nat.zero_le _⟩) hS (fun H locs hP hS => ?_)
        exact je_mi hx hb hr hlocks hK hP hS h dX5_house_27
    · replace h := jh_f h c7
      refine lv_aload_n hx hb dX5_house_10 rfl (lv_at hl 0 rfl) ?_
      refine lv_bipush (v := (-2)) hx hb dX5_house_11 jcb_m2 ?_
      obtain ⟨r9, M_9, e9, h⟩ := jh_b2 h
      refine jr_km (jr_rv (As := [.int (-2)]) (rest := []) S hK hP jb_0 rfl (m_X5_refuse l X A hs M (-2) r9 M_9 e9) jw_X5_refuse ji_X5_refuse jmX5_65 rfl rfl ⟨(Nat.le_of_ble_eq_true rfl), (Nat.le_of_ble_eq_true rfl)⟩ rfl hl.1 rfl (Nat.le_of_ble_eq_true rfl) dX5_house_13 ⟨Nat.zero_le _, Nat.zero_le _⟩) hS (fun H locs hP hS => ?_)
      exact je_mi hx hb hr hlocks hK hP hS h dX5_house_16
def f_X5_walker (M : jm) (v1 : Int32) (v2 : Int32) (v3 : Int32) : Option (Int32 × jm) := (if (f_X5_isCell v1) = 0 then (jb2 (f_X5_refuse M (-1)) fun r2 M_2 => (some (r2, M_2))) else (if (f_X5_isCell v2) = 0 then (jb2 (f_X5_refuse M (-1)) fun r9 M_9 => (some (r9, M_9))) else (if 0 ≤ v3 then (if 2 < v3 then (jb2 (f_X5_refuse M (-6)) fun r4 M_4 => (some (r4, M_4))) else (if (M 1 5 0) < 6 then (jb2 (f_X4_addWalker M 1 v1 v2 v3) fun r5 M_5 => (jb (f_X0_forget M_5) fun M_6 => (some (((M_6 1 5 0) - 1), M_6)))) else (jb2 (f_X5_refuse M (-6)) fun r7 M_7 => (some (r7, M_7))))) else (jb2 (f_X5_refuse M (-4)) fun r8 M_8 => (some (r8, M_8))))))
set_option maxRecDepth 100000 in
theorem m_X5_walker (l : Launch) (X : jX) (A : Nat → Prop) (hs : jst X A) (M : jm) (v1 : Int32) (v2 : Int32) (v3 : Int32) (r : Int32) (N : jm) (h : f_X5_walker M v1 v2 v3 = some (r, N)) : Met l yX5_walker (jws yX5_walker cX5_walker 4 (some .int)) (jrm 2 43) (va_Pc [.ref (jO X 0), .int v1, .int v2, .int v3] (jB X M)) (jQm X A (some (.int r)) N) 0 0 A := by
  refine jm_of (by decide) (Nat.le_of_ble_eq_true rfl) ?_
  intro p e s m args below meth c ls S hr hlocks hB hl
  have S : CallFix p m c cX5_walker 4 s args jtb RX5 := S
  obtain ⟨hx, hb, hml, hown, hts⟩ := id S
  obtain ⟨hP, hK⟩ := hB
  have hN := hK.2
  have hS : va_S A s.heap s.heap [] := va_S.rf
  have hl : lv_has ls 4 [(0, .ref (jO X 0)), (1, .int v1), (2, .int v2), (3, .int v3)] := hl
  refine lv_iload_n hx hb dX5_walker_0 rfl (lv_at hl 1 rfl) ?_
  refine jr_kp (jr_rs (As := [.int v1]) (rest := []) S hN (m_X5_isCell l v1 _ rfl) jw_X5_isCell js_X5_isCell jmX5_151 rfl rfl ⟨(Nat.le_of_ble_eq_true rfl), (Nat.le_of_ble_eq_true rfl)⟩ rfl hl.1 rfl (Nat.le_of_ble_eq_true rfl) dX5_walker_1 ⟨Nat.zero_le _, Nat.zero_le _⟩) ?_
  refine lv_if_eq (tgt := 14) hx hb dX5_walker_4 rfl (fun c4 => ?_) (fun c4 => ?_)
  · replace h := jh_t h c4
    refine lv_aload_n hx hb dX5_walker_14 rfl (lv_at hl 0 rfl) ?_
    refine lv_iconst (v := (-1)) hx hb dX5_walker_15 jci_m1 ?_
    obtain ⟨r2, M_2, e2, h⟩ := jh_b2 h
    refine jr_km (jr_rv (As := [.int (-1)]) (rest := []) S hK hP jb_0 rfl (m_X5_refuse l X A hs M (-1) r2 M_2 e2) jw_X5_refuse ji_X5_refuse jmX5_65 rfl rfl ⟨(Nat.le_of_ble_eq_true rfl), (Nat.le_of_ble_eq_true rfl)⟩ rfl hl.1 rfl (Nat.le_of_ble_eq_true rfl) dX5_walker_16 ⟨Nat.zero_le _, Nat.zero_le _⟩) hS (fun H locs hP hS => ?_)
    exact je_mi hx hb hr hlocks hK hP hS h dX5_walker_19
  · replace h := jh_f h c4
    refine lv_iload_n hx hb dX5_walker_7 rfl (lv_at hl 2 rfl) ?_
    refine jr_kp (jr_rs (As := [.int v2]) (rest := []) S hN (m_X5_isCell l v2 _ rfl) jw_X5_isCell js_X5_isCell jmX5_151 rfl rfl ⟨(Nat.le_of_ble_eq_true rfl), (Nat.le_of_ble_eq_true rfl)⟩ rfl hl.1 rfl (Nat.le_of_ble_eq_true rfl) dX5_walker_8 ⟨Nat.zero_le _, Nat.zero_le _⟩) ?_
    refine lv_if_ne (tgt := 20) hx hb dX5_walker_11 rfl (fun c11 => ?_) (fun c11 => ?_)
    · replace h := jh_f h c11
      refine lv_iload_n hx hb dX5_walker_20 rfl (lv_at hl 3 rfl) ?_
      refine lv_if_ge (tgt := 31) hx hb dX5_walker_21 rfl (fun c21 => ?_) (fun c21 => ?_)
      · replace h := jh_t h c21
        refine lv_iload_n hx hb dX5_walker_31 rfl (lv_at hl 3 rfl) ?_
        refine lv_iconst (v := 2) hx hb dX5_walker_32 jci_2 ?_
        refine lv_icmp_gt (tgt := 48) hx hb dX5_walker_33 rfl (fun c33 => ?_) (fun c33 => ?_)
        · replace h := jh_t h c33
          refine lv_aload_n hx hb dX5_walker_48 rfl (lv_at hl 0 rfl) ?_
          refine lv_bipush (v := (-6)) hx hb dX5_walker_49 jcb_m6 ?_
          obtain ⟨r4, M_4, e4, h⟩ := jh_b2 h
          refine jr_km (jr_rv (As := [.int (-6)]) (rest := []) S hK hP jb_0 rfl (m_X5_refuse l X A hs M (-6) r4 M_4 e4) jw_X5_refuse ji_X5_refuse jmX5_65 rfl rfl ⟨(Nat.le_of_ble_eq_true rfl), (Nat.le_of_ble_eq_true rfl)⟩ rfl hl.1 rfl (Nat.le_of_ble_eq_true rfl) dX5_walker_51 ⟨Nat.zero_le _, Nat.zero_le _⟩) hS (fun H locs hP hS => ?_)
          exact je_mi hx hb hr hlocks hK hP hS h dX5_walker_54
        · replace h := jh_f h c33
          refine lv_aload_n hx hb dX5_walker_36 rfl (lv_at hl 0 rfl) ?_
          refine jr_get (k := 0) hx hb hts hown hK hP jb_0 (Nat.le_of_ble_eq_true rfl) jlX5_12 rfl dX5_walker_37 ?_
          refine jr_get (k := 5) hx hb hts hown hK hP jb_1 (Nat.le_of_ble_eq_true rfl) jlX5_158 rfl dX5_walker_40 ?_
          refine lv_bipush (v := 6) hx hb dX5_walker_43 jcb_6 ?_
          refine lv_icmp_lt (tgt := 55) hx hb dX5_walker_45 rfl (fun c45 => ?_) (fun c45 => ?_)
          · replace h := jh_t h c45
            refine lv_aload_n hx hb dX5_walker_55 rfl (lv_at hl 0 rfl) ?_
            refine jr_get (k := 0) hx hb hts hown hK hP jb_0 (Nat.le_of_ble_eq_true rfl) jlX5_12 rfl dX5_walker_56 ?_
            refine lv_iload_n hx hb dX5_walker_59 rfl (lv_at hl 1 rfl) ?_
            refine lv_iload_n hx hb dX5_walker_60 rfl (lv_at hl 2 rfl) ?_
            refine lv_iload_n hx hb dX5_walker_61 rfl (lv_at hl 3 rfl) ?_
            obtain ⟨r5, M_5, e5, h⟩ := jh_b2 h
            refine jr_km (jr_rv (As := [.int v1, .int v2, .int v3]) (rest := []) S hK hP jb_1 rfl (m_X4_addWalker l X A hs M jb_1 v1 v2 v3 r5 M_5 e5) jw_X4_addWalker ji_X4_addWalker jmX5_161 rfl rfl ⟨(Nat.le_of_ble_eq_true rfl), (Nat.le_of_ble_eq_true rfl)⟩ rfl hl.1 rfl (Nat.le_of_ble_eq_true rfl) dX5_walker_62 ⟨Nat.zero_le _, Nat.zero_le _⟩) hS (fun H locs hP hS => ?_)
            refine lv_pop hx hb dX5_walker_65 rfl ?_
            refine lv_aload_n hx hb dX5_walker_66 rfl (lv_at hl 0 rfl) ?_
            refine jr_get (k := 4) hx hb hts hown hK hP jb_0 (Nat.le_of_ble_eq_true rfl) jlX5_29 rfl dX5_walker_67 ?_
            obtain ⟨M_6, e6, h⟩ := jh_b h
            refine jr_kv (jr_rv (As := []) (rest := []) S hK hP jb_12 rfl (m_X0_forget l X A hs M_5  M_6 e6) jw_X0_forget ji_X0_forget jmX5_87 rfl rfl ⟨(Nat.le_of_ble_eq_true rfl), (Nat.le_of_ble_eq_true rfl)⟩ rfl hl.1 rfl (Nat.le_of_ble_eq_true rfl) dX5_walker_70 ⟨Nat.zero_le _, Nat.zero_le _⟩) hS (fun H locs hP hS => ?_)
            refine lv_aload_n hx hb dX5_walker_73 rfl (lv_at hl 0 rfl) ?_
            refine jr_get (k := 0) hx hb hts hown hK hP jb_0 (Nat.le_of_ble_eq_true rfl) jlX5_12 rfl dX5_walker_74 ?_
            refine jr_get (k := 5) hx hb hts hown hK hP jb_1 (Nat.le_of_ble_eq_true rfl) jlX5_158 rfl dX5_walker_77 ?_
            refine lv_iconst (v := 1) hx hb dX5_walker_80 jci_1 ?_
            refine lv_isub hx hb dX5_walker_81 ?_
            exact je_mi hx hb hr hlocks hK hP hS h dX5_walker_82
          · replace h := jh_f h c45
            refine lv_aload_n hx hb dX5_walker_48 rfl (lv_at hl 0 rfl) ?_
            refine lv_bipush (v := (-6)) hx hb dX5_walker_49 jcb_m6 ?_
            obtain ⟨r7, M_7, e7, h⟩ := jh_b2 h
            refine jr_km (jr_rv (As := [.int (-6)]) (rest := []) S hK hP jb_0 rfl (m_X5_refuse l X A hs M (-6) r7 M_7 e7) jw_X5_refuse ji_X5_refuse jmX5_65 rfl rfl ⟨(Nat.le_of_ble_eq_true rfl), (Nat.le_of_ble_eq_true rfl)⟩ rfl hl.1 rfl (Nat.le_of_ble_eq_true rfl) dX5_walker_51 ⟨Nat.zero_le _, Nat.zero_le _⟩) hS (fun H locs hP hS => ?_)
            exact je_mi hx hb hr hlocks hK hP hS h dX5_walker_54
      · replace h := jh_f h c21
        refine lv_aload_n hx hb dX5_walker_24 rfl (lv_at hl 0 rfl) ?_
        refine lv_bipush (v := (-4)) hx hb dX5_walker_25 jcb_m4 ?_
        obtain ⟨r8, M_8, e8, h⟩ := jh_b2 h
        refine jr_km (jr_rv (As := [.int (-4)]) (rest := []) S hK hP jb_0 rfl (m_X5_refuse l X A hs M (-4) r8 M_8 e8) jw_X5_refuse ji_X5_refuse jmX5_65 rfl rfl ⟨(Nat.le_of_ble_eq_true rfl), (Nat.le_of_ble_eq_true rfl)⟩ rfl hl.1 rfl (Nat.le_of_ble_eq_true rfl) dX5_walker_27 ⟨Nat.zero_le _, Nat.zero_le _⟩) hS (fun H locs hP hS => ?_)
        exact je_mi hx hb hr hlocks hK hP hS h dX5_walker_30
    · replace h := jh_t h c11
      refine lv_aload_n hx hb dX5_walker_14 rfl (lv_at hl 0 rfl) ?_
      refine lv_iconst (v := (-1)) hx hb dX5_walker_15 jci_m1 ?_
      obtain ⟨r9, M_9, e9, h⟩ := jh_b2 h
      refine jr_km (jr_rv (As := [.int (-1)]) (rest := []) S hK hP jb_0 rfl (m_X5_refuse l X A hs M (-1) r9 M_9 e9) jw_X5_refuse ji_X5_refuse jmX5_65 rfl rfl ⟨(Nat.le_of_ble_eq_true rfl), (Nat.le_of_ble_eq_true rfl)⟩ rfl hl.1 rfl (Nat.le_of_ble_eq_true rfl) dX5_walker_16 ⟨Nat.zero_le _, Nat.zero_le _⟩) hS (fun H locs hP hS => ?_)
      exact je_mi hx hb hr hlocks hK hP hS h dX5_walker_19
def f_X5_lights (M : jm) (v1 : Int32) : Option (Int32 × jm) := (if (f_X4_hasHouse M 1 v1) = 0 then (jb2 (f_X5_refuse M (-1)) fun r5 M_5 => (some (r5, M_5))) else (jb (f_X0_keep M 1) fun M_2 => (jb2 (f_X4_turn M_2 1 v1) fun r3 M_3 => (if (f_X4_isLit M_3 1 v1) = 0 then (some (0, M_3)) else (some (1, M_3))))))
set_option maxRecDepth 100000 in
theorem m_X5_lights (l : Launch) (X : jX) (A : Nat → Prop) (hs : jst X A) (M : jm) (v1 : Int32) (r : Int32) (N : jm) (h : f_X5_lights M v1 = some (r, N)) : Met l yX5_lights (jws yX5_lights cX5_lights 2 (some .int)) (jrm 3 82) (va_Pc [.ref (jO X 0), .int v1] (jB X M)) (jQm X A (some (.int r)) N) 0 0 A := by
  refine jm_of (by decide) (Nat.le_of_ble_eq_true rfl) ?_
  intro p e s m args below meth c ls S hr hlocks hB hl
  have S : CallFix p m c cX5_lights 2 s args jtb RX5 := S
  obtain ⟨hx, hb, hml, hown, hts⟩ := id S
  obtain ⟨hP, hK⟩ := hB
  have hN := hK.2
  have hS : va_S A s.heap s.heap [] := va_S.rf
  have hl : lv_has ls 2 [(0, .ref (jO X 0)), (1, .int v1)] := hl
  refine lv_aload_n hx hb dX5_lights_0 rfl (lv_at hl 0 rfl) ?_
  refine jr_get (k := 0) hx hb hts hown hK hP jb_0 (Nat.le_of_ble_eq_true rfl) jlX5_12 rfl dX5_lights_1 ?_
  refine lv_iload_n hx hb dX5_lights_4 rfl (lv_at hl 1 rfl) ?_
  refine jr_kp (jr_rv (As := [.int v1]) (rest := []) S hK hP jb_1 rfl (m_X4_hasHouse l X M jb_1 v1 _ rfl) jw_X4_hasHouse ji_X4_hasHouse jmX5_90 rfl rfl ⟨(Nat.le_of_ble_eq_true rfl), (Nat.le_of_ble_eq_true rfl)⟩ rfl hl.1 rfl (Nat.le_of_ble_eq_true rfl) dX5_lights_5 ⟨Nat.zero_le _, Nat.zero_le _⟩) ?_
  refine lv_if_ne (tgt := 17) hx hb dX5_lights_8 rfl (fun c8 => ?_) (fun c8 => ?_)
  · replace h := jh_f h c8
    refine lv_aload_n hx hb dX5_lights_17 rfl (lv_at hl 0 rfl) ?_
    refine jr_get (k := 4) hx hb hts hown hK hP jb_0 (Nat.le_of_ble_eq_true rfl) jlX5_29 rfl dX5_lights_18 ?_
    refine lv_aload_n hx hb dX5_lights_21 rfl (lv_at hl 0 rfl) ?_
    refine jr_get (k := 0) hx hb hts hown hK hP jb_0 (Nat.le_of_ble_eq_true rfl) jlX5_12 rfl dX5_lights_22 ?_
    obtain ⟨M_2, e2, h⟩ := jh_b h
    refine jr_kv (jr_rv (As := [.ref (jO X 1)]) (rest := []) S hK hP jb_12 rfl (m_X0_keep l X A hs M jb_1 M_2 e2) jw_X0_keep ji_X0_keep jmX5_164 rfl rfl ⟨(Nat.le_of_ble_eq_true rfl), (Nat.le_of_ble_eq_true rfl)⟩ rfl hl.1 rfl (Nat.le_of_ble_eq_true rfl) dX5_lights_25 ⟨Nat.zero_le _, Nat.zero_le _⟩) hS (fun H locs hP hS => ?_)
    refine lv_aload_n hx hb dX5_lights_28 rfl (lv_at hl 0 rfl) ?_
    refine jr_get (k := 0) hx hb hts hown hK hP jb_0 (Nat.le_of_ble_eq_true rfl) jlX5_12 rfl dX5_lights_29 ?_
    refine lv_iload_n hx hb dX5_lights_32 rfl (lv_at hl 1 rfl) ?_
    obtain ⟨r3, M_3, e3, h⟩ := jh_b2 h
    refine jr_km (jr_rv (As := [.int v1]) (rest := []) S hK hP jb_1 rfl (m_X4_turn l X A hs M_2 jb_1 v1 r3 M_3 e3) jw_X4_turn ji_X4_turn jmX5_167 rfl rfl ⟨(Nat.le_of_ble_eq_true rfl), (Nat.le_of_ble_eq_true rfl)⟩ rfl hl.1 rfl (Nat.le_of_ble_eq_true rfl) dX5_lights_33 ⟨Nat.zero_le _, Nat.zero_le _⟩) hS (fun H locs hP hS => ?_)
    refine lv_pop hx hb dX5_lights_36 rfl ?_
    refine lv_aload_n hx hb dX5_lights_37 rfl (lv_at hl 0 rfl) ?_
    refine jr_get (k := 0) hx hb hts hown hK hP jb_0 (Nat.le_of_ble_eq_true rfl) jlX5_12 rfl dX5_lights_38 ?_
    refine lv_iload_n hx hb dX5_lights_41 rfl (lv_at hl 1 rfl) ?_
    refine jr_kp (jr_rv (As := [.int v1]) (rest := []) S hK hP jb_1 rfl (m_X4_isLit l X M_3 jb_1 v1 _ rfl) jw_X4_isLit ji_X4_isLit jmX5_103 rfl rfl ⟨(Nat.le_of_ble_eq_true rfl), (Nat.le_of_ble_eq_true rfl)⟩ rfl hl.1 rfl (Nat.le_of_ble_eq_true rfl) dX5_lights_42 ⟨Nat.zero_le _, Nat.zero_le _⟩) ?_
    refine lv_if_eq (tgt := 52) hx hb dX5_lights_45 rfl (fun c45 => ?_) (fun c45 => ?_)
    · replace h := jh_t h c45
      refine lv_iconst (v := 0) hx hb dX5_lights_52 jci_0 ?_
      exact je_mi hx hb hr hlocks hK hP hS h dX5_lights_53
    · replace h := jh_f h c45
      refine lv_iconst (v := 1) hx hb dX5_lights_48 jci_1 ?_
      refine lv_goto (tgt := 53) hx hb dX5_lights_49 rfl ?_
      exact je_mi hx hb hr hlocks hK hP hS h dX5_lights_53
  · replace h := jh_t h c8
    refine lv_aload_n hx hb dX5_lights_11 rfl (lv_at hl 0 rfl) ?_
    refine lv_iconst (v := (-1)) hx hb dX5_lights_12 jci_m1 ?_
    obtain ⟨r5, M_5, e5, h⟩ := jh_b2 h
    refine jr_km (jr_rv (As := [.int (-1)]) (rest := []) S hK hP jb_0 rfl (m_X5_refuse l X A hs M (-1) r5 M_5 e5) jw_X5_refuse ji_X5_refuse jmX5_65 rfl rfl ⟨(Nat.le_of_ble_eq_true rfl), (Nat.le_of_ble_eq_true rfl)⟩ rfl hl.1 rfl (Nat.le_of_ble_eq_true rfl) dX5_lights_13 ⟨Nat.zero_le _, Nat.zero_le _⟩) hS (fun H locs hP hS => ?_)
    exact je_mi hx hb hr hlocks hK hP hS h dX5_lights_16
def f_X5_goals (M : jm) (v1 : Int32) (v2 : Int32) : Option (Int32 × jm) := (if (f_X4_hasWalker M 1 v1) = 0 then (jb2 (f_X5_refuse M (-1)) fun r2 M_2 => (some (r2, M_2))) else (if (f_X5_isCell v2) = 0 then (jb2 (f_X5_refuse M (-1)) fun r6 M_6 => (some (r6, M_6))) else (jgd v1 6 (jb (f_X0_keep M 1) fun M_4 => (jb2 (f_X4_aim M_4 1 v1 v2) fun r5 M_5 => (some ((M 1 7 (Int32.toNatClampNeg v1)), M_5)))))))
set_option maxRecDepth 100000 in
theorem m_X5_goals (l : Launch) (X : jX) (A : Nat → Prop) (hs : jst X A) (M : jm) (v1 : Int32) (v2 : Int32) (r : Int32) (N : jm) (h : f_X5_goals M v1 v2 = some (r, N)) : Met l yX5_goals (jws yX5_goals cX5_goals 4 (some .int)) (jrm 3 82) (va_Pc [.ref (jO X 0), .int v1, .int v2] (jB X M)) (jQm X A (some (.int r)) N) 0 0 A := by
  refine jm_of (by decide) (Nat.le_of_ble_eq_true rfl) ?_
  intro p e s m args below meth c ls S hr hlocks hB hl
  have S : CallFix p m c cX5_goals 4 s args jtb RX5 := S
  obtain ⟨hx, hb, hml, hown, hts⟩ := id S
  obtain ⟨hP, hK⟩ := hB
  have hN := hK.2
  have hS : va_S A s.heap s.heap [] := va_S.rf
  have hl : lv_has ls 4 [(0, .ref (jO X 0)), (1, .int v1), (2, .int v2)] := hl
  refine lv_aload_n hx hb dX5_goals_0 rfl (lv_at hl 0 rfl) ?_
  refine jr_get (k := 0) hx hb hts hown hK hP jb_0 (Nat.le_of_ble_eq_true rfl) jlX5_12 rfl dX5_goals_1 ?_
  refine lv_iload_n hx hb dX5_goals_4 rfl (lv_at hl 1 rfl) ?_
  refine jr_kp (jr_rv (As := [.int v1]) (rest := []) S hK hP jb_1 rfl (m_X4_hasWalker l X M jb_1 v1 _ rfl) jw_X4_hasWalker ji_X4_hasWalker jmX5_119 rfl rfl ⟨(Nat.le_of_ble_eq_true rfl), (Nat.le_of_ble_eq_true rfl)⟩ rfl hl.1 rfl (Nat.le_of_ble_eq_true rfl) dX5_goals_5 ⟨Nat.zero_le _, Nat.zero_le _⟩) ?_
  refine lv_if_eq (tgt := 18) hx hb dX5_goals_8 rfl (fun c8 => ?_) (fun c8 => ?_)
  · replace h := jh_t h c8
    refine lv_aload_n hx hb dX5_goals_18 rfl (lv_at hl 0 rfl) ?_
    refine lv_iconst (v := (-1)) hx hb dX5_goals_19 jci_m1 ?_
    obtain ⟨r2, M_2, e2, h⟩ := jh_b2 h
    refine jr_km (jr_rv (As := [.int (-1)]) (rest := []) S hK hP jb_0 rfl (m_X5_refuse l X A hs M (-1) r2 M_2 e2) jw_X5_refuse ji_X5_refuse jmX5_65 rfl rfl ⟨(Nat.le_of_ble_eq_true rfl), (Nat.le_of_ble_eq_true rfl)⟩ rfl hl.1 rfl (Nat.le_of_ble_eq_true rfl) dX5_goals_20 ⟨Nat.zero_le _, Nat.zero_le _⟩) hS (fun H locs hP hS => ?_)
    exact je_mi hx hb hr hlocks hK hP hS h dX5_goals_23
  · replace h := jh_f h c8
    refine lv_iload_n hx hb dX5_goals_11 rfl (lv_at hl 2 rfl) ?_
    refine jr_kp (jr_rs (As := [.int v2]) (rest := []) S hN (m_X5_isCell l v2 _ rfl) jw_X5_isCell js_X5_isCell jmX5_151 rfl rfl ⟨(Nat.le_of_ble_eq_true rfl), (Nat.le_of_ble_eq_true rfl)⟩ rfl hl.1 rfl (Nat.le_of_ble_eq_true rfl) dX5_goals_12 ⟨Nat.zero_le _, Nat.zero_le _⟩) ?_
    refine lv_if_ne (tgt := 24) hx hb dX5_goals_15 rfl (fun c15 => ?_) (fun c15 => ?_)
    · replace h := jh_f h c15
      refine lv_aload_n hx hb dX5_goals_24 rfl (lv_at hl 0 rfl) ?_
      refine jr_get (k := 0) hx hb hts hown hK hP jb_0 (Nat.le_of_ble_eq_true rfl) jlX5_12 rfl dX5_goals_25 ?_
      refine jr_get (k := 7) hx hb hts hown hK hP jb_1 (Nat.le_of_ble_eq_true rfl) jlX5_125 rfl dX5_goals_28 ?_
      refine lv_iload_n hx hb dX5_goals_31 rfl (lv_at hl 1 rfl) ?_
      obtain ⟨g32, h⟩ := jh_gd h
      refine jr_ald (n := 6) hx hb hK hP jb_1 rfl g32 dX5_goals_32 ?_
      refine lv_istore_n (lv' := [(3, .int (M 1 7 (Int32.toNatClampNeg v1))), (0, .ref (jO X 0)), (1, .int v1), (2, .int v2)]) hx hb dX5_goals_33 rfl hl (Nat.le_of_ble_eq_true rfl) rfl (fun ls hl => ?_)
      refine lv_aload_n hx hb dX5_goals_34 rfl (lv_at hl 1 rfl) ?_
      refine jr_get (k := 4) hx hb hts hown hK hP jb_0 (Nat.le_of_ble_eq_true rfl) jlX5_29 rfl dX5_goals_35 ?_
      refine lv_aload_n hx hb dX5_goals_38 rfl (lv_at hl 1 rfl) ?_
      refine jr_get (k := 0) hx hb hts hown hK hP jb_0 (Nat.le_of_ble_eq_true rfl) jlX5_12 rfl dX5_goals_39 ?_
      obtain ⟨M_4, e4, h⟩ := jh_b h
      refine jr_kv (jr_rv (As := [.ref (jO X 1)]) (rest := []) S hK hP jb_12 rfl (m_X0_keep l X A hs M jb_1 M_4 e4) jw_X0_keep ji_X0_keep jmX5_164 rfl rfl ⟨(Nat.le_of_ble_eq_true rfl), (Nat.le_of_ble_eq_true rfl)⟩ rfl hl.1 rfl (Nat.le_of_ble_eq_true rfl) dX5_goals_42 ⟨Nat.zero_le _, Nat.zero_le _⟩) hS (fun H locs hP hS => ?_)
      refine lv_aload_n hx hb dX5_goals_45 rfl (lv_at hl 1 rfl) ?_
      refine jr_get (k := 0) hx hb hts hown hK hP jb_0 (Nat.le_of_ble_eq_true rfl) jlX5_12 rfl dX5_goals_46 ?_
      refine lv_iload_n hx hb dX5_goals_49 rfl (lv_at hl 2 rfl) ?_
      refine lv_iload_n hx hb dX5_goals_50 rfl (lv_at hl 3 rfl) ?_
      obtain ⟨r5, M_5, e5, h⟩ := jh_b2 h
      refine jr_km (jr_rv (As := [.int v1, .int v2]) (rest := []) S hK hP jb_1 rfl (m_X4_aim l X A hs M_4 jb_1 v1 v2 r5 M_5 e5) jw_X4_aim ji_X4_aim jmX5_170 rfl rfl ⟨(Nat.le_of_ble_eq_true rfl), (Nat.le_of_ble_eq_true rfl)⟩ rfl hl.1 rfl (Nat.le_of_ble_eq_true rfl) dX5_goals_51 ⟨Nat.zero_le _, Nat.zero_le _⟩) hS (fun H locs hP hS => ?_)
      refine lv_pop hx hb dX5_goals_54 rfl ?_
      refine lv_iload_n hx hb dX5_goals_55 rfl (lv_at hl 0 rfl) ?_
      exact je_mi hx hb hr hlocks hK hP hS h dX5_goals_56
    · replace h := jh_t h c15
      refine lv_aload_n hx hb dX5_goals_18 rfl (lv_at hl 0 rfl) ?_
      refine lv_iconst (v := (-1)) hx hb dX5_goals_19 jci_m1 ?_
      obtain ⟨r6, M_6, e6, h⟩ := jh_b2 h
      refine jr_km (jr_rv (As := [.int (-1)]) (rest := []) S hK hP jb_0 rfl (m_X5_refuse l X A hs M (-1) r6 M_6 e6) jw_X5_refuse ji_X5_refuse jmX5_65 rfl rfl ⟨(Nat.le_of_ble_eq_true rfl), (Nat.le_of_ble_eq_true rfl)⟩ rfl hl.1 rfl (Nat.le_of_ble_eq_true rfl) dX5_goals_20 ⟨Nat.zero_le _, Nat.zero_le _⟩) hS (fun H locs hP hS => ?_)
      exact je_mi hx hb hr hlocks hK hP hS h dX5_goals_23
def f_X5_visits (M : jm) (v1 : Int32) (v2 : Int32) : Option (Int32 × jm) := (if (f_X4_hasWalker M 1 v1) = 0 then (jb2 (f_X5_refuse M (-1)) fun r2 M_2 => (some (r2, M_2))) else (if (f_X4_hasHouse M 1 v2) = 0 then (jb2 (f_X5_refuse M (-1)) fun r10 M_10 => (some (r10, M_10))) else (jb (f_X4_owes M 1 v1 v2) fun r4 => (if r4 = 0 then (jb2 (f_X5_refuse M (-3)) fun r5 M_5 => (some (r5, M_5))) else (jgd v1 6 (jgd v2 8 (if (M 1 6 (Int32.toNatClampNeg v1)) = (M 1 3 (Int32.toNatClampNeg v2)) then (jb (f_X4_minutesBehind M 1 v1 v2 0) fun r6 => (jb (f_X0_keep M 1) fun M_7 => (jb (f_X4_setDebt M_7 1 v1 v2 (-1)) fun M_8 => (some (r6, M_8))))) else (jb2 (f_X5_refuse M (-3)) fun r9 M_9 => (some (r9, M_9))))))))))
set_option maxRecDepth 100000 in
theorem m_X5_visits (l : Launch) (X : jX) (A : Nat → Prop) (hs : jst X A) (M : jm) (v1 : Int32) (v2 : Int32) (r : Int32) (N : jm) (h : f_X5_visits M v1 v2 = some (r, N)) : Met l yX5_visits (jws yX5_visits cX5_visits 4 (some .int)) (jrm 5 119) (va_Pc [.ref (jO X 0), .int v1, .int v2] (jB X M)) (jQm X A (some (.int r)) N) 0 0 A := by
  refine jm_of (by decide) (Nat.le_of_ble_eq_true rfl) ?_
  intro p e s m args below meth c ls S hr hlocks hB hl
  have S : CallFix p m c cX5_visits 4 s args jtb RX5 := S
  obtain ⟨hx, hb, hml, hown, hts⟩ := id S
  obtain ⟨hP, hK⟩ := hB
  have hN := hK.2
  have hS : va_S A s.heap s.heap [] := va_S.rf
  have hl : lv_has ls 4 [(0, .ref (jO X 0)), (1, .int v1), (2, .int v2)] := hl
  refine lv_aload_n hx hb dX5_visits_0 rfl (lv_at hl 0 rfl) ?_
  refine jr_get (k := 0) hx hb hts hown hK hP jb_0 (Nat.le_of_ble_eq_true rfl) jlX5_12 rfl dX5_visits_1 ?_
  refine lv_iload_n hx hb dX5_visits_4 rfl (lv_at hl 1 rfl) ?_
  refine jr_kp (jr_rv (As := [.int v1]) (rest := []) S hK hP jb_1 rfl (m_X4_hasWalker l X M jb_1 v1 _ rfl) jw_X4_hasWalker ji_X4_hasWalker jmX5_119 rfl rfl ⟨(Nat.le_of_ble_eq_true rfl), (Nat.le_of_ble_eq_true rfl)⟩ rfl hl.1 rfl (Nat.le_of_ble_eq_true rfl) dX5_visits_5 ⟨Nat.zero_le _, Nat.zero_le _⟩) ?_
  refine lv_if_eq (tgt := 22) hx hb dX5_visits_8 rfl (fun c8 => ?_) (fun c8 => ?_)
  · replace h := jh_t h c8
    refine lv_aload_n hx hb dX5_visits_22 rfl (lv_at hl 0 rfl) ?_
    refine lv_iconst (v := (-1)) hx hb dX5_visits_23 jci_m1 ?_
    obtain ⟨r2, M_2, e2, h⟩ := jh_b2 h
    refine jr_km (jr_rv (As := [.int (-1)]) (rest := []) S hK hP jb_0 rfl (m_X5_refuse l X A hs M (-1) r2 M_2 e2) jw_X5_refuse ji_X5_refuse jmX5_65 rfl rfl ⟨(Nat.le_of_ble_eq_true rfl), (Nat.le_of_ble_eq_true rfl)⟩ rfl hl.1 rfl (Nat.le_of_ble_eq_true rfl) dX5_visits_24 ⟨Nat.zero_le _, Nat.zero_le _⟩) hS (fun H locs hP hS => ?_)
    exact je_mi hx hb hr hlocks hK hP hS h dX5_visits_27
  · replace h := jh_f h c8
    refine lv_aload_n hx hb dX5_visits_11 rfl (lv_at hl 0 rfl) ?_
    refine jr_get (k := 0) hx hb hts hown hK hP jb_0 (Nat.le_of_ble_eq_true rfl) jlX5_12 rfl dX5_visits_12 ?_
    refine lv_iload_n hx hb dX5_visits_15 rfl (lv_at hl 2 rfl) ?_
    refine jr_kp (jr_rv (As := [.int v2]) (rest := []) S hK hP jb_1 rfl (m_X4_hasHouse l X M jb_1 v2 _ rfl) jw_X4_hasHouse ji_X4_hasHouse jmX5_90 rfl rfl ⟨(Nat.le_of_ble_eq_true rfl), (Nat.le_of_ble_eq_true rfl)⟩ rfl hl.1 rfl (Nat.le_of_ble_eq_true rfl) dX5_visits_16 ⟨Nat.zero_le _, Nat.zero_le _⟩) ?_
    refine lv_if_ne (tgt := 28) hx hb dX5_visits_19 rfl (fun c19 => ?_) (fun c19 => ?_)
    · replace h := jh_f h c19
      refine lv_aload_n hx hb dX5_visits_28 rfl (lv_at hl 0 rfl) ?_
      refine jr_get (k := 0) hx hb hts hown hK hP jb_0 (Nat.le_of_ble_eq_true rfl) jlX5_12 rfl dX5_visits_29 ?_
      refine lv_iload_n hx hb dX5_visits_32 rfl (lv_at hl 1 rfl) ?_
      refine lv_iload_n hx hb dX5_visits_33 rfl (lv_at hl 2 rfl) ?_
      obtain ⟨r4, e4, h⟩ := jh_b h
      refine jr_kp (jr_rv (As := [.int v1, .int v2]) (rest := []) S hK hP jb_1 rfl (m_X4_owes l X M jb_1 v1 v2 r4 e4) jw_X4_owes ji_X4_owes jmX5_140 rfl rfl ⟨(Nat.le_of_ble_eq_true rfl), (Nat.le_of_ble_eq_true rfl)⟩ rfl hl.1 rfl (Nat.le_of_ble_eq_true rfl) dX5_visits_34 ⟨Nat.zero_le _, Nat.zero_le _⟩) ?_
      refine lv_if_eq (tgt := 61) hx hb dX5_visits_37 rfl (fun c37 => ?_) (fun c37 => ?_)
      · replace h := jh_t h c37
        refine lv_aload_n hx hb dX5_visits_61 rfl (lv_at hl 0 rfl) ?_
        refine lv_bipush (v := (-3)) hx hb dX5_visits_62 jcb_m3 ?_
        obtain ⟨r5, M_5, e5, h⟩ := jh_b2 h
        refine jr_km (jr_rv (As := [.int (-3)]) (rest := []) S hK hP jb_0 rfl (m_X5_refuse l X A hs M (-3) r5 M_5 e5) jw_X5_refuse ji_X5_refuse jmX5_65 rfl rfl ⟨(Nat.le_of_ble_eq_true rfl), (Nat.le_of_ble_eq_true rfl)⟩ rfl hl.1 rfl (Nat.le_of_ble_eq_true rfl) dX5_visits_64 ⟨Nat.zero_le _, Nat.zero_le _⟩) hS (fun H locs hP hS => ?_)
        exact je_mi hx hb hr hlocks hK hP hS h dX5_visits_67
      · replace h := jh_f h c37
        refine lv_aload_n hx hb dX5_visits_40 rfl (lv_at hl 0 rfl) ?_
        refine jr_get (k := 0) hx hb hts hown hK hP jb_0 (Nat.le_of_ble_eq_true rfl) jlX5_12 rfl dX5_visits_41 ?_
        refine jr_get (k := 6) hx hb hts hown hK hP jb_1 (Nat.le_of_ble_eq_true rfl) jlX5_122 rfl dX5_visits_44 ?_
        refine lv_iload_n hx hb dX5_visits_47 rfl (lv_at hl 1 rfl) ?_
        obtain ⟨g48, h⟩ := jh_gd h
        refine jr_ald (n := 6) hx hb hK hP jb_1 rfl g48 dX5_visits_48 ?_
        refine lv_aload_n hx hb dX5_visits_49 rfl (lv_at hl 0 rfl) ?_
        refine jr_get (k := 0) hx hb hts hown hK hP jb_0 (Nat.le_of_ble_eq_true rfl) jlX5_12 rfl dX5_visits_50 ?_
        refine jr_get (k := 3) hx hb hts hown hK hP jb_1 (Nat.le_of_ble_eq_true rfl) jlX5_100 rfl dX5_visits_53 ?_
        refine lv_iload_n hx hb dX5_visits_56 rfl (lv_at hl 2 rfl) ?_
        obtain ⟨g57, h⟩ := jh_gd h
        refine jr_ald (n := 8) hx hb hK hP jb_1 rfl g57 dX5_visits_57 ?_
        refine lv_icmp_eq (tgt := 68) hx hb dX5_visits_58 rfl (fun c58 => ?_) (fun c58 => ?_)
        · replace h := jh_t h c58
          refine lv_aload_n hx hb dX5_visits_68 rfl (lv_at hl 0 rfl) ?_
          refine jr_get (k := 0) hx hb hts hown hK hP jb_0 (Nat.le_of_ble_eq_true rfl) jlX5_12 rfl dX5_visits_69 ?_
          refine lv_iload_n hx hb dX5_visits_72 rfl (lv_at hl 1 rfl) ?_
          refine lv_iload_n hx hb dX5_visits_73 rfl (lv_at hl 2 rfl) ?_
          refine lv_iconst (v := 0) hx hb dX5_visits_74 jci_0 ?_
          obtain ⟨r6, e6, h⟩ := jh_b h
          refine jr_kp (jr_rv (As := [.int v1, .int v2, .int 0]) (rest := []) S hK hP jb_1 rfl (m_X4_minutesBehind l X M jb_1 v1 v2 0 r6 e6) jw_X4_minutesBehind ji_X4_minutesBehind jmX5_173 rfl rfl ⟨(Nat.le_of_ble_eq_true rfl), (Nat.le_of_ble_eq_true rfl)⟩ rfl hl.1 rfl (Nat.le_of_ble_eq_true rfl) dX5_visits_75 ⟨Nat.zero_le _, Nat.zero_le _⟩) ?_
          refine lv_istore_n (lv' := [(3, .int r6), (0, .ref (jO X 0)), (1, .int v1), (2, .int v2)]) hx hb dX5_visits_78 rfl hl (Nat.le_of_ble_eq_true rfl) rfl (fun ls hl => ?_)
          refine lv_aload_n hx hb dX5_visits_79 rfl (lv_at hl 1 rfl) ?_
          refine jr_get (k := 4) hx hb hts hown hK hP jb_0 (Nat.le_of_ble_eq_true rfl) jlX5_29 rfl dX5_visits_80 ?_
          refine lv_aload_n hx hb dX5_visits_83 rfl (lv_at hl 1 rfl) ?_
          refine jr_get (k := 0) hx hb hts hown hK hP jb_0 (Nat.le_of_ble_eq_true rfl) jlX5_12 rfl dX5_visits_84 ?_
          obtain ⟨M_7, e7, h⟩ := jh_b h
          refine jr_kv (jr_rv (As := [.ref (jO X 1)]) (rest := []) S hK hP jb_12 rfl (m_X0_keep l X A hs M jb_1 M_7 e7) jw_X0_keep ji_X0_keep jmX5_164 rfl rfl ⟨(Nat.le_of_ble_eq_true rfl), (Nat.le_of_ble_eq_true rfl)⟩ rfl hl.1 rfl (Nat.le_of_ble_eq_true rfl) dX5_visits_87 ⟨Nat.zero_le _, Nat.zero_le _⟩) hS (fun H locs hP hS => ?_)
          refine lv_aload_n hx hb dX5_visits_90 rfl (lv_at hl 1 rfl) ?_
          refine jr_get (k := 0) hx hb hts hown hK hP jb_0 (Nat.le_of_ble_eq_true rfl) jlX5_12 rfl dX5_visits_91 ?_
          refine lv_iload_n hx hb dX5_visits_94 rfl (lv_at hl 2 rfl) ?_
          refine lv_iload_n hx hb dX5_visits_95 rfl (lv_at hl 3 rfl) ?_
          refine lv_iconst (v := (-1)) hx hb dX5_visits_96 jci_m1 ?_
          obtain ⟨M_8, e8, h⟩ := jh_b h
          refine jr_kv (jr_rv (As := [.int v1, .int v2, .int (-1)]) (rest := []) S hK hP jb_1 rfl (m_X4_setDebt l X A hs M_7 jb_1 v1 v2 (-1) M_8 e8) jw_X4_setDebt ji_X4_setDebt jmX5_176 rfl rfl ⟨(Nat.le_of_ble_eq_true rfl), (Nat.le_of_ble_eq_true rfl)⟩ rfl hl.1 rfl (Nat.le_of_ble_eq_true rfl) dX5_visits_97 ⟨Nat.zero_le _, Nat.zero_le _⟩) hS (fun H locs hP hS => ?_)
          refine lv_iload_n hx hb dX5_visits_100 rfl (lv_at hl 0 rfl) ?_
          exact je_mi hx hb hr hlocks hK hP hS h dX5_visits_101
        · replace h := jh_f h c58
          refine lv_aload_n hx hb dX5_visits_61 rfl (lv_at hl 0 rfl) ?_
          refine lv_bipush (v := (-3)) hx hb dX5_visits_62 jcb_m3 ?_
          obtain ⟨r9, M_9, e9, h⟩ := jh_b2 h
          refine jr_km (jr_rv (As := [.int (-3)]) (rest := []) S hK hP jb_0 rfl (m_X5_refuse l X A hs M (-3) r9 M_9 e9) jw_X5_refuse ji_X5_refuse jmX5_65 rfl rfl ⟨(Nat.le_of_ble_eq_true rfl), (Nat.le_of_ble_eq_true rfl)⟩ rfl hl.1 rfl (Nat.le_of_ble_eq_true rfl) dX5_visits_64 ⟨Nat.zero_le _, Nat.zero_le _⟩) hS (fun H locs hP hS => ?_)
          exact je_mi hx hb hr hlocks hK hP hS h dX5_visits_67
    · replace h := jh_t h c19
      refine lv_aload_n hx hb dX5_visits_22 rfl (lv_at hl 0 rfl) ?_
      refine lv_iconst (v := (-1)) hx hb dX5_visits_23 jci_m1 ?_
      obtain ⟨r10, M_10, e10, h⟩ := jh_b2 h
      refine jr_km (jr_rv (As := [.int (-1)]) (rest := []) S hK hP jb_0 rfl (m_X5_refuse l X A hs M (-1) r10 M_10 e10) jw_X5_refuse ji_X5_refuse jmX5_65 rfl rfl ⟨(Nat.le_of_ble_eq_true rfl), (Nat.le_of_ble_eq_true rfl)⟩ rfl hl.1 rfl (Nat.le_of_ble_eq_true rfl) dX5_visits_24 ⟨Nat.zero_le _, Nat.zero_le _⟩) hS (fun H locs hP hS => ?_)
      exact je_mi hx hb hr hlocks hK hP hS h dX5_visits_27
def f_X5_trades (M : jm) (v1 : Int32) (v2 : Int32) (v3 : Int32) : Option (Int32 × jm) := (if (f_X4_hasHouse M 1 v1) = 0 then (jb2 (f_X5_refuse M (-1)) fun r2 M_2 => (some (r2, M_2))) else (if (f_X4_hasWalker M 1 v2) = 0 then (jb2 (f_X5_refuse M (-1)) fun r4 M_4 => (some (r4, M_4))) else (if (f_X4_hasWalker M 1 v3) = 0 then (jb2 (f_X5_refuse M (-1)) fun r15 M_15 => (some (r15, M_15))) else (if v2 = v3 then (jb2 (f_X5_refuse M (-1)) fun r14 M_14 => (some (r14, M_14))) else (jb (f_X4_owes M 1 v2 v1) fun r6 => (if r6 = 0 then (jb2 (f_X5_refuse M (-3)) fun r7 M_7 => (some (r7, M_7))) else (jb (f_X4_owes M 1 v3 v1) fun r8 => (if r8 = 0 then (jb (f_X4_ageBehind M 1 v2 v1 0) fun r9 => (jb (f_X0_keep M 1) fun M_10 => (jb (f_X4_setDebt M_10 1 v2 v1 (-1)) fun M_11 => (jb (f_X4_setDebt M_11 1 v3 v1 r9) fun M_12 => (some (r9, M_12)))))) else (jb2 (f_X5_refuse M (-3)) fun r13 M_13 => (some (r13, M_13)))))))))))
set_option maxRecDepth 100000 in
theorem m_X5_trades (l : Launch) (X : jX) (A : Nat → Prop) (hs : jst X A) (M : jm) (v1 : Int32) (v2 : Int32) (v3 : Int32) (r : Int32) (N : jm) (h : f_X5_trades M v1 v2 v3 = some (r, N)) : Met l yX5_trades (jws yX5_trades cX5_trades 5 (some .int)) (jrm 4 95) (va_Pc [.ref (jO X 0), .int v1, .int v2, .int v3] (jB X M)) (jQm X A (some (.int r)) N) 0 0 A := by
  refine jm_of (by decide) (Nat.le_of_ble_eq_true rfl) ?_
  intro p e s m args below meth c ls S hr hlocks hB hl
  have S : CallFix p m c cX5_trades 5 s args jtb RX5 := S
  obtain ⟨hx, hb, hml, hown, hts⟩ := id S
  obtain ⟨hP, hK⟩ := hB
  have hN := hK.2
  have hS : va_S A s.heap s.heap [] := va_S.rf
  have hl : lv_has ls 5 [(0, .ref (jO X 0)), (1, .int v1), (2, .int v2), (3, .int v3)] := hl
  refine lv_aload_n hx hb dX5_trades_0 rfl (lv_at hl 0 rfl) ?_
  refine jr_get (k := 0) hx hb hts hown hK hP jb_0 (Nat.le_of_ble_eq_true rfl) jlX5_12 rfl dX5_trades_1 ?_
  refine lv_iload_n hx hb dX5_trades_4 rfl (lv_at hl 1 rfl) ?_
  refine jr_kp (jr_rv (As := [.int v1]) (rest := []) S hK hP jb_1 rfl (m_X4_hasHouse l X M jb_1 v1 _ rfl) jw_X4_hasHouse ji_X4_hasHouse jmX5_90 rfl rfl ⟨(Nat.le_of_ble_eq_true rfl), (Nat.le_of_ble_eq_true rfl)⟩ rfl hl.1 rfl (Nat.le_of_ble_eq_true rfl) dX5_trades_5 ⟨Nat.zero_le _, Nat.zero_le _⟩) ?_
  refine lv_if_eq (tgt := 33) hx hb dX5_trades_8 rfl (fun c8 => ?_) (fun c8 => ?_)
  · replace h := jh_t h c8
    refine lv_aload_n hx hb dX5_trades_33 rfl (lv_at hl 0 rfl) ?_
    refine lv_iconst (v := (-1)) hx hb dX5_trades_34 jci_m1 ?_
    obtain ⟨r2, M_2, e2, h⟩ := jh_b2 h
    refine jr_km (jr_rv (As := [.int (-1)]) (rest := []) S hK hP jb_0 rfl (m_X5_refuse l X A hs M (-1) r2 M_2 e2) jw_X5_refuse ji_X5_refuse jmX5_65 rfl rfl ⟨(Nat.le_of_ble_eq_true rfl), (Nat.le_of_ble_eq_true rfl)⟩ rfl hl.1 rfl (Nat.le_of_ble_eq_true rfl) dX5_trades_35 ⟨Nat.zero_le _, Nat.zero_le _⟩) hS (fun H locs hP hS => ?_)
    exact je_mi hx hb hr hlocks hK hP hS h dX5_trades_38
  · replace h := jh_f h c8
    refine lv_aload_n hx hb dX5_trades_11 rfl (lv_at hl 0 rfl) ?_
    refine jr_get (k := 0) hx hb hts hown hK hP jb_0 (Nat.le_of_ble_eq_true rfl) jlX5_12 rfl dX5_trades_12 ?_
    refine lv_iload_n hx hb dX5_trades_15 rfl (lv_at hl 2 rfl) ?_
    refine jr_kp (jr_rv (As := [.int v2]) (rest := []) S hK hP jb_1 rfl (m_X4_hasWalker l X M jb_1 v2 _ rfl) jw_X4_hasWalker ji_X4_hasWalker jmX5_119 rfl rfl ⟨(Nat.le_of_ble_eq_true rfl), (Nat.le_of_ble_eq_true rfl)⟩ rfl hl.1 rfl (Nat.le_of_ble_eq_true rfl) dX5_trades_16 ⟨Nat.zero_le _, Nat.zero_le _⟩) ?_
    refine lv_if_eq (tgt := 33) hx hb dX5_trades_19 rfl (fun c19 => ?_) (fun c19 => ?_)
    · replace h := jh_t h c19
      refine lv_aload_n hx hb dX5_trades_33 rfl (lv_at hl 0 rfl) ?_
      refine lv_iconst (v := (-1)) hx hb dX5_trades_34 jci_m1 ?_
      obtain ⟨r4, M_4, e4, h⟩ := jh_b2 h
      refine jr_km (jr_rv (As := [.int (-1)]) (rest := []) S hK hP jb_0 rfl (m_X5_refuse l X A hs M (-1) r4 M_4 e4) jw_X5_refuse ji_X5_refuse jmX5_65 rfl rfl ⟨(Nat.le_of_ble_eq_true rfl), (Nat.le_of_ble_eq_true rfl)⟩ rfl hl.1 rfl (Nat.le_of_ble_eq_true rfl) dX5_trades_35 ⟨Nat.zero_le _, Nat.zero_le _⟩) hS (fun H locs hP hS => ?_)
      exact je_mi hx hb hr hlocks hK hP hS h dX5_trades_38
    · replace h := jh_f h c19
      refine lv_aload_n hx hb dX5_trades_22 rfl (lv_at hl 0 rfl) ?_
      refine jr_get (k := 0) hx hb hts hown hK hP jb_0 (Nat.le_of_ble_eq_true rfl) jlX5_12 rfl dX5_trades_23 ?_
      refine lv_iload_n hx hb dX5_trades_26 rfl (lv_at hl 3 rfl) ?_
      refine jr_kp (jr_rv (As := [.int v3]) (rest := []) S hK hP jb_1 rfl (m_X4_hasWalker l X M jb_1 v3 _ rfl) jw_X4_hasWalker ji_X4_hasWalker jmX5_119 rfl rfl ⟨(Nat.le_of_ble_eq_true rfl), (Nat.le_of_ble_eq_true rfl)⟩ rfl hl.1 rfl (Nat.le_of_ble_eq_true rfl) dX5_trades_27 ⟨Nat.zero_le _, Nat.zero_le _⟩) ?_
      refine lv_if_ne (tgt := 39) hx hb dX5_trades_30 rfl (fun c30 => ?_) (fun c30 => ?_)
      · replace h := jh_f h c30
        refine lv_iload_n hx hb dX5_trades_39 rfl (lv_at hl 2 rfl) ?_
        refine lv_iload_n hx hb dX5_trades_40 rfl (lv_at hl 3 rfl) ?_
        refine lv_icmp_ne (tgt := 50) hx hb dX5_trades_41 rfl (fun c41 => ?_) (fun c41 => ?_)
        · replace h := jh_f h c41
          refine lv_aload_n hx hb dX5_trades_50 rfl (lv_at hl 0 rfl) ?_
          refine jr_get (k := 0) hx hb hts hown hK hP jb_0 (Nat.le_of_ble_eq_true rfl) jlX5_12 rfl dX5_trades_51 ?_
          refine lv_iload_n hx hb dX5_trades_54 rfl (lv_at hl 2 rfl) ?_
          refine lv_iload_n hx hb dX5_trades_55 rfl (lv_at hl 1 rfl) ?_
          obtain ⟨r6, e6, h⟩ := jh_b h
          refine jr_kp (jr_rv (As := [.int v2, .int v1]) (rest := []) S hK hP jb_1 rfl (m_X4_owes l X M jb_1 v2 v1 r6 e6) jw_X4_owes ji_X4_owes jmX5_140 rfl rfl ⟨(Nat.le_of_ble_eq_true rfl), (Nat.le_of_ble_eq_true rfl)⟩ rfl hl.1 rfl (Nat.le_of_ble_eq_true rfl) dX5_trades_56 ⟨Nat.zero_le _, Nat.zero_le _⟩) ?_
          refine lv_if_eq (tgt := 74) hx hb dX5_trades_59 rfl (fun c59 => ?_) (fun c59 => ?_)
          · replace h := jh_t h c59
            refine lv_aload_n hx hb dX5_trades_74 rfl (lv_at hl 0 rfl) ?_
            refine lv_bipush (v := (-3)) hx hb dX5_trades_75 jcb_m3 ?_
            obtain ⟨r7, M_7, e7, h⟩ := jh_b2 h
            refine jr_km (jr_rv (As := [.int (-3)]) (rest := []) S hK hP jb_0 rfl (m_X5_refuse l X A hs M (-3) r7 M_7 e7) jw_X5_refuse ji_X5_refuse jmX5_65 rfl rfl ⟨(Nat.le_of_ble_eq_true rfl), (Nat.le_of_ble_eq_true rfl)⟩ rfl hl.1 rfl (Nat.le_of_ble_eq_true rfl) dX5_trades_77 ⟨Nat.zero_le _, Nat.zero_le _⟩) hS (fun H locs hP hS => ?_)
            exact je_mi hx hb hr hlocks hK hP hS h dX5_trades_80
          · replace h := jh_f h c59
            refine lv_aload_n hx hb dX5_trades_62 rfl (lv_at hl 0 rfl) ?_
            refine jr_get (k := 0) hx hb hts hown hK hP jb_0 (Nat.le_of_ble_eq_true rfl) jlX5_12 rfl dX5_trades_63 ?_
            refine lv_iload_n hx hb dX5_trades_66 rfl (lv_at hl 3 rfl) ?_
            refine lv_iload_n hx hb dX5_trades_67 rfl (lv_at hl 1 rfl) ?_
            obtain ⟨r8, e8, h⟩ := jh_b h
            refine jr_kp (jr_rv (As := [.int v3, .int v1]) (rest := []) S hK hP jb_1 rfl (m_X4_owes l X M jb_1 v3 v1 r8 e8) jw_X4_owes ji_X4_owes jmX5_140 rfl rfl ⟨(Nat.le_of_ble_eq_true rfl), (Nat.le_of_ble_eq_true rfl)⟩ rfl hl.1 rfl (Nat.le_of_ble_eq_true rfl) dX5_trades_68 ⟨Nat.zero_le _, Nat.zero_le _⟩) ?_
            refine lv_if_eq (tgt := 81) hx hb dX5_trades_71 rfl (fun c71 => ?_) (fun c71 => ?_)
            · replace h := jh_t h c71
              refine lv_aload_n hx hb dX5_trades_81 rfl (lv_at hl 0 rfl) ?_
              refine jr_get (k := 0) hx hb hts hown hK hP jb_0 (Nat.le_of_ble_eq_true rfl) jlX5_12 rfl dX5_trades_82 ?_
              refine lv_iload_n hx hb dX5_trades_85 rfl (lv_at hl 2 rfl) ?_
              refine lv_iload_n hx hb dX5_trades_86 rfl (lv_at hl 1 rfl) ?_
              refine lv_iconst (v := 0) hx hb dX5_trades_87 jci_0 ?_
              obtain ⟨r9, e9, h⟩ := jh_b h
              refine jr_kp (jr_rv (As := [.int v2, .int v1, .int 0]) (rest := []) S hK hP jb_1 rfl (m_X4_ageBehind l X M jb_1 v2 v1 0 r9 e9) jw_X4_ageBehind ji_X4_ageBehind jmX5_144 rfl rfl ⟨(Nat.le_of_ble_eq_true rfl), (Nat.le_of_ble_eq_true rfl)⟩ rfl hl.1 rfl (Nat.le_of_ble_eq_true rfl) dX5_trades_88 ⟨Nat.zero_le _, Nat.zero_le _⟩) ?_
              refine lv_istore (lv' := [(4, .int r9), (0, .ref (jO X 0)), (1, .int v1), (2, .int v2), (3, .int v3)]) hx hb dX5_trades_91 hl (Nat.le_of_ble_eq_true rfl) rfl (fun ls hl => ?_)
              refine lv_aload_n hx hb dX5_trades_93 rfl (lv_at hl 1 rfl) ?_
              refine jr_get (k := 4) hx hb hts hown hK hP jb_0 (Nat.le_of_ble_eq_true rfl) jlX5_29 rfl dX5_trades_94 ?_
              refine lv_aload_n hx hb dX5_trades_97 rfl (lv_at hl 1 rfl) ?_
              refine jr_get (k := 0) hx hb hts hown hK hP jb_0 (Nat.le_of_ble_eq_true rfl) jlX5_12 rfl dX5_trades_98 ?_
              obtain ⟨M_10, e10, h⟩ := jh_b h
              refine jr_kv (jr_rv (As := [.ref (jO X 1)]) (rest := []) S hK hP jb_12 rfl (m_X0_keep l X A hs M jb_1 M_10 e10) jw_X0_keep ji_X0_keep jmX5_164 rfl rfl ⟨(Nat.le_of_ble_eq_true rfl), (Nat.le_of_ble_eq_true rfl)⟩ rfl hl.1 rfl (Nat.le_of_ble_eq_true rfl) dX5_trades_101 ⟨Nat.zero_le _, Nat.zero_le _⟩) hS (fun H locs hP hS => ?_)
              refine lv_aload_n hx hb dX5_trades_104 rfl (lv_at hl 1 rfl) ?_
              refine jr_get (k := 0) hx hb hts hown hK hP jb_0 (Nat.le_of_ble_eq_true rfl) jlX5_12 rfl dX5_trades_105 ?_
              refine lv_iload_n hx hb dX5_trades_108 rfl (lv_at hl 3 rfl) ?_
              refine lv_iload_n hx hb dX5_trades_109 rfl (lv_at hl 2 rfl) ?_
              refine lv_iconst (v := (-1)) hx hb dX5_trades_110 jci_m1 ?_
              obtain ⟨M_11, e11, h⟩ := jh_b h
              refine jr_kv (jr_rv (As := [.int v2, .int v1, .int (-1)]) (rest := []) S hK hP jb_1 rfl (m_X4_setDebt l X A hs M_10 jb_1 v2 v1 (-1) M_11 e11) jw_X4_setDebt ji_X4_setDebt jmX5_176 rfl rfl ⟨(Nat.le_of_ble_eq_true rfl), (Nat.le_of_ble_eq_true rfl)⟩ rfl hl.1 rfl (Nat.le_of_ble_eq_true rfl) dX5_trades_111 ⟨Nat.zero_le _, Nat.zero_le _⟩) hS (fun H locs hP hS => ?_)
              refine lv_aload_n hx hb dX5_trades_114 rfl (lv_at hl 1 rfl) ?_
              refine jr_get (k := 0) hx hb hts hown hK hP jb_0 (Nat.le_of_ble_eq_true rfl) jlX5_12 rfl dX5_trades_115 ?_
              refine lv_iload_n hx hb dX5_trades_118 rfl (lv_at hl 4 rfl) ?_
              refine lv_iload_n hx hb dX5_trades_119 rfl (lv_at hl 2 rfl) ?_
              refine lv_iload hx hb dX5_trades_120 (lv_at hl 0 rfl) ?_
              obtain ⟨M_12, e12, h⟩ := jh_b h
              refine jr_kv (jr_rv (As := [.int v3, .int v1, .int r9]) (rest := []) S hK hP jb_1 rfl (m_X4_setDebt l X A hs M_11 jb_1 v3 v1 r9 M_12 e12) jw_X4_setDebt ji_X4_setDebt jmX5_176 rfl rfl ⟨(Nat.le_of_ble_eq_true rfl), (Nat.le_of_ble_eq_true rfl)⟩ rfl hl.1 rfl (Nat.le_of_ble_eq_true rfl) dX5_trades_122 ⟨Nat.zero_le _, Nat.zero_le _⟩) hS (fun H locs hP hS => ?_)
              refine lv_iload hx hb dX5_trades_125 (lv_at hl 0 rfl) ?_
              exact je_mi hx hb hr hlocks hK hP hS h dX5_trades_127
            · replace h := jh_f h c71
              refine lv_aload_n hx hb dX5_trades_74 rfl (lv_at hl 0 rfl) ?_
              refine lv_bipush (v := (-3)) hx hb dX5_trades_75 jcb_m3 ?_
              obtain ⟨r13, M_13, e13, h⟩ := jh_b2 h
              refine jr_km (jr_rv (As := [.int (-3)]) (rest := []) S hK hP jb_0 rfl (m_X5_refuse l X A hs M (-3) r13 M_13 e13) jw_X5_refuse ji_X5_refuse jmX5_65 rfl rfl ⟨(Nat.le_of_ble_eq_true rfl), (Nat.le_of_ble_eq_true rfl)⟩ rfl hl.1 rfl (Nat.le_of_ble_eq_true rfl) dX5_trades_77 ⟨Nat.zero_le _, Nat.zero_le _⟩) hS (fun H locs hP hS => ?_)
              exact je_mi hx hb hr hlocks hK hP hS h dX5_trades_80
        · replace h := jh_t h c41
          refine lv_aload_n hx hb dX5_trades_44 rfl (lv_at hl 0 rfl) ?_
          refine lv_iconst (v := (-1)) hx hb dX5_trades_45 jci_m1 ?_
          obtain ⟨r14, M_14, e14, h⟩ := jh_b2 h
          refine jr_km (jr_rv (As := [.int (-1)]) (rest := []) S hK hP jb_0 rfl (m_X5_refuse l X A hs M (-1) r14 M_14 e14) jw_X5_refuse ji_X5_refuse jmX5_65 rfl rfl ⟨(Nat.le_of_ble_eq_true rfl), (Nat.le_of_ble_eq_true rfl)⟩ rfl hl.1 rfl (Nat.le_of_ble_eq_true rfl) dX5_trades_46 ⟨Nat.zero_le _, Nat.zero_le _⟩) hS (fun H locs hP hS => ?_)
          exact je_mi hx hb hr hlocks hK hP hS h dX5_trades_49
      · replace h := jh_t h c30
        refine lv_aload_n hx hb dX5_trades_33 rfl (lv_at hl 0 rfl) ?_
        refine lv_iconst (v := (-1)) hx hb dX5_trades_34 jci_m1 ?_
        obtain ⟨r15, M_15, e15, h⟩ := jh_b2 h
        refine jr_km (jr_rv (As := [.int (-1)]) (rest := []) S hK hP jb_0 rfl (m_X5_refuse l X A hs M (-1) r15 M_15 e15) jw_X5_refuse ji_X5_refuse jmX5_65 rfl rfl ⟨(Nat.le_of_ble_eq_true rfl), (Nat.le_of_ble_eq_true rfl)⟩ rfl hl.1 rfl (Nat.le_of_ble_eq_true rfl) dX5_trades_35 ⟨Nat.zero_le _, Nat.zero_le _⟩) hS (fun H locs hP hS => ?_)
        exact je_mi hx hb hr hlocks hK hP hS h dX5_trades_38
def f_X5_evenings (M : jm) (v1 : Int32) : Option (Int32 × jm) := (if 1 ≤ v1 then (if 60 < v1 then (jb2 (f_X5_refuse M (-6)) fun r1 M_1 => (some (r1, M_1))) else (if ((M 1 10 0) + v1) ≤ 999 then (jb (f_X0_keep M 1) fun M_2 => (jb2 (f_X4_pass M_2 1 v1) fun r3 M_3 => (jb (f_X4_debtsBehind M_3 1 0) fun r4 => (some (r4, M_3))))) else (jb2 (f_X5_refuse M (-6)) fun r5 M_5 => (some (r5, M_5))))) else (jb2 (f_X5_refuse M (-4)) fun r6 M_6 => (some (r6, M_6))))
set_option maxRecDepth 100000 in
theorem m_X5_evenings (l : Launch) (X : jX) (A : Nat → Prop) (hs : jst X A) (M : jm) (v1 : Int32) (r : Int32) (N : jm) (h : f_X5_evenings M v1 = some (r, N)) : Met l yX5_evenings (jws yX5_evenings cX5_evenings 2 (some .int)) (jrm 6 142) (va_Pc [.ref (jO X 0), .int v1] (jB X M)) (jQm X A (some (.int r)) N) 0 0 A := by
  refine jm_of (by decide) (Nat.le_of_ble_eq_true rfl) ?_
  intro p e s m args below meth c ls S hr hlocks hB hl
  have S : CallFix p m c cX5_evenings 2 s args jtb RX5 := S
  obtain ⟨hx, hb, hml, hown, hts⟩ := id S
  obtain ⟨hP, hK⟩ := hB
  have hN := hK.2
  have hS : va_S A s.heap s.heap [] := va_S.rf
  have hl : lv_has ls 2 [(0, .ref (jO X 0)), (1, .int v1)] := hl
  refine lv_iload_n hx hb dX5_evenings_0 rfl (lv_at hl 1 rfl) ?_
  refine lv_iconst (v := 1) hx hb dX5_evenings_1 jci_1 ?_
  refine lv_icmp_ge (tgt := 12) hx hb dX5_evenings_2 rfl (fun c2 => ?_) (fun c2 => ?_)
  · replace h := jh_t h c2
    refine lv_iload_n hx hb dX5_evenings_12 rfl (lv_at hl 1 rfl) ?_
    refine lv_bipush (v := 60) hx hb dX5_evenings_13 jcb_60 ?_
    refine lv_icmp_gt (tgt := 33) hx hb dX5_evenings_15 rfl (fun c15 => ?_) (fun c15 => ?_)
    · replace h := jh_t h c15
      refine lv_aload_n hx hb dX5_evenings_33 rfl (lv_at hl 0 rfl) ?_
      refine lv_bipush (v := (-6)) hx hb dX5_evenings_34 jcb_m6 ?_
      obtain ⟨r1, M_1, e1, h⟩ := jh_b2 h
      refine jr_km (jr_rv (As := [.int (-6)]) (rest := []) S hK hP jb_0 rfl (m_X5_refuse l X A hs M (-6) r1 M_1 e1) jw_X5_refuse ji_X5_refuse jmX5_65 rfl rfl ⟨(Nat.le_of_ble_eq_true rfl), (Nat.le_of_ble_eq_true rfl)⟩ rfl hl.1 rfl (Nat.le_of_ble_eq_true rfl) dX5_evenings_36 ⟨Nat.zero_le _, Nat.zero_le _⟩) hS (fun H locs hP hS => ?_)
      exact je_mi hx hb hr hlocks hK hP hS h dX5_evenings_39
    · replace h := jh_f h c15
      refine lv_aload_n hx hb dX5_evenings_18 rfl (lv_at hl 0 rfl) ?_
      refine jr_get (k := 0) hx hb hts hown hK hP jb_0 (Nat.le_of_ble_eq_true rfl) jlX5_12 rfl dX5_evenings_19 ?_
      refine jr_get (k := 10) hx hb hts hown hK hP jb_1 (Nat.le_of_ble_eq_true rfl) jlX5_180 rfl dX5_evenings_22 ?_
      refine lv_iload_n hx hb dX5_evenings_25 rfl (lv_at hl 1 rfl) ?_
      refine lv_iadd hx hb dX5_evenings_26 ?_
      refine lv_sipush (v := 999) hx hb dX5_evenings_27 jcs_999 ?_
      refine lv_icmp_le (tgt := 40) hx hb dX5_evenings_30 rfl (fun c30 => ?_) (fun c30 => ?_)
      · replace h := jh_t h c30
        refine lv_aload_n hx hb dX5_evenings_40 rfl (lv_at hl 0 rfl) ?_
        refine jr_get (k := 4) hx hb hts hown hK hP jb_0 (Nat.le_of_ble_eq_true rfl) jlX5_29 rfl dX5_evenings_41 ?_
        refine lv_aload_n hx hb dX5_evenings_44 rfl (lv_at hl 0 rfl) ?_
        refine jr_get (k := 0) hx hb hts hown hK hP jb_0 (Nat.le_of_ble_eq_true rfl) jlX5_12 rfl dX5_evenings_45 ?_
        obtain ⟨M_2, e2, h⟩ := jh_b h
        refine jr_kv (jr_rv (As := [.ref (jO X 1)]) (rest := []) S hK hP jb_12 rfl (m_X0_keep l X A hs M jb_1 M_2 e2) jw_X0_keep ji_X0_keep jmX5_164 rfl rfl ⟨(Nat.le_of_ble_eq_true rfl), (Nat.le_of_ble_eq_true rfl)⟩ rfl hl.1 rfl (Nat.le_of_ble_eq_true rfl) dX5_evenings_48 ⟨Nat.zero_le _, Nat.zero_le _⟩) hS (fun H locs hP hS => ?_)
        refine lv_aload_n hx hb dX5_evenings_51 rfl (lv_at hl 0 rfl) ?_
        refine jr_get (k := 0) hx hb hts hown hK hP jb_0 (Nat.le_of_ble_eq_true rfl) jlX5_12 rfl dX5_evenings_52 ?_
        refine lv_iload_n hx hb dX5_evenings_55 rfl (lv_at hl 1 rfl) ?_
        obtain ⟨r3, M_3, e3, h⟩ := jh_b2 h
        refine jr_km (jr_rv (As := [.int v1]) (rest := []) S hK hP jb_1 rfl (m_X4_pass l X A hs M_2 jb_1 v1 r3 M_3 e3) jw_X4_pass ji_X4_pass jmX5_183 rfl rfl ⟨(Nat.le_of_ble_eq_true rfl), (Nat.le_of_ble_eq_true rfl)⟩ rfl hl.1 rfl (Nat.le_of_ble_eq_true rfl) dX5_evenings_56 ⟨Nat.zero_le _, Nat.zero_le _⟩) hS (fun H locs hP hS => ?_)
        refine lv_pop hx hb dX5_evenings_59 rfl ?_
        refine lv_aload_n hx hb dX5_evenings_60 rfl (lv_at hl 0 rfl) ?_
        refine jr_get (k := 0) hx hb hts hown hK hP jb_0 (Nat.le_of_ble_eq_true rfl) jlX5_12 rfl dX5_evenings_61 ?_
        refine lv_iconst (v := 0) hx hb dX5_evenings_64 jci_0 ?_
        obtain ⟨r4, e4, h⟩ := jh_b h
        refine jr_kp (jr_rv (As := [.int 0]) (rest := []) S hK hP jb_1 rfl (m_X4_debtsBehind l X M_3 jb_1 0 r4 e4) jw_X4_debtsBehind ji_X4_debtsBehind jmX5_186 rfl rfl ⟨(Nat.le_of_ble_eq_true rfl), (Nat.le_of_ble_eq_true rfl)⟩ rfl hl.1 rfl (Nat.le_of_ble_eq_true rfl) dX5_evenings_65 ⟨Nat.zero_le _, Nat.zero_le _⟩) ?_
        exact je_mi hx hb hr hlocks hK hP hS h dX5_evenings_68
      · replace h := jh_f h c30
        refine lv_aload_n hx hb dX5_evenings_33 rfl (lv_at hl 0 rfl) ?_
        refine lv_bipush (v := (-6)) hx hb dX5_evenings_34 jcb_m6 ?_
        obtain ⟨r5, M_5, e5, h⟩ := jh_b2 h
        refine jr_km (jr_rv (As := [.int (-6)]) (rest := []) S hK hP jb_0 rfl (m_X5_refuse l X A hs M (-6) r5 M_5 e5) jw_X5_refuse ji_X5_refuse jmX5_65 rfl rfl ⟨(Nat.le_of_ble_eq_true rfl), (Nat.le_of_ble_eq_true rfl)⟩ rfl hl.1 rfl (Nat.le_of_ble_eq_true rfl) dX5_evenings_36 ⟨Nat.zero_le _, Nat.zero_le _⟩) hS (fun H locs hP hS => ?_)
        exact je_mi hx hb hr hlocks hK hP hS h dX5_evenings_39
  · replace h := jh_f h c2
    refine lv_aload_n hx hb dX5_evenings_5 rfl (lv_at hl 0 rfl) ?_
    refine lv_bipush (v := (-4)) hx hb dX5_evenings_6 jcb_m4 ?_
    obtain ⟨r6, M_6, e6, h⟩ := jh_b2 h
    refine jr_km (jr_rv (As := [.int (-4)]) (rest := []) S hK hP jb_0 rfl (m_X5_refuse l X A hs M (-4) r6 M_6 e6) jw_X5_refuse ji_X5_refuse jmX5_65 rfl rfl ⟨(Nat.le_of_ble_eq_true rfl), (Nat.le_of_ble_eq_true rfl)⟩ rfl hl.1 rfl (Nat.le_of_ble_eq_true rfl) dX5_evenings_8 ⟨Nat.zero_le _, Nat.zero_le _⟩) hS (fun H locs hP hS => ?_)
    exact je_mi hx hb hr hlocks hK hP hS h dX5_evenings_11
def f_X5_back (M : jm) : Option (Int32 × jm) := (if (M 12 2 0) = 0 then (jb2 (f_X5_refuse M (-3)) fun r2 M_2 => (some (r2, M_2))) else (jb (f_X0_takeBack M 1) fun M_1 => (some ((M_1 12 2 0), M_1))))
set_option maxRecDepth 100000 in
theorem m_X5_back (l : Launch) (X : jX) (A : Nat → Prop) (hs : jst X A) (M : jm) (r : Int32) (N : jm) (h : f_X5_back M = some (r, N)) : Met l yX5_back (jws yX5_back cX5_back 1 (some .int)) (jrm 3 82) (va_Pc [.ref (jO X 0)] (jB X M)) (jQm X A (some (.int r)) N) 0 0 A := by
  refine jm_of (by decide) (Nat.le_of_ble_eq_true rfl) ?_
  intro p e s m args below meth c ls S hr hlocks hB hl
  have S : CallFix p m c cX5_back 1 s args jtb RX5 := S
  obtain ⟨hx, hb, hml, hown, hts⟩ := id S
  obtain ⟨hP, hK⟩ := hB
  have hN := hK.2
  have hS : va_S A s.heap s.heap [] := va_S.rf
  have hl : lv_has ls 1 [(0, .ref (jO X 0))] := hl
  refine lv_aload_n hx hb dX5_back_0 rfl (lv_at hl 0 rfl) ?_
  refine jr_get (k := 4) hx hb hts hown hK hP jb_0 (Nat.le_of_ble_eq_true rfl) jlX5_29 rfl dX5_back_1 ?_
  refine jr_get (k := 2) hx hb hts hown hK hP jb_12 (Nat.le_of_ble_eq_true rfl) jlX5_189 rfl dX5_back_4 ?_
  refine lv_if_ne (tgt := 17) hx hb dX5_back_7 rfl (fun c7 => ?_) (fun c7 => ?_)
  · replace h := jh_f h c7
    refine lv_aload_n hx hb dX5_back_17 rfl (lv_at hl 0 rfl) ?_
    refine jr_get (k := 4) hx hb hts hown hK hP jb_0 (Nat.le_of_ble_eq_true rfl) jlX5_29 rfl dX5_back_18 ?_
    refine lv_aload_n hx hb dX5_back_21 rfl (lv_at hl 0 rfl) ?_
    refine jr_get (k := 0) hx hb hts hown hK hP jb_0 (Nat.le_of_ble_eq_true rfl) jlX5_12 rfl dX5_back_22 ?_
    obtain ⟨M_1, e1, h⟩ := jh_b h
    refine jr_kv (jr_rv (As := [.ref (jO X 1)]) (rest := []) S hK hP jb_12 rfl (m_X0_takeBack l X A hs M jb_1 M_1 e1) jw_X0_takeBack ji_X0_takeBack jmX5_192 rfl rfl ⟨(Nat.le_of_ble_eq_true rfl), (Nat.le_of_ble_eq_true rfl)⟩ rfl hl.1 rfl (Nat.le_of_ble_eq_true rfl) dX5_back_25 ⟨Nat.zero_le _, Nat.zero_le _⟩) hS (fun H locs hP hS => ?_)
    refine lv_aload_n hx hb dX5_back_28 rfl (lv_at hl 0 rfl) ?_
    refine jr_get (k := 4) hx hb hts hown hK hP jb_0 (Nat.le_of_ble_eq_true rfl) jlX5_29 rfl dX5_back_29 ?_
    refine jr_get (k := 2) hx hb hts hown hK hP jb_12 (Nat.le_of_ble_eq_true rfl) jlX5_189 rfl dX5_back_32 ?_
    exact je_mi hx hb hr hlocks hK hP hS h dX5_back_35
  · replace h := jh_t h c7
    refine lv_aload_n hx hb dX5_back_10 rfl (lv_at hl 0 rfl) ?_
    refine lv_bipush (v := (-3)) hx hb dX5_back_11 jcb_m3 ?_
    obtain ⟨r2, M_2, e2, h⟩ := jh_b2 h
    refine jr_km (jr_rv (As := [.int (-3)]) (rest := []) S hK hP jb_0 rfl (m_X5_refuse l X A hs M (-3) r2 M_2 e2) jw_X5_refuse ji_X5_refuse jmX5_65 rfl rfl ⟨(Nat.le_of_ble_eq_true rfl), (Nat.le_of_ble_eq_true rfl)⟩ rfl hl.1 rfl (Nat.le_of_ble_eq_true rfl) dX5_back_13 ⟨Nat.zero_le _, Nat.zero_le _⟩) hS (fun H locs hP hS => ?_)
    exact je_mi hx hb hr hlocks hK hP hS h dX5_back_16
def f_X5_walkerIn (M : jm) (v1 : Int32) (v2 : Int32) (v3 : Int32) : Option (Int32 × jm) := (if (f_X4_hasWalker M 1 v1) = 0 then (jb2 (f_X5_refuse M (-1)) fun r8 M_8 => (some (r8, M_8))) else (if 0 ≤ v2 then (if v2 ≤ 60 then (if v3 = 0 then (jb (f_X4_placeBehind M 1 v1 v2) fun r2 => (some (r2, M))) else (if v3 = 1 then (jb (f_X4_owesBehind M 1 v1 v2) fun r3 => (some (r3, M))) else (if v3 = 2 then (jb (f_X4_priceBehind M 1 v1 v2) fun r4 => (some (r4, M))) else (jb2 (f_X5_refuse M (-2)) fun r5 M_5 => (some (r5, M_5)))))) else (jb2 (f_X5_refuse M (-6)) fun r6 M_6 => (some (r6, M_6)))) else (jb2 (f_X5_refuse M (-4)) fun r7 M_7 => (some (r7, M_7)))))
set_option maxRecDepth 100000 in
theorem m_X5_walkerIn (l : Launch) (X : jX) (A : Nat → Prop) (hs : jst X A) (M : jm) (v1 : Int32) (v2 : Int32) (v3 : Int32) (r : Int32) (N : jm) (h : f_X5_walkerIn M v1 v2 v3 = some (r, N)) : Met l yX5_walkerIn (jws yX5_walkerIn cX5_walkerIn 4 (some .int)) (jrm 6 143) (va_Pc [.ref (jO X 0), .int v1, .int v2, .int v3] (jB X M)) (jQm X A (some (.int r)) N) 0 0 A := by
  refine jm_of (by decide) (Nat.le_of_ble_eq_true rfl) ?_
  intro p e s m args below meth c ls S hr hlocks hB hl
  have S : CallFix p m c cX5_walkerIn 4 s args jtb RX5 := S
  obtain ⟨hx, hb, hml, hown, hts⟩ := id S
  obtain ⟨hP, hK⟩ := hB
  have hN := hK.2
  have hS : va_S A s.heap s.heap [] := va_S.rf
  have hl : lv_has ls 4 [(0, .ref (jO X 0)), (1, .int v1), (2, .int v2), (3, .int v3)] := hl
  refine lv_aload_n hx hb dX5_walkerIn_0 rfl (lv_at hl 0 rfl) ?_
  refine jr_get (k := 0) hx hb hts hown hK hP jb_0 (Nat.le_of_ble_eq_true rfl) jlX5_12 rfl dX5_walkerIn_1 ?_
  refine lv_iload_n hx hb dX5_walkerIn_4 rfl (lv_at hl 1 rfl) ?_
  refine jr_kp (jr_rv (As := [.int v1]) (rest := []) S hK hP jb_1 rfl (m_X4_hasWalker l X M jb_1 v1 _ rfl) jw_X4_hasWalker ji_X4_hasWalker jmX5_119 rfl rfl ⟨(Nat.le_of_ble_eq_true rfl), (Nat.le_of_ble_eq_true rfl)⟩ rfl hl.1 rfl (Nat.le_of_ble_eq_true rfl) dX5_walkerIn_5 ⟨Nat.zero_le _, Nat.zero_le _⟩) ?_
  refine lv_if_ne (tgt := 17) hx hb dX5_walkerIn_8 rfl (fun c8 => ?_) (fun c8 => ?_)
  · replace h := jh_f h c8
    refine lv_iload_n hx hb dX5_walkerIn_17 rfl (lv_at hl 2 rfl) ?_
    refine lv_if_ge (tgt := 28) hx hb dX5_walkerIn_18 rfl (fun c18 => ?_) (fun c18 => ?_)
    · replace h := jh_t h c18
      refine lv_iload_n hx hb dX5_walkerIn_28 rfl (lv_at hl 2 rfl) ?_
      refine lv_bipush (v := 60) hx hb dX5_walkerIn_29 jcb_60 ?_
      refine lv_icmp_le (tgt := 41) hx hb dX5_walkerIn_31 rfl (fun c31 => ?_) (fun c31 => ?_)
      · replace h := jh_t h c31
        refine lv_iload_n hx hb dX5_walkerIn_41 rfl (lv_at hl 3 rfl) ?_
        by_cases c42_0 : v3 = 0
        · replace h := jh_t h c42_0
          refine lv_tableIn (off := 26) (tgt := 68) hx hb dX5_walkerIn_42 (by rw [c42_0]; decide) (by rw [c42_0]; decide) (by rw [c42_0]; rfl) rfl ?_
          refine lv_aload_n hx hb dX5_walkerIn_68 rfl (lv_at hl 0 rfl) ?_
          refine jr_get (k := 0) hx hb hts hown hK hP jb_0 (Nat.le_of_ble_eq_true rfl) jlX5_12 rfl dX5_walkerIn_69 ?_
          refine lv_iload_n hx hb dX5_walkerIn_72 rfl (lv_at hl 1 rfl) ?_
          refine lv_iload_n hx hb dX5_walkerIn_73 rfl (lv_at hl 2 rfl) ?_
          obtain ⟨r2, e2, h⟩ := jh_b h
          refine jr_kp (jr_rv (As := [.int v1, .int v2]) (rest := []) S hK hP jb_1 rfl (m_X4_placeBehind l X M jb_1 v1 v2 r2 e2) jw_X4_placeBehind ji_X4_placeBehind jmX5_195 rfl rfl ⟨(Nat.le_of_ble_eq_true rfl), (Nat.le_of_ble_eq_true rfl)⟩ rfl hl.1 rfl (Nat.le_of_ble_eq_true rfl) dX5_walkerIn_74 ⟨Nat.zero_le _, Nat.zero_le _⟩) ?_
          exact je_mi hx hb hr hlocks hK hP hS h dX5_walkerIn_77
        replace h := jh_f h c42_0
        by_cases c42_1 : v3 = 1
        · replace h := jh_t h c42_1
          refine lv_tableIn (off := 36) (tgt := 78) hx hb dX5_walkerIn_42 (by rw [c42_1]; decide) (by rw [c42_1]; decide) (by rw [c42_1]; rfl) rfl ?_
          refine lv_aload_n hx hb dX5_walkerIn_78 rfl (lv_at hl 0 rfl) ?_
          refine jr_get (k := 0) hx hb hts hown hK hP jb_0 (Nat.le_of_ble_eq_true rfl) jlX5_12 rfl dX5_walkerIn_79 ?_
          refine lv_iload_n hx hb dX5_walkerIn_82 rfl (lv_at hl 1 rfl) ?_
          refine lv_iload_n hx hb dX5_walkerIn_83 rfl (lv_at hl 2 rfl) ?_
          obtain ⟨r3, e3, h⟩ := jh_b h
          refine jr_kp (jr_rv (As := [.int v1, .int v2]) (rest := []) S hK hP jb_1 rfl (m_X4_owesBehind l X M jb_1 v1 v2 r3 e3) jw_X4_owesBehind ji_X4_owesBehind jmX5_131 rfl rfl ⟨(Nat.le_of_ble_eq_true rfl), (Nat.le_of_ble_eq_true rfl)⟩ rfl hl.1 rfl (Nat.le_of_ble_eq_true rfl) dX5_walkerIn_84 ⟨Nat.zero_le _, Nat.zero_le _⟩) ?_
          exact je_mi hx hb hr hlocks hK hP hS h dX5_walkerIn_87
        replace h := jh_f h c42_1
        by_cases c42_2 : v3 = 2
        · replace h := jh_t h c42_2
          refine lv_tableIn (off := 46) (tgt := 88) hx hb dX5_walkerIn_42 (by rw [c42_2]; decide) (by rw [c42_2]; decide) (by rw [c42_2]; rfl) rfl ?_
          refine lv_aload_n hx hb dX5_walkerIn_88 rfl (lv_at hl 0 rfl) ?_
          refine jr_get (k := 0) hx hb hts hown hK hP jb_0 (Nat.le_of_ble_eq_true rfl) jlX5_12 rfl dX5_walkerIn_89 ?_
          refine lv_iload_n hx hb dX5_walkerIn_92 rfl (lv_at hl 1 rfl) ?_
          refine lv_iload_n hx hb dX5_walkerIn_93 rfl (lv_at hl 2 rfl) ?_
          obtain ⟨r4, e4, h⟩ := jh_b h
          refine jr_kp (jr_rv (As := [.int v1, .int v2]) (rest := []) S hK hP jb_1 rfl (m_X4_priceBehind l X M jb_1 v1 v2 r4 e4) jw_X4_priceBehind ji_X4_priceBehind jmX5_137 rfl rfl ⟨(Nat.le_of_ble_eq_true rfl), (Nat.le_of_ble_eq_true rfl)⟩ rfl hl.1 rfl (Nat.le_of_ble_eq_true rfl) dX5_walkerIn_94 ⟨Nat.zero_le _, Nat.zero_le _⟩) ?_
          exact je_mi hx hb hr hlocks hK hP hS h dX5_walkerIn_97
        replace h := jh_f h c42_2
        refine jr_tdef (ks := [0, 1, 2]) (tgt := 98) hx hb dX5_walkerIn_42 (jsw_cons (jsw_ne c42_0 rfl) (jsw_cons (jsw_ne c42_1 rfl) (jsw_cons (jsw_ne c42_2 rfl) (jsw_nil)))) (by decide) rfl ?_
        refine lv_aload_n hx hb dX5_walkerIn_98 rfl (lv_at hl 0 rfl) ?_
        refine lv_bipush (v := (-2)) hx hb dX5_walkerIn_99 jcb_m2 ?_
        obtain ⟨r5, M_5, e5, h⟩ := jh_b2 h
        refine jr_km (jr_rv (As := [.int (-2)]) (rest := []) S hK hP jb_0 rfl (m_X5_refuse l X A hs M (-2) r5 M_5 e5) jw_X5_refuse ji_X5_refuse jmX5_65 rfl rfl ⟨(Nat.le_of_ble_eq_true rfl), (Nat.le_of_ble_eq_true rfl)⟩ rfl hl.1 rfl (Nat.le_of_ble_eq_true rfl) dX5_walkerIn_101 ⟨Nat.zero_le _, Nat.zero_le _⟩) hS (fun H locs hP hS => ?_)
        exact je_mi hx hb hr hlocks hK hP hS h dX5_walkerIn_104
      · replace h := jh_f h c31
        refine lv_aload_n hx hb dX5_walkerIn_34 rfl (lv_at hl 0 rfl) ?_
        refine lv_bipush (v := (-6)) hx hb dX5_walkerIn_35 jcb_m6 ?_
        obtain ⟨r6, M_6, e6, h⟩ := jh_b2 h
        refine jr_km (jr_rv (As := [.int (-6)]) (rest := []) S hK hP jb_0 rfl (m_X5_refuse l X A hs M (-6) r6 M_6 e6) jw_X5_refuse ji_X5_refuse jmX5_65 rfl rfl ⟨(Nat.le_of_ble_eq_true rfl), (Nat.le_of_ble_eq_true rfl)⟩ rfl hl.1 rfl (Nat.le_of_ble_eq_true rfl) dX5_walkerIn_37 ⟨Nat.zero_le _, Nat.zero_le _⟩) hS (fun H locs hP hS => ?_)
        exact je_mi hx hb hr hlocks hK hP hS h dX5_walkerIn_40
    · replace h := jh_f h c18
      refine lv_aload_n hx hb dX5_walkerIn_21 rfl (lv_at hl 0 rfl) ?_
      refine lv_bipush (v := (-4)) hx hb dX5_walkerIn_22 jcb_m4 ?_
      obtain ⟨r7, M_7, e7, h⟩ := jh_b2 h
      refine jr_km (jr_rv (As := [.int (-4)]) (rest := []) S hK hP jb_0 rfl (m_X5_refuse l X A hs M (-4) r7 M_7 e7) jw_X5_refuse ji_X5_refuse jmX5_65 rfl rfl ⟨(Nat.le_of_ble_eq_true rfl), (Nat.le_of_ble_eq_true rfl)⟩ rfl hl.1 rfl (Nat.le_of_ble_eq_true rfl) dX5_walkerIn_24 ⟨Nat.zero_le _, Nat.zero_le _⟩) hS (fun H locs hP hS => ?_)
      exact je_mi hx hb hr hlocks hK hP hS h dX5_walkerIn_27
  · replace h := jh_t h c8
    refine lv_aload_n hx hb dX5_walkerIn_11 rfl (lv_at hl 0 rfl) ?_
    refine lv_iconst (v := (-1)) hx hb dX5_walkerIn_12 jci_m1 ?_
    obtain ⟨r8, M_8, e8, h⟩ := jh_b2 h
    refine jr_km (jr_rv (As := [.int (-1)]) (rest := []) S hK hP jb_0 rfl (m_X5_refuse l X A hs M (-1) r8 M_8 e8) jw_X5_refuse ji_X5_refuse jmX5_65 rfl rfl ⟨(Nat.le_of_ble_eq_true rfl), (Nat.le_of_ble_eq_true rfl)⟩ rfl hl.1 rfl (Nat.le_of_ble_eq_true rfl) dX5_walkerIn_13 ⟨Nat.zero_le _, Nat.zero_le _⟩) hS (fun H locs hP hS => ?_)
    exact je_mi hx hb hr hlocks hK hP hS h dX5_walkerIn_16
def f_X5_prices (M : jm) (v1 : Int32) : Option (Int32 × jm) := (if 0 ≤ v1 then (if v1 ≤ 60 then (jb (f_X4_pricesBehind M 1 v1) fun r1 => (some (r1, M))) else (jb2 (f_X5_refuse M (-6)) fun r2 M_2 => (some (r2, M_2)))) else (jb2 (f_X5_refuse M (-4)) fun r3 M_3 => (some (r3, M_3))))
set_option maxRecDepth 100000 in
theorem m_X5_prices (l : Launch) (X : jX) (A : Nat → Prop) (hs : jst X A) (M : jm) (v1 : Int32) (r : Int32) (N : jm) (h : f_X5_prices M v1 = some (r, N)) : Met l yX5_prices (jws yX5_prices cX5_prices 2 (some .int)) (jrm 6 143) (va_Pc [.ref (jO X 0), .int v1] (jB X M)) (jQm X A (some (.int r)) N) 0 0 A := by
  refine jm_of (by decide) (Nat.le_of_ble_eq_true rfl) ?_
  intro p e s m args below meth c ls S hr hlocks hB hl
  have S : CallFix p m c cX5_prices 2 s args jtb RX5 := S
  obtain ⟨hx, hb, hml, hown, hts⟩ := id S
  obtain ⟨hP, hK⟩ := hB
  have hN := hK.2
  have hS : va_S A s.heap s.heap [] := va_S.rf
  have hl : lv_has ls 2 [(0, .ref (jO X 0)), (1, .int v1)] := hl
  refine lv_iload_n hx hb dX5_prices_0 rfl (lv_at hl 1 rfl) ?_
  refine lv_if_ge (tgt := 11) hx hb dX5_prices_1 rfl (fun c1 => ?_) (fun c1 => ?_)
  · replace h := jh_t h c1
    refine lv_iload_n hx hb dX5_prices_11 rfl (lv_at hl 1 rfl) ?_
    refine lv_bipush (v := 60) hx hb dX5_prices_12 jcb_60 ?_
    refine lv_icmp_le (tgt := 24) hx hb dX5_prices_14 rfl (fun c14 => ?_) (fun c14 => ?_)
    · replace h := jh_t h c14
      refine lv_aload_n hx hb dX5_prices_24 rfl (lv_at hl 0 rfl) ?_
      refine jr_get (k := 0) hx hb hts hown hK hP jb_0 (Nat.le_of_ble_eq_true rfl) jlX5_12 rfl dX5_prices_25 ?_
      refine lv_iload_n hx hb dX5_prices_28 rfl (lv_at hl 1 rfl) ?_
      obtain ⟨r1, e1, h⟩ := jh_b h
      refine jr_kp (jr_rv (As := [.int v1]) (rest := []) S hK hP jb_1 rfl (m_X4_pricesBehind l X M jb_1 v1 r1 e1) jw_X4_pricesBehind ji_X4_pricesBehind jmX5_198 rfl rfl ⟨(Nat.le_of_ble_eq_true rfl), (Nat.le_of_ble_eq_true rfl)⟩ rfl hl.1 rfl (Nat.le_of_ble_eq_true rfl) dX5_prices_29 ⟨Nat.zero_le _, Nat.zero_le _⟩) ?_
      exact je_mi hx hb hr hlocks hK hP hS h dX5_prices_32
    · replace h := jh_f h c14
      refine lv_aload_n hx hb dX5_prices_17 rfl (lv_at hl 0 rfl) ?_
      refine lv_bipush (v := (-6)) hx hb dX5_prices_18 jcb_m6 ?_
      obtain ⟨r2, M_2, e2, h⟩ := jh_b2 h
      refine jr_km (jr_rv (As := [.int (-6)]) (rest := []) S hK hP jb_0 rfl (m_X5_refuse l X A hs M (-6) r2 M_2 e2) jw_X5_refuse ji_X5_refuse jmX5_65 rfl rfl ⟨(Nat.le_of_ble_eq_true rfl), (Nat.le_of_ble_eq_true rfl)⟩ rfl hl.1 rfl (Nat.le_of_ble_eq_true rfl) dX5_prices_20 ⟨Nat.zero_le _, Nat.zero_le _⟩) hS (fun H locs hP hS => ?_)
      exact je_mi hx hb hr hlocks hK hP hS h dX5_prices_23
  · replace h := jh_f h c1
    refine lv_aload_n hx hb dX5_prices_4 rfl (lv_at hl 0 rfl) ?_
    refine lv_bipush (v := (-4)) hx hb dX5_prices_5 jcb_m4 ?_
    obtain ⟨r3, M_3, e3, h⟩ := jh_b2 h
    refine jr_km (jr_rv (As := [.int (-4)]) (rest := []) S hK hP jb_0 rfl (m_X5_refuse l X A hs M (-4) r3 M_3 e3) jw_X5_refuse ji_X5_refuse jmX5_65 rfl rfl ⟨(Nat.le_of_ble_eq_true rfl), (Nat.le_of_ble_eq_true rfl)⟩ rfl hl.1 rfl (Nat.le_of_ble_eq_true rfl) dX5_prices_7 ⟨Nat.zero_le _, Nat.zero_le _⟩) hS (fun H locs hP hS => ?_)
    exact je_mi hx hb hr hlocks hK hP hS h dX5_prices_10
def f_X5_owed (M : jm) (v1 : Int32) (v2 : Int32) : Option (Int32 × jm) := (if (f_X4_hasWalker M 1 v1) = 0 then (jb2 (f_X5_refuse M (-1)) fun r2 M_2 => (some (r2, M_2))) else (if (f_X4_hasHouse M 1 v2) = 0 then (jb2 (f_X5_refuse M (-1)) fun r6 M_6 => (some (r6, M_6))) else (jb (f_X4_owes M 1 v1 v2) fun r4 => (if r4 = 0 then (jb (f_X4_firstSighting M 1 v1 v2 60) fun r5 => (some (r5, M))) else (some (0, M))))))
set_option maxRecDepth 100000 in
theorem m_X5_owed (l : Launch) (X : jX) (A : Nat → Prop) (hs : jst X A) (M : jm) (v1 : Int32) (v2 : Int32) (r : Int32) (N : jm) (h : f_X5_owed M v1 v2 = some (r, N)) : Met l yX5_owed (jws yX5_owed cX5_owed 3 (some .int)) (jrm 3 70) (va_Pc [.ref (jO X 0), .int v1, .int v2] (jB X M)) (jQm X A (some (.int r)) N) 0 0 A := by
  refine jm_of (by decide) (Nat.le_of_ble_eq_true rfl) ?_
  intro p e s m args below meth c ls S hr hlocks hB hl
  have S : CallFix p m c cX5_owed 3 s args jtb RX5 := S
  obtain ⟨hx, hb, hml, hown, hts⟩ := id S
  obtain ⟨hP, hK⟩ := hB
  have hN := hK.2
  have hS : va_S A s.heap s.heap [] := va_S.rf
  have hl : lv_has ls 3 [(0, .ref (jO X 0)), (1, .int v1), (2, .int v2)] := hl
  refine lv_aload_n hx hb dX5_owed_0 rfl (lv_at hl 0 rfl) ?_
  refine jr_get (k := 0) hx hb hts hown hK hP jb_0 (Nat.le_of_ble_eq_true rfl) jlX5_12 rfl dX5_owed_1 ?_
  refine lv_iload_n hx hb dX5_owed_4 rfl (lv_at hl 1 rfl) ?_
  refine jr_kp (jr_rv (As := [.int v1]) (rest := []) S hK hP jb_1 rfl (m_X4_hasWalker l X M jb_1 v1 _ rfl) jw_X4_hasWalker ji_X4_hasWalker jmX5_119 rfl rfl ⟨(Nat.le_of_ble_eq_true rfl), (Nat.le_of_ble_eq_true rfl)⟩ rfl hl.1 rfl (Nat.le_of_ble_eq_true rfl) dX5_owed_5 ⟨Nat.zero_le _, Nat.zero_le _⟩) ?_
  refine lv_if_eq (tgt := 22) hx hb dX5_owed_8 rfl (fun c8 => ?_) (fun c8 => ?_)
  · replace h := jh_t h c8
    refine lv_aload_n hx hb dX5_owed_22 rfl (lv_at hl 0 rfl) ?_
    refine lv_iconst (v := (-1)) hx hb dX5_owed_23 jci_m1 ?_
    obtain ⟨r2, M_2, e2, h⟩ := jh_b2 h
    refine jr_km (jr_rv (As := [.int (-1)]) (rest := []) S hK hP jb_0 rfl (m_X5_refuse l X A hs M (-1) r2 M_2 e2) jw_X5_refuse ji_X5_refuse jmX5_65 rfl rfl ⟨(Nat.le_of_ble_eq_true rfl), (Nat.le_of_ble_eq_true rfl)⟩ rfl hl.1 rfl (Nat.le_of_ble_eq_true rfl) dX5_owed_24 ⟨Nat.zero_le _, Nat.zero_le _⟩) hS (fun H locs hP hS => ?_)
    exact je_mi hx hb hr hlocks hK hP hS h dX5_owed_27
  · replace h := jh_f h c8
    refine lv_aload_n hx hb dX5_owed_11 rfl (lv_at hl 0 rfl) ?_
    refine jr_get (k := 0) hx hb hts hown hK hP jb_0 (Nat.le_of_ble_eq_true rfl) jlX5_12 rfl dX5_owed_12 ?_
    refine lv_iload_n hx hb dX5_owed_15 rfl (lv_at hl 2 rfl) ?_
    refine jr_kp (jr_rv (As := [.int v2]) (rest := []) S hK hP jb_1 rfl (m_X4_hasHouse l X M jb_1 v2 _ rfl) jw_X4_hasHouse ji_X4_hasHouse jmX5_90 rfl rfl ⟨(Nat.le_of_ble_eq_true rfl), (Nat.le_of_ble_eq_true rfl)⟩ rfl hl.1 rfl (Nat.le_of_ble_eq_true rfl) dX5_owed_16 ⟨Nat.zero_le _, Nat.zero_le _⟩) ?_
    refine lv_if_ne (tgt := 28) hx hb dX5_owed_19 rfl (fun c19 => ?_) (fun c19 => ?_)
    · replace h := jh_f h c19
      refine lv_aload_n hx hb dX5_owed_28 rfl (lv_at hl 0 rfl) ?_
      refine jr_get (k := 0) hx hb hts hown hK hP jb_0 (Nat.le_of_ble_eq_true rfl) jlX5_12 rfl dX5_owed_29 ?_
      refine lv_iload_n hx hb dX5_owed_32 rfl (lv_at hl 1 rfl) ?_
      refine lv_iload_n hx hb dX5_owed_33 rfl (lv_at hl 2 rfl) ?_
      obtain ⟨r4, e4, h⟩ := jh_b h
      refine jr_kp (jr_rv (As := [.int v1, .int v2]) (rest := []) S hK hP jb_1 rfl (m_X4_owes l X M jb_1 v1 v2 r4 e4) jw_X4_owes ji_X4_owes jmX5_140 rfl rfl ⟨(Nat.le_of_ble_eq_true rfl), (Nat.le_of_ble_eq_true rfl)⟩ rfl hl.1 rfl (Nat.le_of_ble_eq_true rfl) dX5_owed_34 ⟨Nat.zero_le _, Nat.zero_le _⟩) ?_
      refine lv_if_eq (tgt := 42) hx hb dX5_owed_37 rfl (fun c37 => ?_) (fun c37 => ?_)
      · replace h := jh_t h c37
        refine lv_aload_n hx hb dX5_owed_42 rfl (lv_at hl 0 rfl) ?_
        refine jr_get (k := 0) hx hb hts hown hK hP jb_0 (Nat.le_of_ble_eq_true rfl) jlX5_12 rfl dX5_owed_43 ?_
        refine lv_iload_n hx hb dX5_owed_46 rfl (lv_at hl 1 rfl) ?_
        refine lv_iload_n hx hb dX5_owed_47 rfl (lv_at hl 2 rfl) ?_
        refine lv_bipush (v := 60) hx hb dX5_owed_48 jcb_60 ?_
        obtain ⟨r5, e5, h⟩ := jh_b h
        refine jr_kp (jr_rv (As := [.int v1, .int v2, .int 60]) (rest := []) S hK hP jb_1 rfl (m_X4_firstSighting l X M jb_1 v1 v2 60 r5 e5) jw_X4_firstSighting ji_X4_firstSighting jmX5_201 rfl rfl ⟨(Nat.le_of_ble_eq_true rfl), (Nat.le_of_ble_eq_true rfl)⟩ rfl hl.1 rfl (Nat.le_of_ble_eq_true rfl) dX5_owed_50 ⟨Nat.zero_le _, Nat.zero_le _⟩) ?_
        exact je_mi hx hb hr hlocks hK hP hS h dX5_owed_53
      · replace h := jh_f h c37
        refine lv_iconst (v := 0) hx hb dX5_owed_40 jci_0 ?_
        exact je_mi hx hb hr hlocks hK hP hS h dX5_owed_41
    · replace h := jh_t h c19
      refine lv_aload_n hx hb dX5_owed_22 rfl (lv_at hl 0 rfl) ?_
      refine lv_iconst (v := (-1)) hx hb dX5_owed_23 jci_m1 ?_
      obtain ⟨r6, M_6, e6, h⟩ := jh_b2 h
      refine jr_km (jr_rv (As := [.int (-1)]) (rest := []) S hK hP jb_0 rfl (m_X5_refuse l X A hs M (-1) r6 M_6 e6) jw_X5_refuse ji_X5_refuse jmX5_65 rfl rfl ⟨(Nat.le_of_ble_eq_true rfl), (Nat.le_of_ble_eq_true rfl)⟩ rfl hl.1 rfl (Nat.le_of_ble_eq_true rfl) dX5_owed_24 ⟨Nat.zero_le _, Nat.zero_le _⟩) hS (fun H locs hP hS => ?_)
      exact je_mi hx hb hr hlocks hK hP hS h dX5_owed_27
def f_X5_home (M : jm) (v1 : Int32) : Option (Int32 × jm) := (if (f_X4_hasWalker M 1 v1) = 0 then (jb2 (f_X5_refuse M (-1)) fun r3 M_3 => (some (r3, M_3))) else (jgd v1 6 (jgd v1 6 (some ((f_X5_steps (M 1 6 (Int32.toNatClampNeg v1)) (M 1 7 (Int32.toNatClampNeg v1))), M)))))
set_option maxRecDepth 100000 in
theorem m_X5_home (l : Launch) (X : jX) (A : Nat → Prop) (hs : jst X A) (M : jm) (v1 : Int32) (r : Int32) (N : jm) (h : f_X5_home M v1 = some (r, N)) : Met l yX5_home (jws yX5_home cX5_home 2 (some .int)) (jrm 2 42) (va_Pc [.ref (jO X 0), .int v1] (jB X M)) (jQm X A (some (.int r)) N) 0 0 A := by
  refine jm_of (by decide) (Nat.le_of_ble_eq_true rfl) ?_
  intro p e s m args below meth c ls S hr hlocks hB hl
  have S : CallFix p m c cX5_home 2 s args jtb RX5 := S
  obtain ⟨hx, hb, hml, hown, hts⟩ := id S
  obtain ⟨hP, hK⟩ := hB
  have hN := hK.2
  have hS : va_S A s.heap s.heap [] := va_S.rf
  have hl : lv_has ls 2 [(0, .ref (jO X 0)), (1, .int v1)] := hl
  refine lv_aload_n hx hb dX5_home_0 rfl (lv_at hl 0 rfl) ?_
  refine jr_get (k := 0) hx hb hts hown hK hP jb_0 (Nat.le_of_ble_eq_true rfl) jlX5_12 rfl dX5_home_1 ?_
  refine lv_iload_n hx hb dX5_home_4 rfl (lv_at hl 1 rfl) ?_
  refine jr_kp (jr_rv (As := [.int v1]) (rest := []) S hK hP jb_1 rfl (m_X4_hasWalker l X M jb_1 v1 _ rfl) jw_X4_hasWalker ji_X4_hasWalker jmX5_119 rfl rfl ⟨(Nat.le_of_ble_eq_true rfl), (Nat.le_of_ble_eq_true rfl)⟩ rfl hl.1 rfl (Nat.le_of_ble_eq_true rfl) dX5_home_5 ⟨Nat.zero_le _, Nat.zero_le _⟩) ?_
  refine lv_if_ne (tgt := 17) hx hb dX5_home_8 rfl (fun c8 => ?_) (fun c8 => ?_)
  · replace h := jh_f h c8
    refine lv_aload_n hx hb dX5_home_17 rfl (lv_at hl 0 rfl) ?_
    refine jr_get (k := 0) hx hb hts hown hK hP jb_0 (Nat.le_of_ble_eq_true rfl) jlX5_12 rfl dX5_home_18 ?_
    refine jr_get (k := 6) hx hb hts hown hK hP jb_1 (Nat.le_of_ble_eq_true rfl) jlX5_122 rfl dX5_home_21 ?_
    refine lv_iload_n hx hb dX5_home_24 rfl (lv_at hl 1 rfl) ?_
    obtain ⟨g25, h⟩ := jh_gd h
    refine jr_ald (n := 6) hx hb hK hP jb_1 rfl g25 dX5_home_25 ?_
    refine lv_aload_n hx hb dX5_home_26 rfl (lv_at hl 0 rfl) ?_
    refine jr_get (k := 0) hx hb hts hown hK hP jb_0 (Nat.le_of_ble_eq_true rfl) jlX5_12 rfl dX5_home_27 ?_
    refine jr_get (k := 7) hx hb hts hown hK hP jb_1 (Nat.le_of_ble_eq_true rfl) jlX5_125 rfl dX5_home_30 ?_
    refine lv_iload_n hx hb dX5_home_33 rfl (lv_at hl 1 rfl) ?_
    obtain ⟨g34, h⟩ := jh_gd h
    refine jr_ald (n := 6) hx hb hK hP jb_1 rfl g34 dX5_home_34 ?_
    refine jr_kp (jr_rs (As := [.int (M 1 6 (Int32.toNatClampNeg v1)), .int (M 1 7 (Int32.toNatClampNeg v1))]) (rest := []) S hN (m_X5_steps l (M 1 6 (Int32.toNatClampNeg v1)) (M 1 7 (Int32.toNatClampNeg v1)) _ rfl) jw_X5_steps js_X5_steps jmX5_204 rfl rfl ⟨(Nat.le_of_ble_eq_true rfl), (Nat.le_of_ble_eq_true rfl)⟩ rfl hl.1 rfl (Nat.le_of_ble_eq_true rfl) dX5_home_35 ⟨Nat.zero_le _, Nat.zero_le _⟩) ?_
    exact je_mi hx hb hr hlocks hK hP hS h dX5_home_38
  · replace h := jh_t h c8
    refine lv_aload_n hx hb dX5_home_11 rfl (lv_at hl 0 rfl) ?_
    refine lv_iconst (v := (-1)) hx hb dX5_home_12 jci_m1 ?_
    obtain ⟨r3, M_3, e3, h⟩ := jh_b2 h
    refine jr_km (jr_rv (As := [.int (-1)]) (rest := []) S hK hP jb_0 rfl (m_X5_refuse l X A hs M (-1) r3 M_3 e3) jw_X5_refuse ji_X5_refuse jmX5_65 rfl rfl ⟨(Nat.le_of_ble_eq_true rfl), (Nat.le_of_ble_eq_true rfl)⟩ rfl hl.1 rfl (Nat.le_of_ble_eq_true rfl) dX5_home_13 ⟨Nat.zero_le _, Nat.zero_le _⟩) hS (fun H locs hP hS => ?_)
    exact je_mi hx hb hr hlocks hK hP hS h dX5_home_16
def f_X5_mostOwed_l7 (M : jm) : Nat → Int32 → Int32 → Int32 → Option Int32
  | 0, _, _, _ => none
  | k_1 + 1, v1_1, v2_1, v3_1 => (if (M 1 0 0) ≤ v3_1 then (some v1_1) else (jb (f_X4_owersBehind M 1 v3_1 0) fun r2 => (if (f_J6_bitCount_0f7a4 r2) ≤ v2_1 then ((f_X5_mostOwed_l7 M k_1) v1_1 v2_1 (v3_1 + 1)) else ((f_X5_mostOwed_l7 M k_1) v3_1 (f_J6_bitCount_0f7a4 r2) (v3_1 + 1)))))
def f_X5_mostOwed (M : jm) : Option Int32 := (f_X5_mostOwed_l7 M 10000 (-9) 0 0)
set_option maxRecDepth 100000 in
theorem m_X5_mostOwed (l : Launch) (X : jX) (M : jm) (r : Int32) (h : f_X5_mostOwed M = some r) : Met l yX5_mostOwed (jws yX5_mostOwed cX5_mostOwed 5 (some .int)) (jrm 5 119) (va_Pc [.ref (jO X 0)] (jB X M)) (jQ (.int r)) 0 0 (fun _ => False) := by
  refine jm_of (by decide) (Nat.le_of_ble_eq_true rfl) ?_
  intro p e s m args below meth c ls S hr hlocks hB hl
  have S : CallFix p m c cX5_mostOwed 5 s args jtb RX5 := S
  obtain ⟨hx, hb, hml, hown, hts⟩ := id S
  obtain ⟨hP, hK⟩ := hB
  have hN := hK.2
  have hl : lv_has ls 5 [(0, .ref (jO X 0))] := hl
  refine lv_bipush (v := (-9)) hx hb dX5_mostOwed_0 jcb_m9 ?_
  refine lv_istore_n (lv' := [(1, .int (-9)), (0, .ref (jO X 0))]) hx hb dX5_mostOwed_2 rfl hl (Nat.le_of_ble_eq_true rfl) rfl (fun ls hl => ?_)
  refine lv_iconst (v := 0) hx hb dX5_mostOwed_3 jci_0 ?_
  refine lv_istore_n (lv' := [(2, .int 0), (1, .int (-9)), (0, .ref (jO X 0))]) hx hb dX5_mostOwed_4 rfl hl (Nat.le_of_ble_eq_true rfl) rfl (fun ls hl => ?_)
  refine lv_iconst (v := 0) hx hb dX5_mostOwed_5 jci_0 ?_
  refine lv_istore_n (lv' := [(3, .int 0), (2, .int 0), (1, .int (-9)), (0, .ref (jO X 0))]) hx hb dX5_mostOwed_6 rfl hl (Nat.le_of_ble_eq_true rfl) rfl (fun ls hl => ?_)
  have L7 : ∀ (k_1 : Nat) (v1_1 : Int32) (v2_1 : Int32) (v3_1 : Int32) (ls : Array Slot), f_X5_mostOwed_l7 M k_1 v1_1 v2_1 v3_1 = some r → lv_has ls 5 [(0, .ref (jO X 0)), (1, .int v1_1), (2, .int v2_1), (3, .int v3_1)] → W p l e (jrm 5 119) s m args below meth c s.heap [] 0 0 (MQ below (jQ (.int r)) args s 0 0 (fun _ => False)) (F0 m 7 ls []) := by
    intro k_1
    induction k_1 with
    | zero => intro v1_1 v2_1 v3_1 ls h; exact jh_0 h
    | succ k_1 ih7 =>
      intro v1_1 v2_1 v3_1 ls h hl
      refine lv_iload_n hx hb dX5_mostOwed_7 rfl (lv_at hl 3 rfl) ?_
      refine lv_aload_n hx hb dX5_mostOwed_8 rfl (lv_at hl 0 rfl) ?_
      refine jr_get (k := 0) hx hb hts hown hK hP jb_0 (Nat.le_of_ble_eq_true rfl) jlX5_12 rfl dX5_mostOwed_9 ?_
      refine jr_get (k := 0) hx hb hts hown hK hP jb_1 (Nat.le_of_ble_eq_true rfl) jlX5_148 rfl dX5_mostOwed_12 ?_
      refine lv_icmp_ge (tgt := 49) hx hb dX5_mostOwed_15 rfl (fun c15 => ?_) (fun c15 => ?_)
      · replace h := jh_t h c15
        refine lv_iload_n hx hb dX5_mostOwed_49 rfl (lv_at hl 1 rfl) ?_
        exact je_i hx hb hr hlocks (Option.some.inj h) dX5_mostOwed_50
      · replace h := jh_f h c15
        refine lv_aload_n hx hb dX5_mostOwed_18 rfl (lv_at hl 0 rfl) ?_
        refine jr_get (k := 0) hx hb hts hown hK hP jb_0 (Nat.le_of_ble_eq_true rfl) jlX5_12 rfl dX5_mostOwed_19 ?_
        refine lv_iload_n hx hb dX5_mostOwed_22 rfl (lv_at hl 3 rfl) ?_
        refine lv_iconst (v := 0) hx hb dX5_mostOwed_23 jci_0 ?_
        obtain ⟨r2, e2, h⟩ := jh_b h
        refine jr_kp (jr_rv (As := [.int v3_1, .int 0]) (rest := []) S hK hP jb_1 rfl (m_X4_owersBehind l X M jb_1 v3_1 0 r2 e2) jw_X4_owersBehind ji_X4_owersBehind jmX5_113 rfl rfl ⟨(Nat.le_of_ble_eq_true rfl), (Nat.le_of_ble_eq_true rfl)⟩ rfl hl.1 rfl (Nat.le_of_ble_eq_true rfl) dX5_mostOwed_24 ⟨Nat.zero_le _, Nat.zero_le _⟩) ?_
        refine jr_kp (jr_rs (As := [.int r2]) (rest := []) S hN (m_J6_bitCount_0f7a4 l r2 _ rfl) jw_J6_bitCount_0f7a4 js_J6_bitCount_0f7a4 jmX5_239 rfl rfl ⟨(Nat.le_of_ble_eq_true rfl), (Nat.le_of_ble_eq_true rfl)⟩ rfl hl.1 rfl (Nat.le_of_ble_eq_true rfl) dX5_mostOwed_27 ⟨Nat.zero_le _, Nat.zero_le _⟩) ?_
        refine lv_istore (lv' := [(4, .int (f_J6_bitCount_0f7a4 r2)), (0, .ref (jO X 0)), (1, .int v1_1), (2, .int v2_1), (3, .int v3_1)]) hx hb dX5_mostOwed_30 hl (Nat.le_of_ble_eq_true rfl) rfl (fun ls hl => ?_)
        refine lv_iload hx hb dX5_mostOwed_32 (lv_at hl 0 rfl) ?_
        refine lv_iload_n hx hb dX5_mostOwed_34 rfl (lv_at hl 3 rfl) ?_
        refine lv_icmp_le (tgt := 43) hx hb dX5_mostOwed_35 rfl (fun c35 => ?_) (fun c35 => ?_)
        · replace h := jh_t h c35
          refine lv_iinc (v := (v3_1 + 1)) (lv' := [(3, .int (v3_1 + 1)), (4, .int (f_J6_bitCount_0f7a4 r2)), (0, .ref (jO X 0)), (1, .int v1_1), (2, .int v2_1)]) hx hb dX5_mostOwed_43 hl (k := 4) rfl (congrArg _ jci_1) (Nat.le_of_ble_eq_true rfl) rfl (fun ls hl => ?_)
          refine lv_goto (tgt := 7) hx hb dX5_mostOwed_46 rfl ?_
          exact ih7 v1_1 v2_1 (v3_1 + 1) _ h (lv_sub hl [2, 3, 4, 0] rfl)
        · replace h := jh_f h c35
          refine lv_iload hx hb dX5_mostOwed_38 (lv_at hl 0 rfl) ?_
          refine lv_istore_n (lv' := [(2, .int (f_J6_bitCount_0f7a4 r2)), (4, .int (f_J6_bitCount_0f7a4 r2)), (0, .ref (jO X 0)), (1, .int v1_1), (3, .int v3_1)]) hx hb dX5_mostOwed_40 rfl hl (Nat.le_of_ble_eq_true rfl) rfl (fun ls hl => ?_)
          refine lv_iload_n hx hb dX5_mostOwed_41 rfl (lv_at hl 4 rfl) ?_
          refine lv_istore_n (lv' := [(1, .int v3_1), (2, .int (f_J6_bitCount_0f7a4 r2)), (4, .int (f_J6_bitCount_0f7a4 r2)), (0, .ref (jO X 0)), (3, .int v3_1)]) hx hb dX5_mostOwed_42 rfl hl (Nat.le_of_ble_eq_true rfl) rfl (fun ls hl => ?_)
          refine lv_iinc (v := (v3_1 + 1)) (lv' := [(3, .int (v3_1 + 1)), (1, .int v3_1), (2, .int (f_J6_bitCount_0f7a4 r2)), (4, .int (f_J6_bitCount_0f7a4 r2)), (0, .ref (jO X 0))]) hx hb dX5_mostOwed_43 hl (k := 4) rfl (congrArg _ jci_1) (Nat.le_of_ble_eq_true rfl) rfl (fun ls hl => ?_)
          refine lv_goto (tgt := 7) hx hb dX5_mostOwed_46 rfl ?_
          exact ih7 v3_1 (f_J6_bitCount_0f7a4 r2) (v3_1 + 1) _ h (lv_sub hl [4, 1, 2, 0] rfl)
  exact L7 10000 (-9) 0 0 _ h (lv_sub hl [3, 2, 1, 0] rfl)
def f_X5_debtor_l7 (M : jm) : Nat → Int32 → Int32 → Int32 → Option Int32
  | 0, _, _, _ => none
  | k_1 + 1, v1_1, v2_1, v3_1 => (if (M 1 5 0) ≤ v3_1 then (some v1_1) else (jb (f_X4_priceBehind M 1 v3_1 0) fun r2 => (if r2 ≤ v2_1 then ((f_X5_debtor_l7 M k_1) v1_1 v2_1 (v3_1 + 1)) else ((f_X5_debtor_l7 M k_1) v3_1 r2 (v3_1 + 1)))))
def f_X5_debtor (M : jm) : Option Int32 := (f_X5_debtor_l7 M 10000 (-9) 0 0)
set_option maxRecDepth 100000 in
theorem m_X5_debtor (l : Launch) (X : jX) (M : jm) (r : Int32) (h : f_X5_debtor M = some r) : Met l yX5_debtor (jws yX5_debtor cX5_debtor 5 (some .int)) (jrm 6 143) (va_Pc [.ref (jO X 0)] (jB X M)) (jQ (.int r)) 0 0 (fun _ => False) := by
  refine jm_of (by decide) (Nat.le_of_ble_eq_true rfl) ?_
  intro p e s m args below meth c ls S hr hlocks hB hl
  have S : CallFix p m c cX5_debtor 5 s args jtb RX5 := S
  obtain ⟨hx, hb, hml, hown, hts⟩ := id S
  obtain ⟨hP, hK⟩ := hB
  have hN := hK.2
  have hl : lv_has ls 5 [(0, .ref (jO X 0))] := hl
  refine lv_bipush (v := (-9)) hx hb dX5_debtor_0 jcb_m9 ?_
  refine lv_istore_n (lv' := [(1, .int (-9)), (0, .ref (jO X 0))]) hx hb dX5_debtor_2 rfl hl (Nat.le_of_ble_eq_true rfl) rfl (fun ls hl => ?_)
  refine lv_iconst (v := 0) hx hb dX5_debtor_3 jci_0 ?_
  refine lv_istore_n (lv' := [(2, .int 0), (1, .int (-9)), (0, .ref (jO X 0))]) hx hb dX5_debtor_4 rfl hl (Nat.le_of_ble_eq_true rfl) rfl (fun ls hl => ?_)
  refine lv_iconst (v := 0) hx hb dX5_debtor_5 jci_0 ?_
  refine lv_istore_n (lv' := [(3, .int 0), (2, .int 0), (1, .int (-9)), (0, .ref (jO X 0))]) hx hb dX5_debtor_6 rfl hl (Nat.le_of_ble_eq_true rfl) rfl (fun ls hl => ?_)
  have L7 : ∀ (k_1 : Nat) (v1_1 : Int32) (v2_1 : Int32) (v3_1 : Int32) (ls : Array Slot), f_X5_debtor_l7 M k_1 v1_1 v2_1 v3_1 = some r → lv_has ls 5 [(0, .ref (jO X 0)), (1, .int v1_1), (2, .int v2_1), (3, .int v3_1)] → W p l e (jrm 6 143) s m args below meth c s.heap [] 0 0 (MQ below (jQ (.int r)) args s 0 0 (fun _ => False)) (F0 m 7 ls []) := by
    intro k_1
    induction k_1 with
    | zero => intro v1_1 v2_1 v3_1 ls h; exact jh_0 h
    | succ k_1 ih7 =>
      intro v1_1 v2_1 v3_1 ls h hl
      refine lv_iload_n hx hb dX5_debtor_7 rfl (lv_at hl 3 rfl) ?_
      refine lv_aload_n hx hb dX5_debtor_8 rfl (lv_at hl 0 rfl) ?_
      refine jr_get (k := 0) hx hb hts hown hK hP jb_0 (Nat.le_of_ble_eq_true rfl) jlX5_12 rfl dX5_debtor_9 ?_
      refine jr_get (k := 5) hx hb hts hown hK hP jb_1 (Nat.le_of_ble_eq_true rfl) jlX5_158 rfl dX5_debtor_12 ?_
      refine lv_icmp_ge (tgt := 46) hx hb dX5_debtor_15 rfl (fun c15 => ?_) (fun c15 => ?_)
      · replace h := jh_t h c15
        refine lv_iload_n hx hb dX5_debtor_46 rfl (lv_at hl 1 rfl) ?_
        exact je_i hx hb hr hlocks (Option.some.inj h) dX5_debtor_47
      · replace h := jh_f h c15
        refine lv_aload_n hx hb dX5_debtor_18 rfl (lv_at hl 0 rfl) ?_
        refine jr_get (k := 0) hx hb hts hown hK hP jb_0 (Nat.le_of_ble_eq_true rfl) jlX5_12 rfl dX5_debtor_19 ?_
        refine lv_iload_n hx hb dX5_debtor_22 rfl (lv_at hl 3 rfl) ?_
        refine lv_iconst (v := 0) hx hb dX5_debtor_23 jci_0 ?_
        obtain ⟨r2, e2, h⟩ := jh_b h
        refine jr_kp (jr_rv (As := [.int v3_1, .int 0]) (rest := []) S hK hP jb_1 rfl (m_X4_priceBehind l X M jb_1 v3_1 0 r2 e2) jw_X4_priceBehind ji_X4_priceBehind jmX5_137 rfl rfl ⟨(Nat.le_of_ble_eq_true rfl), (Nat.le_of_ble_eq_true rfl)⟩ rfl hl.1 rfl (Nat.le_of_ble_eq_true rfl) dX5_debtor_24 ⟨Nat.zero_le _, Nat.zero_le _⟩) ?_
        refine lv_istore (lv' := [(4, .int r2), (0, .ref (jO X 0)), (1, .int v1_1), (2, .int v2_1), (3, .int v3_1)]) hx hb dX5_debtor_27 hl (Nat.le_of_ble_eq_true rfl) rfl (fun ls hl => ?_)
        refine lv_iload hx hb dX5_debtor_29 (lv_at hl 0 rfl) ?_
        refine lv_iload_n hx hb dX5_debtor_31 rfl (lv_at hl 3 rfl) ?_
        refine lv_icmp_le (tgt := 40) hx hb dX5_debtor_32 rfl (fun c32 => ?_) (fun c32 => ?_)
        · replace h := jh_t h c32
          refine lv_iinc (v := (v3_1 + 1)) (lv' := [(3, .int (v3_1 + 1)), (4, .int r2), (0, .ref (jO X 0)), (1, .int v1_1), (2, .int v2_1)]) hx hb dX5_debtor_40 hl (k := 4) rfl (congrArg _ jci_1) (Nat.le_of_ble_eq_true rfl) rfl (fun ls hl => ?_)
          refine lv_goto (tgt := 7) hx hb dX5_debtor_43 rfl ?_
          exact ih7 v1_1 v2_1 (v3_1 + 1) _ h (lv_sub hl [2, 3, 4, 0] rfl)
        · replace h := jh_f h c32
          refine lv_iload hx hb dX5_debtor_35 (lv_at hl 0 rfl) ?_
          refine lv_istore_n (lv' := [(2, .int r2), (4, .int r2), (0, .ref (jO X 0)), (1, .int v1_1), (3, .int v3_1)]) hx hb dX5_debtor_37 rfl hl (Nat.le_of_ble_eq_true rfl) rfl (fun ls hl => ?_)
          refine lv_iload_n hx hb dX5_debtor_38 rfl (lv_at hl 4 rfl) ?_
          refine lv_istore_n (lv' := [(1, .int v3_1), (2, .int r2), (4, .int r2), (0, .ref (jO X 0)), (3, .int v3_1)]) hx hb dX5_debtor_39 rfl hl (Nat.le_of_ble_eq_true rfl) rfl (fun ls hl => ?_)
          refine lv_iinc (v := (v3_1 + 1)) (lv' := [(3, .int (v3_1 + 1)), (1, .int v3_1), (2, .int r2), (4, .int r2), (0, .ref (jO X 0))]) hx hb dX5_debtor_40 hl (k := 4) rfl (congrArg _ jci_1) (Nat.le_of_ble_eq_true rfl) rfl (fun ls hl => ?_)
          refine lv_goto (tgt := 7) hx hb dX5_debtor_43 rfl ?_
          exact ih7 v3_1 r2 (v3_1 + 1) _ h (lv_sub hl [4, 1, 2, 0] rfl)
  exact L7 10000 (-9) 0 0 _ h (lv_sub hl [3, 2, 1, 0] rfl)
def f_X5_richest_j16 (M_1 : jm) (v1_1 : Int32) : Option (Int32 × jm) := (if v1_1 = 0 then (jb (f_X5_mostOwed M_1) fun r3 => (some (r3, M_1))) else (jb (f_X5_debtor M_1) fun r2 => (some (r2, M_1))))
def f_X5_richest (M : jm) (v1 : Int32) : Option (Int32 × jm) := (if v1 = 0 then (f_X5_richest_j16 M v1) else (if v1 = 1 then (f_X5_richest_j16 M v1) else (jb2 (f_X5_refuse M (-2)) fun r4 M_4 => (some (r4, M_4)))))
set_option maxRecDepth 100000 in
theorem m_X5_richest (l : Launch) (X : jX) (A : Nat → Prop) (hs : jst X A) (M : jm) (v1 : Int32) (r : Int32) (N : jm) (h : f_X5_richest M v1 = some (r, N)) : Met l yX5_richest (jws yX5_richest cX5_richest 2 (some .int)) (jrm 7 167) (va_Pc [.ref (jO X 0), .int v1] (jB X M)) (jQm X A (some (.int r)) N) 0 0 A := by
  refine jm_of (by decide) (Nat.le_of_ble_eq_true rfl) ?_
  intro p e s m args below meth c ls S hr hlocks hB hl
  have S : CallFix p m c cX5_richest 2 s args jtb RX5 := S
  obtain ⟨hx, hb, hml, hown, hts⟩ := id S
  obtain ⟨hP, hK⟩ := hB
  have hN := hK.2
  have hS : va_S A s.heap s.heap [] := va_S.rf
  have hl : lv_has ls 2 [(0, .ref (jO X 0)), (1, .int v1)] := hl
  refine lv_iload_n hx hb dX5_richest_0 rfl (lv_at hl 1 rfl) ?_
  have J16 : ∀ (M_1 : jm) (H : Heap) (locs : List Loc) (v1_1 : Int32) (ls : Array Slot), f_X5_richest_j16 M_1 v1_1 = some (r, N) → jrp X M_1 H → va_S A s.heap H locs → lv_has ls 2 [(0, .ref (jO X 0)), (1, .int v1_1)] → W p l e (jrm 7 167) s m args below meth c H locs 0 0 (MQ below (jQm X A (some (.int r)) N) args s 0 0 A) (F0 m 16 ls []) := by
    intro M_1 H locs v1_1 ls h hP hS hl
    refine lv_iload_n hx hb dX5_richest_16 rfl (lv_at hl 1 rfl) ?_
    refine lv_if_ne (tgt := 27) hx hb dX5_richest_17 rfl (fun c17 => ?_) (fun c17 => ?_)
    · replace h := jh_f h c17
      refine lv_aload_n hx hb dX5_richest_27 rfl (lv_at hl 0 rfl) ?_
      obtain ⟨r2, e2, h⟩ := jh_b h
      refine jr_kp (jr_rv (As := []) (rest := []) S hK hP jb_0 rfl (m_X5_debtor l X M_1  r2 e2) jw_X5_debtor ji_X5_debtor jmX5_211 rfl rfl ⟨(Nat.le_of_ble_eq_true rfl), (Nat.le_of_ble_eq_true rfl)⟩ rfl hl.1 rfl (Nat.le_of_ble_eq_true rfl) dX5_richest_28 ⟨Nat.zero_le _, Nat.zero_le _⟩) ?_
      exact je_mi hx hb hr hlocks hK hP hS h dX5_richest_31
    · replace h := jh_t h c17
      refine lv_aload_n hx hb dX5_richest_20 rfl (lv_at hl 0 rfl) ?_
      obtain ⟨r3, e3, h⟩ := jh_b h
      refine jr_kp (jr_rv (As := []) (rest := []) S hK hP jb_0 rfl (m_X5_mostOwed l X M_1  r3 e3) jw_X5_mostOwed ji_X5_mostOwed jmX5_207 rfl rfl ⟨(Nat.le_of_ble_eq_true rfl), (Nat.le_of_ble_eq_true rfl)⟩ rfl hl.1 rfl (Nat.le_of_ble_eq_true rfl) dX5_richest_21 ⟨Nat.zero_le _, Nat.zero_le _⟩) ?_
      refine lv_goto (tgt := 31) hx hb dX5_richest_24 rfl ?_
      exact je_mi hx hb hr hlocks hK hP hS h dX5_richest_31
  refine lv_if_eq (tgt := 16) hx hb dX5_richest_1 rfl (fun c1 => ?_) (fun c1 => ?_)
  · replace h := jh_t h c1
    exact J16 M _ _ v1 _ h hP hS hl
  · replace h := jh_f h c1
    refine lv_iload_n hx hb dX5_richest_4 rfl (lv_at hl 1 rfl) ?_
    refine lv_iconst (v := 1) hx hb dX5_richest_5 jci_1 ?_
    refine lv_icmp_eq (tgt := 16) hx hb dX5_richest_6 rfl (fun c6 => ?_) (fun c6 => ?_)
    · replace h := jh_t h c6
      exact J16 M _ _ v1 _ h hP hS hl
    · replace h := jh_f h c6
      refine lv_aload_n hx hb dX5_richest_9 rfl (lv_at hl 0 rfl) ?_
      refine lv_bipush (v := (-2)) hx hb dX5_richest_10 jcb_m2 ?_
      obtain ⟨r4, M_4, e4, h⟩ := jh_b2 h
      refine jr_km (jr_rv (As := [.int (-2)]) (rest := []) S hK hP jb_0 rfl (m_X5_refuse l X A hs M (-2) r4 M_4 e4) jw_X5_refuse ji_X5_refuse jmX5_65 rfl rfl ⟨(Nat.le_of_ble_eq_true rfl), (Nat.le_of_ble_eq_true rfl)⟩ rfl hl.1 rfl (Nat.le_of_ble_eq_true rfl) dX5_richest_12 ⟨Nat.zero_le _, Nat.zero_le _⟩) hS (fun H locs hP hS => ?_)
      exact je_mi hx hb hr hlocks hK hP hS h dX5_richest_15
def f_X5_way_j40 (M_4 : jm) (v1_4 : Int32) (v2_4 : Int32) (v3_4 : Int32) : Option (Int32 × jm) := (jb (f_X3_find M_4 1 v1_4 v2_4) fun M_5 => (if v3_4 = 0 then (some ((M_5 14 1 0), M_5)) else (some ((M_5 14 2 0), M_5))))
def f_X5_way (M : jm) (v1 : Int32) (v2 : Int32) (v3 : Int32) : Option (Int32 × jm) := (if (f_X4_hasWalker M 1 v1) = 0 then (jb2 (f_X5_refuse M (-1)) fun r2 M_2 => (some (r2, M_2))) else (if (f_X5_isCell v2) = 0 then (jb2 (f_X5_refuse M (-1)) fun r7 M_7 => (some (r7, M_7))) else (if v3 = 0 then (f_X5_way_j40 M v1 v2 v3) else (if v3 = 1 then (f_X5_way_j40 M v1 v2 v3) else (jb2 (f_X5_refuse M (-2)) fun r6 M_6 => (some (r6, M_6)))))))
set_option maxRecDepth 100000 in
theorem m_X5_way (l : Launch) (X : jX) (A : Nat → Prop) (hs : jst X A) (M : jm) (v1 : Int32) (v2 : Int32) (v3 : Int32) (r : Int32) (N : jm) (h : f_X5_way M v1 v2 v3 = some (r, N)) : Met l yX5_way (jws yX5_way cX5_way 4 (some .int)) (jrm 6 146) (va_Pc [.ref (jO X 0), .int v1, .int v2, .int v3] (jB X M)) (jQm X A (some (.int r)) N) 0 0 A := by
  refine jm_of (by decide) (Nat.le_of_ble_eq_true rfl) ?_
  intro p e s m args below meth c ls S hr hlocks hB hl
  have S : CallFix p m c cX5_way 4 s args jtb RX5 := S
  obtain ⟨hx, hb, hml, hown, hts⟩ := id S
  obtain ⟨hP, hK⟩ := hB
  have hN := hK.2
  have hS : va_S A s.heap s.heap [] := va_S.rf
  have hl : lv_has ls 4 [(0, .ref (jO X 0)), (1, .int v1), (2, .int v2), (3, .int v3)] := hl
  refine lv_aload_n hx hb dX5_way_0 rfl (lv_at hl 0 rfl) ?_
  refine jr_get (k := 0) hx hb hts hown hK hP jb_0 (Nat.le_of_ble_eq_true rfl) jlX5_12 rfl dX5_way_1 ?_
  refine lv_iload_n hx hb dX5_way_4 rfl (lv_at hl 1 rfl) ?_
  refine jr_kp (jr_rv (As := [.int v1]) (rest := []) S hK hP jb_1 rfl (m_X4_hasWalker l X M jb_1 v1 _ rfl) jw_X4_hasWalker ji_X4_hasWalker jmX5_119 rfl rfl ⟨(Nat.le_of_ble_eq_true rfl), (Nat.le_of_ble_eq_true rfl)⟩ rfl hl.1 rfl (Nat.le_of_ble_eq_true rfl) dX5_way_5 ⟨Nat.zero_le _, Nat.zero_le _⟩) ?_
  refine lv_if_eq (tgt := 18) hx hb dX5_way_8 rfl (fun c8 => ?_) (fun c8 => ?_)
  · replace h := jh_t h c8
    refine lv_aload_n hx hb dX5_way_18 rfl (lv_at hl 0 rfl) ?_
    refine lv_iconst (v := (-1)) hx hb dX5_way_19 jci_m1 ?_
    obtain ⟨r2, M_2, e2, h⟩ := jh_b2 h
    refine jr_km (jr_rv (As := [.int (-1)]) (rest := []) S hK hP jb_0 rfl (m_X5_refuse l X A hs M (-1) r2 M_2 e2) jw_X5_refuse ji_X5_refuse jmX5_65 rfl rfl ⟨(Nat.le_of_ble_eq_true rfl), (Nat.le_of_ble_eq_true rfl)⟩ rfl hl.1 rfl (Nat.le_of_ble_eq_true rfl) dX5_way_20 ⟨Nat.zero_le _, Nat.zero_le _⟩) hS (fun H locs hP hS => ?_)
    exact je_mi hx hb hr hlocks hK hP hS h dX5_way_23
  · replace h := jh_f h c8
    refine lv_iload_n hx hb dX5_way_11 rfl (lv_at hl 2 rfl) ?_
    refine jr_kp (jr_rs (As := [.int v2]) (rest := []) S hN (m_X5_isCell l v2 _ rfl) jw_X5_isCell js_X5_isCell jmX5_151 rfl rfl ⟨(Nat.le_of_ble_eq_true rfl), (Nat.le_of_ble_eq_true rfl)⟩ rfl hl.1 rfl (Nat.le_of_ble_eq_true rfl) dX5_way_12 ⟨Nat.zero_le _, Nat.zero_le _⟩) ?_
    refine lv_if_ne (tgt := 24) hx hb dX5_way_15 rfl (fun c15 => ?_) (fun c15 => ?_)
    · replace h := jh_f h c15
      refine lv_iload_n hx hb dX5_way_24 rfl (lv_at hl 3 rfl) ?_
      have J40 : ∀ (M_4 : jm) (H : Heap) (locs : List Loc) (v1_4 : Int32) (v2_4 : Int32) (v3_4 : Int32) (ls : Array Slot), f_X5_way_j40 M_4 v1_4 v2_4 v3_4 = some (r, N) → jrp X M_4 H → va_S A s.heap H locs → lv_has ls 4 [(0, .ref (jO X 0)), (1, .int v1_4), (2, .int v2_4), (3, .int v3_4)] → W p l e (jrm 6 146) s m args below meth c H locs 0 0 (MQ below (jQm X A (some (.int r)) N) args s 0 0 A) (F0 m 40 ls []) := by
        intro M_4 H locs v1_4 v2_4 v3_4 ls h hP hS hl
        refine lv_aload_n hx hb dX5_way_40 rfl (lv_at hl 0 rfl) ?_
        refine jr_get (k := 6) hx hb hts hown hK hP jb_0 (Nat.le_of_ble_eq_true rfl) jlX5_43 rfl dX5_way_41 ?_
        refine lv_aload_n hx hb dX5_way_44 rfl (lv_at hl 0 rfl) ?_
        refine jr_get (k := 0) hx hb hts hown hK hP jb_0 (Nat.le_of_ble_eq_true rfl) jlX5_12 rfl dX5_way_45 ?_
        refine lv_iload_n hx hb dX5_way_48 rfl (lv_at hl 1 rfl) ?_
        refine lv_iload_n hx hb dX5_way_49 rfl (lv_at hl 2 rfl) ?_
        obtain ⟨M_5, e5, h⟩ := jh_b h
        refine jr_kv (jr_rv (As := [.ref (jO X 1), .int v1_4, .int v2_4]) (rest := []) S hK hP jb_14 rfl (m_X3_find l X A hs M_4 jb_1 v1_4 v2_4 M_5 e5) jw_X3_find ji_X3_find jmX5_214 rfl rfl ⟨(Nat.le_of_ble_eq_true rfl), (Nat.le_of_ble_eq_true rfl)⟩ rfl hl.1 rfl (Nat.le_of_ble_eq_true rfl) dX5_way_50 ⟨Nat.zero_le _, Nat.zero_le _⟩) hS (fun H locs hP hS => ?_)
        refine lv_iload_n hx hb dX5_way_53 rfl (lv_at hl 3 rfl) ?_
        refine lv_if_ne (tgt := 67) hx hb dX5_way_54 rfl (fun c54 => ?_) (fun c54 => ?_)
        · replace h := jh_f h c54
          refine lv_aload_n hx hb dX5_way_67 rfl (lv_at hl 0 rfl) ?_
          refine jr_get (k := 6) hx hb hts hown hK hP jb_0 (Nat.le_of_ble_eq_true rfl) jlX5_43 rfl dX5_way_68 ?_
          refine jr_get (k := 2) hx hb hts hown hK hP jb_14 (Nat.le_of_ble_eq_true rfl) jlX5_221 rfl dX5_way_71 ?_
          exact je_mi hx hb hr hlocks hK hP hS h dX5_way_74
        · replace h := jh_t h c54
          refine lv_aload_n hx hb dX5_way_57 rfl (lv_at hl 0 rfl) ?_
          refine jr_get (k := 6) hx hb hts hown hK hP jb_0 (Nat.le_of_ble_eq_true rfl) jlX5_43 rfl dX5_way_58 ?_
          refine jr_get (k := 1) hx hb hts hown hK hP jb_14 (Nat.le_of_ble_eq_true rfl) jlX5_218 rfl dX5_way_61 ?_
          refine lv_goto (tgt := 74) hx hb dX5_way_64 rfl ?_
          exact je_mi hx hb hr hlocks hK hP hS h dX5_way_74
      refine lv_if_eq (tgt := 40) hx hb dX5_way_25 rfl (fun c25 => ?_) (fun c25 => ?_)
      · replace h := jh_t h c25
        exact J40 M _ _ v1 v2 v3 _ h hP hS hl
      · replace h := jh_f h c25
        refine lv_iload_n hx hb dX5_way_28 rfl (lv_at hl 3 rfl) ?_
        refine lv_iconst (v := 1) hx hb dX5_way_29 jci_1 ?_
        refine lv_icmp_eq (tgt := 40) hx hb dX5_way_30 rfl (fun c30 => ?_) (fun c30 => ?_)
        · replace h := jh_t h c30
          exact J40 M _ _ v1 v2 v3 _ h hP hS hl
        · replace h := jh_f h c30
          refine lv_aload_n hx hb dX5_way_33 rfl (lv_at hl 0 rfl) ?_
          refine lv_bipush (v := (-2)) hx hb dX5_way_34 jcb_m2 ?_
          obtain ⟨r6, M_6, e6, h⟩ := jh_b2 h
          refine jr_km (jr_rv (As := [.int (-2)]) (rest := []) S hK hP jb_0 rfl (m_X5_refuse l X A hs M (-2) r6 M_6 e6) jw_X5_refuse ji_X5_refuse jmX5_65 rfl rfl ⟨(Nat.le_of_ble_eq_true rfl), (Nat.le_of_ble_eq_true rfl)⟩ rfl hl.1 rfl (Nat.le_of_ble_eq_true rfl) dX5_way_36 ⟨Nat.zero_le _, Nat.zero_le _⟩) hS (fun H locs hP hS => ?_)
          exact je_mi hx hb hr hlocks hK hP hS h dX5_way_39
    · replace h := jh_t h c15
      refine lv_aload_n hx hb dX5_way_18 rfl (lv_at hl 0 rfl) ?_
      refine lv_iconst (v := (-1)) hx hb dX5_way_19 jci_m1 ?_
      obtain ⟨r7, M_7, e7, h⟩ := jh_b2 h
      refine jr_km (jr_rv (As := [.int (-1)]) (rest := []) S hK hP jb_0 rfl (m_X5_refuse l X A hs M (-1) r7 M_7 e7) jw_X5_refuse ji_X5_refuse jmX5_65 rfl rfl ⟨(Nat.le_of_ble_eq_true rfl), (Nat.le_of_ble_eq_true rfl)⟩ rfl hl.1 rfl (Nat.le_of_ble_eq_true rfl) dX5_way_20 ⟨Nat.zero_le _, Nat.zero_le _⟩) hS (fun H locs hP hS => ?_)
      exact je_mi hx hb hr hlocks hK hP hS h dX5_way_23
def f_X5_payAll (M : jm) (v1 : Int32) (v2 : Int32) : Option (Int32 × jm) := (if (f_X4_hasWalker M 1 v1) = 0 then (jb2 (f_X5_refuse M (-1)) fun r7 M_7 => (some (r7, M_7))) else (if (-1) ≤ v2 then (jb (f_X2_plan M 1 v1) fun M_2 => (if v2 = (-1) then (jb (f_X4_priceBehind M_2 1 v1 0) fun r4 => (jgd v1 6 (jb (f_X2_fewest M_2 1 (M_2 1 6 (Int32.toNatClampNeg v1)) (M_2 15 1 0)) fun r5 => (some ((r4 + (3 * r5)), M_2))))) else (jgd v1 6 (jb (f_X2_stop M_2 1 (M_2 1 6 (Int32.toNatClampNeg v1)) v2) fun r3 => (some (r3, M_2)))))) else (jb2 (f_X5_refuse M (-4)) fun r6 M_6 => (some (r6, M_6)))))
set_option maxRecDepth 100000 in
theorem m_X5_payAll (l : Launch) (X : jX) (A : Nat → Prop) (hs : jst X A) (M : jm) (v1 : Int32) (v2 : Int32) (r : Int32) (N : jm) (h : f_X5_payAll M v1 v2 = some (r, N)) : Met l yX5_payAll (jws yX5_payAll cX5_payAll 3 (some .int)) (jrm 6 143) (va_Pc [.ref (jO X 0), .int v1, .int v2] (jB X M)) (jQm X A (some (.int r)) N) 0 0 A := by
  refine jm_of (by decide) (Nat.le_of_ble_eq_true rfl) ?_
  intro p e s m args below meth c ls S hr hlocks hB hl
  have S : CallFix p m c cX5_payAll 3 s args jtb RX5 := S
  obtain ⟨hx, hb, hml, hown, hts⟩ := id S
  obtain ⟨hP, hK⟩ := hB
  have hN := hK.2
  have hS : va_S A s.heap s.heap [] := va_S.rf
  have hl : lv_has ls 3 [(0, .ref (jO X 0)), (1, .int v1), (2, .int v2)] := hl
  refine lv_aload_n hx hb dX5_payAll_0 rfl (lv_at hl 0 rfl) ?_
  refine jr_get (k := 0) hx hb hts hown hK hP jb_0 (Nat.le_of_ble_eq_true rfl) jlX5_12 rfl dX5_payAll_1 ?_
  refine lv_iload_n hx hb dX5_payAll_4 rfl (lv_at hl 1 rfl) ?_
  refine jr_kp (jr_rv (As := [.int v1]) (rest := []) S hK hP jb_1 rfl (m_X4_hasWalker l X M jb_1 v1 _ rfl) jw_X4_hasWalker ji_X4_hasWalker jmX5_119 rfl rfl ⟨(Nat.le_of_ble_eq_true rfl), (Nat.le_of_ble_eq_true rfl)⟩ rfl hl.1 rfl (Nat.le_of_ble_eq_true rfl) dX5_payAll_5 ⟨Nat.zero_le _, Nat.zero_le _⟩) ?_
  refine lv_if_ne (tgt := 17) hx hb dX5_payAll_8 rfl (fun c8 => ?_) (fun c8 => ?_)
  · replace h := jh_f h c8
    refine lv_iload_n hx hb dX5_payAll_17 rfl (lv_at hl 2 rfl) ?_
    refine lv_iconst (v := (-1)) hx hb dX5_payAll_18 jci_m1 ?_
    refine lv_icmp_ge (tgt := 29) hx hb dX5_payAll_19 rfl (fun c19 => ?_) (fun c19 => ?_)
    · replace h := jh_t h c19
      refine lv_aload_n hx hb dX5_payAll_29 rfl (lv_at hl 0 rfl) ?_
      refine jr_get (k := 7) hx hb hts hown hK hP jb_0 (Nat.le_of_ble_eq_true rfl) jlX5_50 rfl dX5_payAll_30 ?_
      refine lv_aload_n hx hb dX5_payAll_33 rfl (lv_at hl 0 rfl) ?_
      refine jr_get (k := 0) hx hb hts hown hK hP jb_0 (Nat.le_of_ble_eq_true rfl) jlX5_12 rfl dX5_payAll_34 ?_
      refine lv_iload_n hx hb dX5_payAll_37 rfl (lv_at hl 1 rfl) ?_
      obtain ⟨M_2, e2, h⟩ := jh_b h
      refine jr_kv (jr_rv (As := [.ref (jO X 1), .int v1]) (rest := []) S hK hP jb_15 rfl (m_X2_plan l X A hs M jb_1 v1 M_2 e2) jw_X2_plan ji_X2_plan jmX5_224 rfl rfl ⟨(Nat.le_of_ble_eq_true rfl), (Nat.le_of_ble_eq_true rfl)⟩ rfl hl.1 rfl (Nat.le_of_ble_eq_true rfl) dX5_payAll_38 ⟨Nat.zero_le _, Nat.zero_le _⟩) hS (fun H locs hP hS => ?_)
      refine lv_iload_n hx hb dX5_payAll_41 rfl (lv_at hl 2 rfl) ?_
      refine lv_iconst (v := (-1)) hx hb dX5_payAll_42 jci_m1 ?_
      refine lv_icmp_ne (tgt := 86) hx hb dX5_payAll_43 rfl (fun c43 => ?_) (fun c43 => ?_)
      · replace h := jh_f h c43
        refine lv_aload_n hx hb dX5_payAll_86 rfl (lv_at hl 0 rfl) ?_
        refine jr_get (k := 7) hx hb hts hown hK hP jb_0 (Nat.le_of_ble_eq_true rfl) jlX5_50 rfl dX5_payAll_87 ?_
        refine lv_aload_n hx hb dX5_payAll_90 rfl (lv_at hl 0 rfl) ?_
        refine jr_get (k := 0) hx hb hts hown hK hP jb_0 (Nat.le_of_ble_eq_true rfl) jlX5_12 rfl dX5_payAll_91 ?_
        refine lv_aload_n hx hb dX5_payAll_94 rfl (lv_at hl 0 rfl) ?_
        refine jr_get (k := 0) hx hb hts hown hK hP jb_0 (Nat.le_of_ble_eq_true rfl) jlX5_12 rfl dX5_payAll_95 ?_
        refine jr_get (k := 6) hx hb hts hown hK hP jb_1 (Nat.le_of_ble_eq_true rfl) jlX5_122 rfl dX5_payAll_98 ?_
        refine lv_iload_n hx hb dX5_payAll_101 rfl (lv_at hl 1 rfl) ?_
        obtain ⟨g102, h⟩ := jh_gd h
        refine jr_ald (n := 6) hx hb hK hP jb_1 rfl g102 dX5_payAll_102 ?_
        refine lv_iload_n hx hb dX5_payAll_103 rfl (lv_at hl 2 rfl) ?_
        obtain ⟨r3, e3, h⟩ := jh_b h
        refine jr_kp (jr_rv (As := [.ref (jO X 1), .int (M_2 1 6 (Int32.toNatClampNeg v1)), .int v2]) (rest := []) S hK hP jb_15 rfl (m_X2_stop l X M_2 jb_1 (M_2 1 6 (Int32.toNatClampNeg v1)) v2 r3 e3) jw_X2_stop ji_X2_stop jmX5_235 rfl rfl ⟨(Nat.le_of_ble_eq_true rfl), (Nat.le_of_ble_eq_true rfl)⟩ rfl hl.1 rfl (Nat.le_of_ble_eq_true rfl) dX5_payAll_104 ⟨Nat.zero_le _, Nat.zero_le _⟩) ?_
        exact je_mi hx hb hr hlocks hK hP hS h dX5_payAll_107
      · replace h := jh_t h c43
        refine lv_aload_n hx hb dX5_payAll_46 rfl (lv_at hl 0 rfl) ?_
        refine jr_get (k := 0) hx hb hts hown hK hP jb_0 (Nat.le_of_ble_eq_true rfl) jlX5_12 rfl dX5_payAll_47 ?_
        refine lv_iload_n hx hb dX5_payAll_50 rfl (lv_at hl 1 rfl) ?_
        refine lv_iconst (v := 0) hx hb dX5_payAll_51 jci_0 ?_
        obtain ⟨r4, e4, h⟩ := jh_b h
        refine jr_kp (jr_rv (As := [.int v1, .int 0]) (rest := []) S hK hP jb_1 rfl (m_X4_priceBehind l X M_2 jb_1 v1 0 r4 e4) jw_X4_priceBehind ji_X4_priceBehind jmX5_137 rfl rfl ⟨(Nat.le_of_ble_eq_true rfl), (Nat.le_of_ble_eq_true rfl)⟩ rfl hl.1 rfl (Nat.le_of_ble_eq_true rfl) dX5_payAll_52 ⟨Nat.zero_le _, Nat.zero_le _⟩) ?_
        refine lv_iconst (v := 3) hx hb dX5_payAll_55 jci_3 ?_
        refine lv_aload_n hx hb dX5_payAll_56 rfl (lv_at hl 0 rfl) ?_
        refine jr_get (k := 7) hx hb hts hown hK hP jb_0 (Nat.le_of_ble_eq_true rfl) jlX5_50 rfl dX5_payAll_57 ?_
        refine lv_aload_n hx hb dX5_payAll_60 rfl (lv_at hl 0 rfl) ?_
        refine jr_get (k := 0) hx hb hts hown hK hP jb_0 (Nat.le_of_ble_eq_true rfl) jlX5_12 rfl dX5_payAll_61 ?_
        refine lv_aload_n hx hb dX5_payAll_64 rfl (lv_at hl 0 rfl) ?_
        refine jr_get (k := 0) hx hb hts hown hK hP jb_0 (Nat.le_of_ble_eq_true rfl) jlX5_12 rfl dX5_payAll_65 ?_
        refine jr_get (k := 6) hx hb hts hown hK hP jb_1 (Nat.le_of_ble_eq_true rfl) jlX5_122 rfl dX5_payAll_68 ?_
        refine lv_iload_n hx hb dX5_payAll_71 rfl (lv_at hl 1 rfl) ?_
        obtain ⟨g72, h⟩ := jh_gd h
        refine jr_ald (n := 6) hx hb hK hP jb_1 rfl g72 dX5_payAll_72 ?_
        refine lv_aload_n hx hb dX5_payAll_73 rfl (lv_at hl 0 rfl) ?_
        refine jr_get (k := 7) hx hb hts hown hK hP jb_0 (Nat.le_of_ble_eq_true rfl) jlX5_50 rfl dX5_payAll_74 ?_
        refine jr_get (k := 1) hx hb hts hown hK hP jb_15 (Nat.le_of_ble_eq_true rfl) jlX5_228 rfl dX5_payAll_77 ?_
        obtain ⟨r5, e5, h⟩ := jh_b h
        refine jr_kp (jr_rv (As := [.ref (jO X 1), .int (M_2 1 6 (Int32.toNatClampNeg v1)), .int (M_2 15 1 0)]) (rest := [.int 3, .int r4]) S hK hP jb_15 rfl (m_X2_fewest l X M_2 jb_1 (M_2 1 6 (Int32.toNatClampNeg v1)) (M_2 15 1 0) r5 e5) jw_X2_fewest ji_X2_fewest jmX5_231 rfl rfl ⟨(Nat.le_of_ble_eq_true rfl), (Nat.le_of_ble_eq_true rfl)⟩ rfl hl.1 rfl (Nat.le_of_ble_eq_true rfl) dX5_payAll_80 ⟨Nat.zero_le _, Nat.zero_le _⟩) ?_
        refine lv_imul hx hb dX5_payAll_83 ?_
        refine lv_iadd hx hb dX5_payAll_84 ?_
        exact je_mi hx hb hr hlocks hK hP hS h dX5_payAll_85
    · replace h := jh_f h c19
      refine lv_aload_n hx hb dX5_payAll_22 rfl (lv_at hl 0 rfl) ?_
      refine lv_bipush (v := (-4)) hx hb dX5_payAll_23 jcb_m4 ?_
      obtain ⟨r6, M_6, e6, h⟩ := jh_b2 h
      refine jr_km (jr_rv (As := [.int (-4)]) (rest := []) S hK hP jb_0 rfl (m_X5_refuse l X A hs M (-4) r6 M_6 e6) jw_X5_refuse ji_X5_refuse jmX5_65 rfl rfl ⟨(Nat.le_of_ble_eq_true rfl), (Nat.le_of_ble_eq_true rfl)⟩ rfl hl.1 rfl (Nat.le_of_ble_eq_true rfl) dX5_payAll_25 ⟨Nat.zero_le _, Nat.zero_le _⟩) hS (fun H locs hP hS => ?_)
      exact je_mi hx hb hr hlocks hK hP hS h dX5_payAll_28
  · replace h := jh_t h c8
    refine lv_aload_n hx hb dX5_payAll_11 rfl (lv_at hl 0 rfl) ?_
    refine lv_iconst (v := (-1)) hx hb dX5_payAll_12 jci_m1 ?_
    obtain ⟨r7, M_7, e7, h⟩ := jh_b2 h
    refine jr_km (jr_rv (As := [.int (-1)]) (rest := []) S hK hP jb_0 rfl (m_X5_refuse l X A hs M (-1) r7 M_7 e7) jw_X5_refuse ji_X5_refuse jmX5_65 rfl rfl ⟨(Nat.le_of_ble_eq_true rfl), (Nat.le_of_ble_eq_true rfl)⟩ rfl hl.1 rfl (Nat.le_of_ble_eq_true rfl) dX5_payAll_13 ⟨Nat.zero_le _, Nat.zero_le _⟩) hS (fun H locs hP hS => ?_)
    exact je_mi hx hb hr hlocks hK hP hS h dX5_payAll_16
def f_X5_clear (M : jm) (v1 : Int32) (v2 : Int32) : Option (Int32 × jm) := (if (f_X4_hasHouse M 1 v1) = 0 then (jb2 (f_X5_refuse M (-1)) fun r2 M_2 => (some ((1000000000 - r2), M_2))) else (if (f_X4_hasHouse M 1 v2) = 0 then (jb2 (f_X5_refuse M (-1)) fun r4 M_4 => (some ((1000000000 - r4), M_4))) else (if v1 = v2 then (jb2 (f_X5_refuse M (-1)) fun r9 M_9 => (some ((1000000000 - r9), M_9))) else (jb (f_X4_owersBehind M 1 v1 0) fun r5 => (jb (f_X4_owersBehind M 1 v2 0) fun r6 => (some (((f_J6_bitCount_0f7a4 (r5 &&& (r6 ^^^ (-1)))) - (f_J6_bitCount_0f7a4 (r6 &&& (r5 ^^^ (-1))))), M)))))))
set_option maxRecDepth 100000 in
theorem m_X5_clear (l : Launch) (X : jX) (A : Nat → Prop) (hs : jst X A) (M : jm) (v1 : Int32) (v2 : Int32) (r : Int32) (N : jm) (h : f_X5_clear M v1 v2 = some (r, N)) : Met l yX5_clear (jws yX5_clear cX5_clear 5 (some .int)) (jrm 5 119) (va_Pc [.ref (jO X 0), .int v1, .int v2] (jB X M)) (jQm X A (some (.int r)) N) 0 0 A := by
  refine jm_of (by decide) (Nat.le_of_ble_eq_true rfl) ?_
  intro p e s m args below meth c ls S hr hlocks hB hl
  have S : CallFix p m c cX5_clear 5 s args jtb RX5 := S
  obtain ⟨hx, hb, hml, hown, hts⟩ := id S
  obtain ⟨hP, hK⟩ := hB
  have hN := hK.2
  have hS : va_S A s.heap s.heap [] := va_S.rf
  have hl : lv_has ls 5 [(0, .ref (jO X 0)), (1, .int v1), (2, .int v2)] := hl
  refine lv_aload_n hx hb dX5_clear_0 rfl (lv_at hl 0 rfl) ?_
  refine jr_get (k := 0) hx hb hts hown hK hP jb_0 (Nat.le_of_ble_eq_true rfl) jlX5_12 rfl dX5_clear_1 ?_
  refine lv_iload_n hx hb dX5_clear_4 rfl (lv_at hl 1 rfl) ?_
  refine jr_kp (jr_rv (As := [.int v1]) (rest := []) S hK hP jb_1 rfl (m_X4_hasHouse l X M jb_1 v1 _ rfl) jw_X4_hasHouse ji_X4_hasHouse jmX5_90 rfl rfl ⟨(Nat.le_of_ble_eq_true rfl), (Nat.le_of_ble_eq_true rfl)⟩ rfl hl.1 rfl (Nat.le_of_ble_eq_true rfl) dX5_clear_5 ⟨Nat.zero_le _, Nat.zero_le _⟩) ?_
  refine lv_if_eq (tgt := 27) hx hb dX5_clear_8 rfl (fun c8 => ?_) (fun c8 => ?_)
  · replace h := jh_t h c8
    refine lv_ldc hx hb hown (hts _ jkX5_238) dX5_clear_27 ?_
    refine lv_aload_n hx hb dX5_clear_29 rfl (lv_at hl 0 rfl) ?_
    refine lv_iconst (v := (-1)) hx hb dX5_clear_30 jci_m1 ?_
    obtain ⟨r2, M_2, e2, h⟩ := jh_b2 h
    refine jr_km (jr_rv (As := [.int (-1)]) (rest := [.int 1000000000]) S hK hP jb_0 rfl (m_X5_refuse l X A hs M (-1) r2 M_2 e2) jw_X5_refuse ji_X5_refuse jmX5_65 rfl rfl ⟨(Nat.le_of_ble_eq_true rfl), (Nat.le_of_ble_eq_true rfl)⟩ rfl hl.1 rfl (Nat.le_of_ble_eq_true rfl) dX5_clear_31 ⟨Nat.zero_le _, Nat.zero_le _⟩) hS (fun H locs hP hS => ?_)
    refine lv_isub hx hb dX5_clear_34 ?_
    exact je_mi hx hb hr hlocks hK hP hS h dX5_clear_35
  · replace h := jh_f h c8
    refine lv_aload_n hx hb dX5_clear_11 rfl (lv_at hl 0 rfl) ?_
    refine jr_get (k := 0) hx hb hts hown hK hP jb_0 (Nat.le_of_ble_eq_true rfl) jlX5_12 rfl dX5_clear_12 ?_
    refine lv_iload_n hx hb dX5_clear_15 rfl (lv_at hl 2 rfl) ?_
    refine jr_kp (jr_rv (As := [.int v2]) (rest := []) S hK hP jb_1 rfl (m_X4_hasHouse l X M jb_1 v2 _ rfl) jw_X4_hasHouse ji_X4_hasHouse jmX5_90 rfl rfl ⟨(Nat.le_of_ble_eq_true rfl), (Nat.le_of_ble_eq_true rfl)⟩ rfl hl.1 rfl (Nat.le_of_ble_eq_true rfl) dX5_clear_16 ⟨Nat.zero_le _, Nat.zero_le _⟩) ?_
    refine lv_if_eq (tgt := 27) hx hb dX5_clear_19 rfl (fun c19 => ?_) (fun c19 => ?_)
    · replace h := jh_t h c19
      refine lv_ldc hx hb hown (hts _ jkX5_238) dX5_clear_27 ?_
      refine lv_aload_n hx hb dX5_clear_29 rfl (lv_at hl 0 rfl) ?_
      refine lv_iconst (v := (-1)) hx hb dX5_clear_30 jci_m1 ?_
      obtain ⟨r4, M_4, e4, h⟩ := jh_b2 h
      refine jr_km (jr_rv (As := [.int (-1)]) (rest := [.int 1000000000]) S hK hP jb_0 rfl (m_X5_refuse l X A hs M (-1) r4 M_4 e4) jw_X5_refuse ji_X5_refuse jmX5_65 rfl rfl ⟨(Nat.le_of_ble_eq_true rfl), (Nat.le_of_ble_eq_true rfl)⟩ rfl hl.1 rfl (Nat.le_of_ble_eq_true rfl) dX5_clear_31 ⟨Nat.zero_le _, Nat.zero_le _⟩) hS (fun H locs hP hS => ?_)
      refine lv_isub hx hb dX5_clear_34 ?_
      exact je_mi hx hb hr hlocks hK hP hS h dX5_clear_35
    · replace h := jh_f h c19
      refine lv_iload_n hx hb dX5_clear_22 rfl (lv_at hl 1 rfl) ?_
      refine lv_iload_n hx hb dX5_clear_23 rfl (lv_at hl 2 rfl) ?_
      refine lv_icmp_ne (tgt := 36) hx hb dX5_clear_24 rfl (fun c24 => ?_) (fun c24 => ?_)
      · replace h := jh_f h c24
        refine lv_aload_n hx hb dX5_clear_36 rfl (lv_at hl 0 rfl) ?_
        refine jr_get (k := 0) hx hb hts hown hK hP jb_0 (Nat.le_of_ble_eq_true rfl) jlX5_12 rfl dX5_clear_37 ?_
        refine lv_iload_n hx hb dX5_clear_40 rfl (lv_at hl 1 rfl) ?_
        refine lv_iconst (v := 0) hx hb dX5_clear_41 jci_0 ?_
        obtain ⟨r5, e5, h⟩ := jh_b h
        refine jr_kp (jr_rv (As := [.int v1, .int 0]) (rest := []) S hK hP jb_1 rfl (m_X4_owersBehind l X M jb_1 v1 0 r5 e5) jw_X4_owersBehind ji_X4_owersBehind jmX5_113 rfl rfl ⟨(Nat.le_of_ble_eq_true rfl), (Nat.le_of_ble_eq_true rfl)⟩ rfl hl.1 rfl (Nat.le_of_ble_eq_true rfl) dX5_clear_42 ⟨Nat.zero_le _, Nat.zero_le _⟩) ?_
        refine lv_istore_n (lv' := [(3, .int r5), (0, .ref (jO X 0)), (1, .int v1), (2, .int v2)]) hx hb dX5_clear_45 rfl hl (Nat.le_of_ble_eq_true rfl) rfl (fun ls hl => ?_)
        refine lv_aload_n hx hb dX5_clear_46 rfl (lv_at hl 1 rfl) ?_
        refine jr_get (k := 0) hx hb hts hown hK hP jb_0 (Nat.le_of_ble_eq_true rfl) jlX5_12 rfl dX5_clear_47 ?_
        refine lv_iload_n hx hb dX5_clear_50 rfl (lv_at hl 3 rfl) ?_
        refine lv_iconst (v := 0) hx hb dX5_clear_51 jci_0 ?_
        obtain ⟨r6, e6, h⟩ := jh_b h
        refine jr_kp (jr_rv (As := [.int v2, .int 0]) (rest := []) S hK hP jb_1 rfl (m_X4_owersBehind l X M jb_1 v2 0 r6 e6) jw_X4_owersBehind ji_X4_owersBehind jmX5_113 rfl rfl ⟨(Nat.le_of_ble_eq_true rfl), (Nat.le_of_ble_eq_true rfl)⟩ rfl hl.1 rfl (Nat.le_of_ble_eq_true rfl) dX5_clear_52 ⟨Nat.zero_le _, Nat.zero_le _⟩) ?_
        refine lv_istore (lv' := [(4, .int r6), (3, .int r5), (0, .ref (jO X 0)), (1, .int v1), (2, .int v2)]) hx hb dX5_clear_55 hl (Nat.le_of_ble_eq_true rfl) rfl (fun ls hl => ?_)
        refine lv_iload_n hx hb dX5_clear_57 rfl (lv_at hl 1 rfl) ?_
        refine lv_iload hx hb dX5_clear_58 (lv_at hl 0 rfl) ?_
        refine lv_iconst (v := (-1)) hx hb dX5_clear_60 jci_m1 ?_
        refine lv_ixor hx hb dX5_clear_61 ?_
        refine lv_iand hx hb dX5_clear_62 ?_
        refine jr_kp (jr_rs (As := [.int (r5 &&& (r6 ^^^ (-1)))]) (rest := []) S hN (m_J6_bitCount_0f7a4 l (r5 &&& (r6 ^^^ (-1))) _ rfl) jw_J6_bitCount_0f7a4 js_J6_bitCount_0f7a4 jmX5_239 rfl rfl ⟨(Nat.le_of_ble_eq_true rfl), (Nat.le_of_ble_eq_true rfl)⟩ rfl hl.1 rfl (Nat.le_of_ble_eq_true rfl) dX5_clear_63 ⟨Nat.zero_le _, Nat.zero_le _⟩) ?_
        refine lv_iload hx hb dX5_clear_66 (lv_at hl 0 rfl) ?_
        refine lv_iload_n hx hb dX5_clear_68 rfl (lv_at hl 1 rfl) ?_
        refine lv_iconst (v := (-1)) hx hb dX5_clear_69 jci_m1 ?_
        refine lv_ixor hx hb dX5_clear_70 ?_
        refine lv_iand hx hb dX5_clear_71 ?_
        refine jr_kp (jr_rs (As := [.int (r6 &&& (r5 ^^^ (-1)))]) (rest := [.int (f_J6_bitCount_0f7a4 (r5 &&& (r6 ^^^ (-1))))]) S hN (m_J6_bitCount_0f7a4 l (r6 &&& (r5 ^^^ (-1))) _ rfl) jw_J6_bitCount_0f7a4 js_J6_bitCount_0f7a4 jmX5_239 rfl rfl ⟨(Nat.le_of_ble_eq_true rfl), (Nat.le_of_ble_eq_true rfl)⟩ rfl hl.1 rfl (Nat.le_of_ble_eq_true rfl) dX5_clear_72 ⟨Nat.zero_le _, Nat.zero_le _⟩) ?_
        refine lv_isub hx hb dX5_clear_75 ?_
        exact je_mi hx hb hr hlocks hK hP hS h dX5_clear_76
      · replace h := jh_t h c24
        refine lv_ldc hx hb hown (hts _ jkX5_238) dX5_clear_27 ?_
        refine lv_aload_n hx hb dX5_clear_29 rfl (lv_at hl 0 rfl) ?_
        refine lv_iconst (v := (-1)) hx hb dX5_clear_30 jci_m1 ?_
        obtain ⟨r9, M_9, e9, h⟩ := jh_b2 h
        refine jr_km (jr_rv (As := [.int (-1)]) (rest := [.int 1000000000]) S hK hP jb_0 rfl (m_X5_refuse l X A hs M (-1) r9 M_9 e9) jw_X5_refuse ji_X5_refuse jmX5_65 rfl rfl ⟨(Nat.le_of_ble_eq_true rfl), (Nat.le_of_ble_eq_true rfl)⟩ rfl hl.1 rfl (Nat.le_of_ble_eq_true rfl) dX5_clear_31 ⟨Nat.zero_le _, Nat.zero_le _⟩) hS (fun H locs hP hS => ?_)
        refine lv_isub hx hb dX5_clear_34 ?_
        exact je_mi hx hb hr hlocks hK hP hS h dX5_clear_35
def f_X5_burn_l69 (v1_4 : Int32) (v2_4 : Int32) (v5_4 : Int32) : Nat → jm → Int32 → Int32 → Int32 → Option (Int32 × jm)
  | 0, _, _, _, _ => none
  | k_4 + 1, M_4, v3_4, v4_4, v6_4 => (if 49 ≤ v6_4 then (if v2_4 = 0 then (some (v3_4, M_4)) else (some (v4_4, M_4))) else (jgd v5_4 8 (jb (f_X4_owersBehind (ju M_4 2 3 (Int32.toNatClampNeg v5_4) v6_4) 2 v5_4 v1_4) fun r5 => (if (f_J6_bitCount_0f7a4 r5) ≤ v4_4 then ((f_X5_burn_l69 v1_4 v2_4 v5_4 k_4) (ju M_4 2 3 (Int32.toNatClampNeg v5_4) v6_4) v3_4 v4_4 (v6_4 + 1)) else ((f_X5_burn_l69 v1_4 v2_4 v5_4 k_4) (ju M_4 2 3 (Int32.toNatClampNeg v5_4) v6_4) v6_4 (f_J6_bitCount_0f7a4 r5) (v6_4 + 1))))))
def f_X5_burn_j41 (M_1 : jm) (v1_1 : Int32) (v2_1 : Int32) : Option (Int32 × jm) := (jb (f_X4_become M_1 2 1) fun M_2 => (jb2 (f_X4_setCandle M_2 2) fun r3 M_3 => (f_X5_burn_l69 v1_1 v2_1 r3 10000 M_3 0 0 0)))
def f_X5_burn (M : jm) (v1 : Int32) (v2 : Int32) : Option (Int32 × jm) := (if 1 ≤ v1 then (if v1 ≤ 30 then (if v2 = 0 then (f_X5_burn_j41 M v1 v2) else (if v2 = 1 then (f_X5_burn_j41 M v1 v2) else (jb2 (f_X5_refuse M (-2)) fun r7 M_7 => (some (r7, M_7))))) else (jb2 (f_X5_refuse M (-6)) fun r8 M_8 => (some (r8, M_8)))) else (jb2 (f_X5_refuse M (-4)) fun r9 M_9 => (some (r9, M_9))))
set_option maxRecDepth 100000 in
theorem m_X5_burn (l : Launch) (X : jX) (A : Nat → Prop) (hs : jst X A) (M : jm) (v1 : Int32) (v2 : Int32) (r : Int32) (N : jm) (h : f_X5_burn M v1 v2 = some (r, N)) : Met l yX5_burn (jws yX5_burn cX5_burn 8 (some .int)) (jrm 5 119) (va_Pc [.ref (jO X 0), .int v1, .int v2] (jB X M)) (jQm X A (some (.int r)) N) 0 0 A := by
  refine jm_of (by decide) (Nat.le_of_ble_eq_true rfl) ?_
  intro p e s m args below meth c ls S hr hlocks hB hl
  have S : CallFix p m c cX5_burn 8 s args jtb RX5 := S
  obtain ⟨hx, hb, hml, hown, hts⟩ := id S
  obtain ⟨hP, hK⟩ := hB
  have hN := hK.2
  have hS : va_S A s.heap s.heap [] := va_S.rf
  have hl : lv_has ls 8 [(0, .ref (jO X 0)), (1, .int v1), (2, .int v2)] := hl
  refine lv_iload_n hx hb dX5_burn_0 rfl (lv_at hl 1 rfl) ?_
  refine lv_iconst (v := 1) hx hb dX5_burn_1 jci_1 ?_
  refine lv_icmp_ge (tgt := 12) hx hb dX5_burn_2 rfl (fun c2 => ?_) (fun c2 => ?_)
  · replace h := jh_t h c2
    refine lv_iload_n hx hb dX5_burn_12 rfl (lv_at hl 1 rfl) ?_
    refine lv_bipush (v := 30) hx hb dX5_burn_13 jcb_30 ?_
    refine lv_icmp_le (tgt := 25) hx hb dX5_burn_15 rfl (fun c15 => ?_) (fun c15 => ?_)
    · replace h := jh_t h c15
      refine lv_iload_n hx hb dX5_burn_25 rfl (lv_at hl 2 rfl) ?_
      have J41 : ∀ (M_1 : jm) (H : Heap) (locs : List Loc) (v1_1 : Int32) (v2_1 : Int32) (ls : Array Slot), f_X5_burn_j41 M_1 v1_1 v2_1 = some (r, N) → jrp X M_1 H → va_S A s.heap H locs → lv_has ls 8 [(0, .ref (jO X 0)), (1, .int v1_1), (2, .int v2_1)] → W p l e (jrm 5 119) s m args below meth c H locs 0 0 (MQ below (jQm X A (some (.int r)) N) args s 0 0 A) (F0 m 41 ls []) := by
        intro M_1 H locs v1_1 v2_1 ls h hP hS hl
        refine lv_iconst (v := 0) hx hb dX5_burn_41 jci_0 ?_
        refine lv_istore_n (lv' := [(3, .int 0), (0, .ref (jO X 0)), (1, .int v1_1), (2, .int v2_1)]) hx hb dX5_burn_42 rfl hl (Nat.le_of_ble_eq_true rfl) rfl (fun ls hl => ?_)
        refine lv_iconst (v := 0) hx hb dX5_burn_43 jci_0 ?_
        refine lv_istore (lv' := [(4, .int 0), (3, .int 0), (0, .ref (jO X 0)), (1, .int v1_1), (2, .int v2_1)]) hx hb dX5_burn_44 hl (Nat.le_of_ble_eq_true rfl) rfl (fun ls hl => ?_)
        refine lv_aload_n hx hb dX5_burn_46 rfl (lv_at hl 2 rfl) ?_
        refine jr_get (k := 1) hx hb hts hown hK hP jb_0 (Nat.le_of_ble_eq_true rfl) jlX5_16 rfl dX5_burn_47 ?_
        refine lv_aload_n hx hb dX5_burn_50 rfl (lv_at hl 2 rfl) ?_
        refine jr_get (k := 0) hx hb hts hown hK hP jb_0 (Nat.le_of_ble_eq_true rfl) jlX5_12 rfl dX5_burn_51 ?_
        obtain ⟨M_2, e2, h⟩ := jh_b h
        refine jr_kv (jr_rv (As := [.ref (jO X 1)]) (rest := []) S hK hP jb_2 rfl (m_X4_become l X A hs M_1 jb_2 jb_1 M_2 e2) jw_X4_become ji_X4_become jmX5_76 rfl rfl ⟨(Nat.le_of_ble_eq_true rfl), (Nat.le_of_ble_eq_true rfl)⟩ rfl hl.1 rfl (Nat.le_of_ble_eq_true rfl) dX5_burn_54 ⟨Nat.zero_le _, Nat.zero_le _⟩) hS (fun H locs hP hS => ?_)
        refine lv_aload_n hx hb dX5_burn_57 rfl (lv_at hl 2 rfl) ?_
        refine jr_get (k := 1) hx hb hts hown hK hP jb_0 (Nat.le_of_ble_eq_true rfl) jlX5_16 rfl dX5_burn_58 ?_
        obtain ⟨r3, M_3, e3, h⟩ := jh_b2 h
        refine jr_km (jr_rv (As := []) (rest := []) S hK hP jb_2 rfl (m_X4_setCandle l X A hs M_2 jb_2  r3 M_3 e3) jw_X4_setCandle ji_X4_setCandle jmX5_244 rfl rfl ⟨(Nat.le_of_ble_eq_true rfl), (Nat.le_of_ble_eq_true rfl)⟩ rfl hl.1 rfl (Nat.le_of_ble_eq_true rfl) dX5_burn_61 ⟨Nat.zero_le _, Nat.zero_le _⟩) hS (fun H locs hP hS => ?_)
        refine lv_istore (lv' := [(5, .int r3), (4, .int 0), (3, .int 0), (0, .ref (jO X 0)), (1, .int v1_1), (2, .int v2_1)]) hx hb dX5_burn_64 hl (Nat.le_of_ble_eq_true rfl) rfl (fun ls hl => ?_)
        refine lv_iconst (v := 0) hx hb dX5_burn_66 jci_0 ?_
        refine lv_istore (lv' := [(6, .int 0), (5, .int r3), (4, .int 0), (3, .int 0), (0, .ref (jO X 0)), (1, .int v1_1), (2, .int v2_1)]) hx hb dX5_burn_67 hl (Nat.le_of_ble_eq_true rfl) rfl (fun ls hl => ?_)
        have L69 : ∀ (v1_4 : Int32) (v2_4 : Int32) (v5_4 : Int32) (k_4 : Nat) (M_4 : jm) (H : Heap) (locs : List Loc) (v3_4 : Int32) (v4_4 : Int32) (v6_4 : Int32) (ls : Array Slot), f_X5_burn_l69 v1_4 v2_4 v5_4 k_4 M_4 v3_4 v4_4 v6_4 = some (r, N) → jrp X M_4 H → va_S A s.heap H locs → lv_has ls 8 [(0, .ref (jO X 0)), (1, .int v1_4), (2, .int v2_4), (3, .int v3_4), (4, .int v4_4), (5, .int v5_4), (6, .int v6_4)] → W p l e (jrm 5 119) s m args below meth c H locs 0 0 (MQ below (jQm X A (some (.int r)) N) args s 0 0 A) (F0 m 69 ls []) := by
          intro v1_4 v2_4 v5_4 k_4
          induction k_4 with
          | zero => intro M_4 H locs v3_4 v4_4 v6_4 ls h; exact jh_0 h
          | succ k_4 ih69 =>
            intro M_4 H locs v3_4 v4_4 v6_4 ls h hP hS hl
            refine lv_iload hx hb dX5_burn_69 (lv_at hl 6 rfl) ?_
            refine lv_bipush (v := 49) hx hb dX5_burn_71 jcb_49 ?_
            refine lv_icmp_ge (tgt := 123) hx hb dX5_burn_73 rfl (fun c73 => ?_) (fun c73 => ?_)
            · replace h := jh_t h c73
              refine lv_iload_n hx hb dX5_burn_123 rfl (lv_at hl 2 rfl) ?_
              refine lv_if_ne (tgt := 131) hx hb dX5_burn_124 rfl (fun c124 => ?_) (fun c124 => ?_)
              · replace h := jh_f h c124
                refine lv_iload hx hb dX5_burn_131 (lv_at hl 4 rfl) ?_
                exact je_mi hx hb hr hlocks hK hP hS h dX5_burn_133
              · replace h := jh_t h c124
                refine lv_iload_n hx hb dX5_burn_127 rfl (lv_at hl 3 rfl) ?_
                refine lv_goto (tgt := 133) hx hb dX5_burn_128 rfl ?_
                exact je_mi hx hb hr hlocks hK hP hS h dX5_burn_133
            · replace h := jh_f h c73
              refine lv_aload_n hx hb dX5_burn_76 rfl (lv_at hl 0 rfl) ?_
              refine jr_get (k := 1) hx hb hts hown hK hP jb_0 (Nat.le_of_ble_eq_true rfl) jlX5_16 rfl dX5_burn_77 ?_
              refine jr_get (k := 3) hx hb hts hown hK hP jb_2 (Nat.le_of_ble_eq_true rfl) jlX5_100 rfl dX5_burn_80 ?_
              refine lv_iload hx hb dX5_burn_83 (lv_at hl 5 rfl) ?_
              refine lv_iload hx hb dX5_burn_85 (lv_at hl 6 rfl) ?_
              obtain ⟨g87, h⟩ := jh_gd h
              refine jr_ast (n := 8) hx hb hK hP hs hS jb_2 rfl g87 dX5_burn_87 (fun H locs hP hS => ?_)
              refine lv_aload_n hx hb dX5_burn_88 rfl (lv_at hl 0 rfl) ?_
              refine jr_get (k := 1) hx hb hts hown hK hP jb_0 (Nat.le_of_ble_eq_true rfl) jlX5_16 rfl dX5_burn_89 ?_
              refine lv_iload hx hb dX5_burn_92 (lv_at hl 5 rfl) ?_
              refine lv_iload_n hx hb dX5_burn_94 rfl (lv_at hl 1 rfl) ?_
              obtain ⟨r5, e5, h⟩ := jh_b h
              refine jr_kp (jr_rv (As := [.int v5_4, .int v1_4]) (rest := []) S hK hP jb_2 rfl (m_X4_owersBehind l X (ju M_4 2 3 (Int32.toNatClampNeg v5_4) v6_4) jb_2 v5_4 v1_4 r5 e5) jw_X4_owersBehind ji_X4_owersBehind jmX5_113 rfl rfl ⟨(Nat.le_of_ble_eq_true rfl), (Nat.le_of_ble_eq_true rfl)⟩ rfl hl.1 rfl (Nat.le_of_ble_eq_true rfl) dX5_burn_95 ⟨Nat.zero_le _, Nat.zero_le _⟩) ?_
              refine jr_kp (jr_rs (As := [.int r5]) (rest := []) S hN (m_J6_bitCount_0f7a4 l r5 _ rfl) jw_J6_bitCount_0f7a4 js_J6_bitCount_0f7a4 jmX5_239 rfl rfl ⟨(Nat.le_of_ble_eq_true rfl), (Nat.le_of_ble_eq_true rfl)⟩ rfl hl.1 rfl (Nat.le_of_ble_eq_true rfl) dX5_burn_98 ⟨Nat.zero_le _, Nat.zero_le _⟩) ?_
              refine lv_istore (lv' := [(7, .int (f_J6_bitCount_0f7a4 r5)), (0, .ref (jO X 0)), (1, .int v1_4), (2, .int v2_4), (3, .int v3_4), (4, .int v4_4), (5, .int v5_4), (6, .int v6_4)]) hx hb dX5_burn_101 hl (Nat.le_of_ble_eq_true rfl) rfl (fun ls hl => ?_)
              refine lv_iload hx hb dX5_burn_103 (lv_at hl 0 rfl) ?_
              refine lv_iload hx hb dX5_burn_105 (lv_at hl 5 rfl) ?_
              refine lv_icmp_le (tgt := 117) hx hb dX5_burn_107 rfl (fun c107 => ?_) (fun c107 => ?_)
              · replace h := jh_t h c107
                refine lv_iinc (v := (v6_4 + 1)) (lv' := [(6, .int (v6_4 + 1)), (7, .int (f_J6_bitCount_0f7a4 r5)), (0, .ref (jO X 0)), (1, .int v1_4), (2, .int v2_4), (3, .int v3_4), (4, .int v4_4), (5, .int v5_4)]) hx hb dX5_burn_117 hl (k := 7) rfl (congrArg _ jci_1) (Nat.le_of_ble_eq_true rfl) rfl (fun ls hl => ?_)
                refine lv_goto (tgt := 69) hx hb dX5_burn_120 rfl ?_
                exact ih69 (ju M_4 2 3 (Int32.toNatClampNeg v5_4) v6_4) _ _ v3_4 v4_4 (v6_4 + 1) _ h hP hS (lv_sub hl [2, 3, 4, 5, 6, 7, 0] rfl)
              · replace h := jh_f h c107
                refine lv_iload hx hb dX5_burn_110 (lv_at hl 0 rfl) ?_
                refine lv_istore (lv' := [(4, .int (f_J6_bitCount_0f7a4 r5)), (7, .int (f_J6_bitCount_0f7a4 r5)), (0, .ref (jO X 0)), (1, .int v1_4), (2, .int v2_4), (3, .int v3_4), (5, .int v5_4), (6, .int v6_4)]) hx hb dX5_burn_112 hl (Nat.le_of_ble_eq_true rfl) rfl (fun ls hl => ?_)
                refine lv_iload hx hb dX5_burn_114 (lv_at hl 7 rfl) ?_
                refine lv_istore_n (lv' := [(3, .int v6_4), (4, .int (f_J6_bitCount_0f7a4 r5)), (7, .int (f_J6_bitCount_0f7a4 r5)), (0, .ref (jO X 0)), (1, .int v1_4), (2, .int v2_4), (5, .int v5_4), (6, .int v6_4)]) hx hb dX5_burn_116 rfl hl (Nat.le_of_ble_eq_true rfl) rfl (fun ls hl => ?_)
                refine lv_iinc (v := (v6_4 + 1)) (lv' := [(6, .int (v6_4 + 1)), (3, .int v6_4), (4, .int (f_J6_bitCount_0f7a4 r5)), (7, .int (f_J6_bitCount_0f7a4 r5)), (0, .ref (jO X 0)), (1, .int v1_4), (2, .int v2_4), (5, .int v5_4)]) hx hb dX5_burn_117 hl (k := 7) rfl (congrArg _ jci_1) (Nat.le_of_ble_eq_true rfl) rfl (fun ls hl => ?_)
                refine lv_goto (tgt := 69) hx hb dX5_burn_120 rfl ?_
                exact ih69 (ju M_4 2 3 (Int32.toNatClampNeg v5_4) v6_4) _ _ v6_4 (f_J6_bitCount_0f7a4 r5) (v6_4 + 1) _ h hP hS (lv_sub hl [4, 5, 6, 1, 2, 7, 0] rfl)
        exact L69 v1_1 v2_1 r3 10000 M_3 _ _ 0 0 0 _ h hP hS (lv_sub hl [4, 5, 6, 3, 2, 1, 0] rfl)
      refine lv_if_eq (tgt := 41) hx hb dX5_burn_26 rfl (fun c26 => ?_) (fun c26 => ?_)
      · replace h := jh_t h c26
        exact J41 M _ _ v1 v2 _ h hP hS hl
      · replace h := jh_f h c26
        refine lv_iload_n hx hb dX5_burn_29 rfl (lv_at hl 2 rfl) ?_
        refine lv_iconst (v := 1) hx hb dX5_burn_30 jci_1 ?_
        refine lv_icmp_eq (tgt := 41) hx hb dX5_burn_31 rfl (fun c31 => ?_) (fun c31 => ?_)
        · replace h := jh_t h c31
          exact J41 M _ _ v1 v2 _ h hP hS hl
        · replace h := jh_f h c31
          refine lv_aload_n hx hb dX5_burn_34 rfl (lv_at hl 0 rfl) ?_
          refine lv_bipush (v := (-2)) hx hb dX5_burn_35 jcb_m2 ?_
          obtain ⟨r7, M_7, e7, h⟩ := jh_b2 h
          refine jr_km (jr_rv (As := [.int (-2)]) (rest := []) S hK hP jb_0 rfl (m_X5_refuse l X A hs M (-2) r7 M_7 e7) jw_X5_refuse ji_X5_refuse jmX5_65 rfl rfl ⟨(Nat.le_of_ble_eq_true rfl), (Nat.le_of_ble_eq_true rfl)⟩ rfl hl.1 rfl (Nat.le_of_ble_eq_true rfl) dX5_burn_37 ⟨Nat.zero_le _, Nat.zero_le _⟩) hS (fun H locs hP hS => ?_)
          exact je_mi hx hb hr hlocks hK hP hS h dX5_burn_40
    · replace h := jh_f h c15
      refine lv_aload_n hx hb dX5_burn_18 rfl (lv_at hl 0 rfl) ?_
      refine lv_bipush (v := (-6)) hx hb dX5_burn_19 jcb_m6 ?_
      obtain ⟨r8, M_8, e8, h⟩ := jh_b2 h
      refine jr_km (jr_rv (As := [.int (-6)]) (rest := []) S hK hP jb_0 rfl (m_X5_refuse l X A hs M (-6) r8 M_8 e8) jw_X5_refuse ji_X5_refuse jmX5_65 rfl rfl ⟨(Nat.le_of_ble_eq_true rfl), (Nat.le_of_ble_eq_true rfl)⟩ rfl hl.1 rfl (Nat.le_of_ble_eq_true rfl) dX5_burn_21 ⟨Nat.zero_le _, Nat.zero_le _⟩) hS (fun H locs hP hS => ?_)
      exact je_mi hx hb hr hlocks hK hP hS h dX5_burn_24
  · replace h := jh_f h c2
    refine lv_aload_n hx hb dX5_burn_5 rfl (lv_at hl 0 rfl) ?_
    refine lv_bipush (v := (-4)) hx hb dX5_burn_6 jcb_m4 ?_
    obtain ⟨r9, M_9, e9, h⟩ := jh_b2 h
    refine jr_km (jr_rv (As := [.int (-4)]) (rest := []) S hK hP jb_0 rfl (m_X5_refuse l X A hs M (-4) r9 M_9 e9) jw_X5_refuse ji_X5_refuse jmX5_65 rfl rfl ⟨(Nat.le_of_ble_eq_true rfl), (Nat.le_of_ble_eq_true rfl)⟩ rfl hl.1 rfl (Nat.le_of_ble_eq_true rfl) dX5_burn_8 ⟨Nat.zero_le _, Nat.zero_le _⟩) hS (fun H locs hP hS => ?_)
    exact je_mi hx hb hr hlocks hK hP hS h dX5_burn_11
def f_X5_shut_l39 (v1_2 : Int32) : Nat → jm → Int32 → Int32 → Int32 → Option (Int32 × jm)
  | 0, _, _, _, _ => none
  | k_2 + 1, M_2, v2_2, v3_2, v4_2 => (if (M_2 1 0 0) ≤ v4_2 then (some (v2_2, M_2)) else (if (f_X4_isLit M_2 1 v4_2) = 0 then ((f_X5_shut_l39 v1_2 k_2) M_2 v2_2 v3_2 (v4_2 + 1)) else (jb (f_X4_become M_2 2 1) fun M_4 => (jb2 (f_X4_turn M_4 2 v4_2) fun r5 M_5 => (jb (f_X4_pricesBehind M_5 2 v1_2) fun r6 => (if v3_2 ≤ r6 then ((f_X5_shut_l39 v1_2 k_2) M_5 v2_2 v3_2 (v4_2 + 1)) else ((f_X5_shut_l39 v1_2 k_2) M_5 v4_2 r6 (v4_2 + 1))))))))
def f_X5_shut (M : jm) (v1 : Int32) : Option (Int32 × jm) := (if 0 ≤ v1 then (if v1 ≤ 60 then (jb (f_X4_pricesBehind M 1 v1) fun r1 => (f_X5_shut_l39 v1 10000 M (-9) r1 0)) else (jb2 (f_X5_refuse M (-6)) fun r7 M_7 => (some (r7, M_7)))) else (jb2 (f_X5_refuse M (-4)) fun r8 M_8 => (some (r8, M_8))))
set_option maxRecDepth 100000 in
theorem m_X5_shut (l : Launch) (X : jX) (A : Nat → Prop) (hs : jst X A) (M : jm) (v1 : Int32) (r : Int32) (N : jm) (h : f_X5_shut M v1 = some (r, N)) : Met l yX5_shut (jws yX5_shut cX5_shut 6 (some .int)) (jrm 6 143) (va_Pc [.ref (jO X 0), .int v1] (jB X M)) (jQm X A (some (.int r)) N) 0 0 A := by
  refine jm_of (by decide) (Nat.le_of_ble_eq_true rfl) ?_
  intro p e s m args below meth c ls S hr hlocks hB hl
  have S : CallFix p m c cX5_shut 6 s args jtb RX5 := S
  obtain ⟨hx, hb, hml, hown, hts⟩ := id S
  obtain ⟨hP, hK⟩ := hB
  have hN := hK.2
  have hS : va_S A s.heap s.heap [] := va_S.rf
  have hl : lv_has ls 6 [(0, .ref (jO X 0)), (1, .int v1)] := hl
  refine lv_iload_n hx hb dX5_shut_0 rfl (lv_at hl 1 rfl) ?_
  refine lv_if_ge (tgt := 11) hx hb dX5_shut_1 rfl (fun c1 => ?_) (fun c1 => ?_)
  · replace h := jh_t h c1
    refine lv_iload_n hx hb dX5_shut_11 rfl (lv_at hl 1 rfl) ?_
    refine lv_bipush (v := 60) hx hb dX5_shut_12 jcb_60 ?_
    refine lv_icmp_le (tgt := 24) hx hb dX5_shut_14 rfl (fun c14 => ?_) (fun c14 => ?_)
    · replace h := jh_t h c14
      refine lv_bipush (v := (-9)) hx hb dX5_shut_24 jcb_m9 ?_
      refine lv_istore_n (lv' := [(2, .int (-9)), (0, .ref (jO X 0)), (1, .int v1)]) hx hb dX5_shut_26 rfl hl (Nat.le_of_ble_eq_true rfl) rfl (fun ls hl => ?_)
      refine lv_aload_n hx hb dX5_shut_27 rfl (lv_at hl 1 rfl) ?_
      refine jr_get (k := 0) hx hb hts hown hK hP jb_0 (Nat.le_of_ble_eq_true rfl) jlX5_12 rfl dX5_shut_28 ?_
      refine lv_iload_n hx hb dX5_shut_31 rfl (lv_at hl 2 rfl) ?_
      obtain ⟨r1, e1, h⟩ := jh_b h
      refine jr_kp (jr_rv (As := [.int v1]) (rest := []) S hK hP jb_1 rfl (m_X4_pricesBehind l X M jb_1 v1 r1 e1) jw_X4_pricesBehind ji_X4_pricesBehind jmX5_198 rfl rfl ⟨(Nat.le_of_ble_eq_true rfl), (Nat.le_of_ble_eq_true rfl)⟩ rfl hl.1 rfl (Nat.le_of_ble_eq_true rfl) dX5_shut_32 ⟨Nat.zero_le _, Nat.zero_le _⟩) ?_
      refine lv_istore_n (lv' := [(3, .int r1), (2, .int (-9)), (0, .ref (jO X 0)), (1, .int v1)]) hx hb dX5_shut_35 rfl hl (Nat.le_of_ble_eq_true rfl) rfl (fun ls hl => ?_)
      refine lv_iconst (v := 0) hx hb dX5_shut_36 jci_0 ?_
      refine lv_istore (lv' := [(4, .int 0), (3, .int r1), (2, .int (-9)), (0, .ref (jO X 0)), (1, .int v1)]) hx hb dX5_shut_37 hl (Nat.le_of_ble_eq_true rfl) rfl (fun ls hl => ?_)
      have L39 : ∀ (v1_2 : Int32) (k_2 : Nat) (M_2 : jm) (H : Heap) (locs : List Loc) (v2_2 : Int32) (v3_2 : Int32) (v4_2 : Int32) (ls : Array Slot), f_X5_shut_l39 v1_2 k_2 M_2 v2_2 v3_2 v4_2 = some (r, N) → jrp X M_2 H → va_S A s.heap H locs → lv_has ls 6 [(0, .ref (jO X 0)), (1, .int v1_2), (2, .int v2_2), (3, .int v3_2), (4, .int v4_2)] → W p l e (jrm 6 143) s m args below meth c H locs 0 0 (MQ below (jQm X A (some (.int r)) N) args s 0 0 A) (F0 m 39 ls []) := by
        intro v1_2 k_2
        induction k_2 with
        | zero => intro M_2 H locs v2_2 v3_2 v4_2 ls h; exact jh_0 h
        | succ k_2 ih39 =>
          intro M_2 H locs v2_2 v3_2 v4_2 ls h hP hS hl
          refine lv_iload hx hb dX5_shut_39 (lv_at hl 4 rfl) ?_
          refine lv_aload_n hx hb dX5_shut_41 rfl (lv_at hl 0 rfl) ?_
          refine jr_get (k := 0) hx hb hts hown hK hP jb_0 (Nat.le_of_ble_eq_true rfl) jlX5_12 rfl dX5_shut_42 ?_
          refine jr_get (k := 0) hx hb hts hown hK hP jb_1 (Nat.le_of_ble_eq_true rfl) jlX5_148 rfl dX5_shut_45 ?_
          refine lv_icmp_ge (tgt := 115) hx hb dX5_shut_48 rfl (fun c48 => ?_) (fun c48 => ?_)
          · replace h := jh_t h c48
            refine lv_iload_n hx hb dX5_shut_115 rfl (lv_at hl 2 rfl) ?_
            exact je_mi hx hb hr hlocks hK hP hS h dX5_shut_116
          · replace h := jh_f h c48
            refine lv_aload_n hx hb dX5_shut_51 rfl (lv_at hl 0 rfl) ?_
            refine jr_get (k := 0) hx hb hts hown hK hP jb_0 (Nat.le_of_ble_eq_true rfl) jlX5_12 rfl dX5_shut_52 ?_
            refine lv_iload hx hb dX5_shut_55 (lv_at hl 4 rfl) ?_
            refine jr_kp (jr_rv (As := [.int v4_2]) (rest := []) S hK hP jb_1 rfl (m_X4_isLit l X M_2 jb_1 v4_2 _ rfl) jw_X4_isLit ji_X4_isLit jmX5_103 rfl rfl ⟨(Nat.le_of_ble_eq_true rfl), (Nat.le_of_ble_eq_true rfl)⟩ rfl hl.1 rfl (Nat.le_of_ble_eq_true rfl) dX5_shut_57 ⟨Nat.zero_le _, Nat.zero_le _⟩) ?_
            refine lv_if_ne (tgt := 66) hx hb dX5_shut_60 rfl (fun c60 => ?_) (fun c60 => ?_)
            · replace h := jh_f h c60
              refine lv_aload_n hx hb dX5_shut_66 rfl (lv_at hl 0 rfl) ?_
              refine jr_get (k := 1) hx hb hts hown hK hP jb_0 (Nat.le_of_ble_eq_true rfl) jlX5_16 rfl dX5_shut_67 ?_
              refine lv_aload_n hx hb dX5_shut_70 rfl (lv_at hl 0 rfl) ?_
              refine jr_get (k := 0) hx hb hts hown hK hP jb_0 (Nat.le_of_ble_eq_true rfl) jlX5_12 rfl dX5_shut_71 ?_
              obtain ⟨M_4, e4, h⟩ := jh_b h
              refine jr_kv (jr_rv (As := [.ref (jO X 1)]) (rest := []) S hK hP jb_2 rfl (m_X4_become l X A hs M_2 jb_2 jb_1 M_4 e4) jw_X4_become ji_X4_become jmX5_76 rfl rfl ⟨(Nat.le_of_ble_eq_true rfl), (Nat.le_of_ble_eq_true rfl)⟩ rfl hl.1 rfl (Nat.le_of_ble_eq_true rfl) dX5_shut_74 ⟨Nat.zero_le _, Nat.zero_le _⟩) hS (fun H locs hP hS => ?_)
              refine lv_aload_n hx hb dX5_shut_77 rfl (lv_at hl 0 rfl) ?_
              refine jr_get (k := 1) hx hb hts hown hK hP jb_0 (Nat.le_of_ble_eq_true rfl) jlX5_16 rfl dX5_shut_78 ?_
              refine lv_iload hx hb dX5_shut_81 (lv_at hl 4 rfl) ?_
              obtain ⟨r5, M_5, e5, h⟩ := jh_b2 h
              refine jr_km (jr_rv (As := [.int v4_2]) (rest := []) S hK hP jb_2 rfl (m_X4_turn l X A hs M_4 jb_2 v4_2 r5 M_5 e5) jw_X4_turn ji_X4_turn jmX5_167 rfl rfl ⟨(Nat.le_of_ble_eq_true rfl), (Nat.le_of_ble_eq_true rfl)⟩ rfl hl.1 rfl (Nat.le_of_ble_eq_true rfl) dX5_shut_83 ⟨Nat.zero_le _, Nat.zero_le _⟩) hS (fun H locs hP hS => ?_)
              refine lv_pop hx hb dX5_shut_86 rfl ?_
              refine lv_aload_n hx hb dX5_shut_87 rfl (lv_at hl 0 rfl) ?_
              refine jr_get (k := 1) hx hb hts hown hK hP jb_0 (Nat.le_of_ble_eq_true rfl) jlX5_16 rfl dX5_shut_88 ?_
              refine lv_iload_n hx hb dX5_shut_91 rfl (lv_at hl 1 rfl) ?_
              obtain ⟨r6, e6, h⟩ := jh_b h
              refine jr_kp (jr_rv (As := [.int v1_2]) (rest := []) S hK hP jb_2 rfl (m_X4_pricesBehind l X M_5 jb_2 v1_2 r6 e6) jw_X4_pricesBehind ji_X4_pricesBehind jmX5_198 rfl rfl ⟨(Nat.le_of_ble_eq_true rfl), (Nat.le_of_ble_eq_true rfl)⟩ rfl hl.1 rfl (Nat.le_of_ble_eq_true rfl) dX5_shut_92 ⟨Nat.zero_le _, Nat.zero_le _⟩) ?_
              refine lv_istore (lv' := [(5, .int r6), (0, .ref (jO X 0)), (1, .int v1_2), (2, .int v2_2), (3, .int v3_2), (4, .int v4_2)]) hx hb dX5_shut_95 hl (Nat.le_of_ble_eq_true rfl) rfl (fun ls hl => ?_)
              refine lv_iload hx hb dX5_shut_97 (lv_at hl 0 rfl) ?_
              refine lv_iload_n hx hb dX5_shut_99 rfl (lv_at hl 4 rfl) ?_
              refine lv_icmp_ge (tgt := 109) hx hb dX5_shut_100 rfl (fun c100 => ?_) (fun c100 => ?_)
              · replace h := jh_t h c100
                refine lv_iinc (v := (v4_2 + 1)) (lv' := [(4, .int (v4_2 + 1)), (5, .int r6), (0, .ref (jO X 0)), (1, .int v1_2), (2, .int v2_2), (3, .int v3_2)]) hx hb dX5_shut_109 hl (k := 5) rfl (congrArg _ jci_1) (Nat.le_of_ble_eq_true rfl) rfl (fun ls hl => ?_)
                refine lv_goto (tgt := 39) hx hb dX5_shut_112 rfl ?_
                exact ih39 M_5 _ _ v2_2 v3_2 (v4_2 + 1) _ h hP hS (lv_sub hl [2, 3, 4, 5, 0] rfl)
              · replace h := jh_f h c100
                refine lv_iload hx hb dX5_shut_103 (lv_at hl 0 rfl) ?_
                refine lv_istore_n (lv' := [(3, .int r6), (5, .int r6), (0, .ref (jO X 0)), (1, .int v1_2), (2, .int v2_2), (4, .int v4_2)]) hx hb dX5_shut_105 rfl hl (Nat.le_of_ble_eq_true rfl) rfl (fun ls hl => ?_)
                refine lv_iload hx hb dX5_shut_106 (lv_at hl 5 rfl) ?_
                refine lv_istore_n (lv' := [(2, .int v4_2), (3, .int r6), (5, .int r6), (0, .ref (jO X 0)), (1, .int v1_2), (4, .int v4_2)]) hx hb dX5_shut_108 rfl hl (Nat.le_of_ble_eq_true rfl) rfl (fun ls hl => ?_)
                refine lv_iinc (v := (v4_2 + 1)) (lv' := [(4, .int (v4_2 + 1)), (2, .int v4_2), (3, .int r6), (5, .int r6), (0, .ref (jO X 0)), (1, .int v1_2)]) hx hb dX5_shut_109 hl (k := 5) rfl (congrArg _ jci_1) (Nat.le_of_ble_eq_true rfl) rfl (fun ls hl => ?_)
                refine lv_goto (tgt := 39) hx hb dX5_shut_112 rfl ?_
                exact ih39 M_5 _ _ v4_2 r6 (v4_2 + 1) _ h hP hS (lv_sub hl [4, 5, 1, 2, 0] rfl)
            · replace h := jh_t h c60
              refine lv_goto (tgt := 109) hx hb dX5_shut_63 rfl ?_
              refine lv_iinc (v := (v4_2 + 1)) (lv' := [(4, .int (v4_2 + 1)), (0, .ref (jO X 0)), (1, .int v1_2), (2, .int v2_2), (3, .int v3_2)]) hx hb dX5_shut_109 hl (k := 4) rfl (congrArg _ jci_1) (Nat.le_of_ble_eq_true rfl) rfl (fun ls hl => ?_)
              refine lv_goto (tgt := 39) hx hb dX5_shut_112 rfl ?_
              exact ih39 M_2 _ _ v2_2 v3_2 (v4_2 + 1) _ h hP hS (lv_sub hl [1, 2, 3, 4, 0] rfl)
      exact L39 v1 10000 M _ _ (-9) r1 0 _ h hP hS (lv_sub hl [3, 4, 2, 1, 0] rfl)
    · replace h := jh_f h c14
      refine lv_aload_n hx hb dX5_shut_17 rfl (lv_at hl 0 rfl) ?_
      refine lv_bipush (v := (-6)) hx hb dX5_shut_18 jcb_m6 ?_
      obtain ⟨r7, M_7, e7, h⟩ := jh_b2 h
      refine jr_km (jr_rv (As := [.int (-6)]) (rest := []) S hK hP jb_0 rfl (m_X5_refuse l X A hs M (-6) r7 M_7 e7) jw_X5_refuse ji_X5_refuse jmX5_65 rfl rfl ⟨(Nat.le_of_ble_eq_true rfl), (Nat.le_of_ble_eq_true rfl)⟩ rfl hl.1 rfl (Nat.le_of_ble_eq_true rfl) dX5_shut_20 ⟨Nat.zero_le _, Nat.zero_le _⟩) hS (fun H locs hP hS => ?_)
      exact je_mi hx hb hr hlocks hK hP hS h dX5_shut_23
  · replace h := jh_f h c1
    refine lv_aload_n hx hb dX5_shut_4 rfl (lv_at hl 0 rfl) ?_
    refine lv_bipush (v := (-4)) hx hb dX5_shut_5 jcb_m4 ?_
    obtain ⟨r8, M_8, e8, h⟩ := jh_b2 h
    refine jr_km (jr_rv (As := [.int (-4)]) (rest := []) S hK hP jb_0 rfl (m_X5_refuse l X A hs M (-4) r8 M_8 e8) jw_X5_refuse ji_X5_refuse jmX5_65 rfl rfl ⟨(Nat.le_of_ble_eq_true rfl), (Nat.le_of_ble_eq_true rfl)⟩ rfl hl.1 rfl (Nat.le_of_ble_eq_true rfl) dX5_shut_7 ⟨Nat.zero_le _, Nat.zero_le _⟩) hS (fun H locs hP hS => ?_)
    exact je_mi hx hb hr hlocks hK hP hS h dX5_shut_10
def f_X5_trade_l62 (v1_6 : Int32) (v2_6 : Int32) : Nat → jm → Int32 → Int32 → Int32 → Option (Int32 × jm)
  | 0, _, _, _, _ => none
  | k_6 + 1, M_6, v3_6, v4_6, v5_6 => (if (M_6 1 5 0) ≤ v5_6 then (some (v3_6, M_6)) else (jb (f_X4_owes M_6 1 v5_6 v2_6) fun r7 => (if r7 = 0 then (jb (f_X4_become M_6 2 1) fun M_8 => (jb (f_X4_setDebt M_8 2 v1_6 v2_6 (-1)) fun M_9 => (jb (f_X4_ageBehind M_9 1 v1_6 v2_6 0) fun r10 => (jb (f_X4_setDebt M_9 2 v5_6 v2_6 r10) fun M_11 => (jb (f_X4_burden M_11 2) fun r12 => (if v4_6 ≤ r12 then ((f_X5_trade_l62 v1_6 v2_6 k_6) M_11 v3_6 v4_6 (v5_6 + 1)) else ((f_X5_trade_l62 v1_6 v2_6 k_6) M_11 v5_6 r12 (v5_6 + 1)))))))) else ((f_X5_trade_l62 v1_6 v2_6 k_6) M_6 v3_6 v4_6 (v5_6 + 1)))))
def f_X5_trade (M : jm) (v1 : Int32) (v2 : Int32) : Option (Int32 × jm) := (if (f_X4_hasWalker M 1 v1) = 0 then (jb2 (f_X5_refuse M (-1)) fun r2 M_2 => (some (r2, M_2))) else (if (f_X4_hasHouse M 1 v2) = 0 then (jb2 (f_X5_refuse M (-1)) fun r14 M_14 => (some (r14, M_14))) else (jb (f_X4_owes M 1 v1 v2) fun r4 => (if r4 = 0 then (jb2 (f_X5_refuse M (-3)) fun r13 M_13 => (some (r13, M_13))) else (jb (f_X4_burden M 1) fun r5 => (f_X5_trade_l62 v1 v2 10000 M (-9) r5 0))))))
set_option maxRecDepth 100000 in
theorem m_X5_trade (l : Launch) (X : jX) (A : Nat → Prop) (hs : jst X A) (M : jm) (v1 : Int32) (v2 : Int32) (r : Int32) (N : jm) (h : f_X5_trade M v1 v2 = some (r, N)) : Met l yX5_trade (jws yX5_trade cX5_trade 7 (some .int)) (jrm 7 166) (va_Pc [.ref (jO X 0), .int v1, .int v2] (jB X M)) (jQm X A (some (.int r)) N) 0 0 A := by
  refine jm_of (by decide) (Nat.le_of_ble_eq_true rfl) ?_
  intro p e s m args below meth c ls S hr hlocks hB hl
  have S : CallFix p m c cX5_trade 7 s args jtb RX5 := S
  obtain ⟨hx, hb, hml, hown, hts⟩ := id S
  obtain ⟨hP, hK⟩ := hB
  have hN := hK.2
  have hS : va_S A s.heap s.heap [] := va_S.rf
  have hl : lv_has ls 7 [(0, .ref (jO X 0)), (1, .int v1), (2, .int v2)] := hl
  refine lv_aload_n hx hb dX5_trade_0 rfl (lv_at hl 0 rfl) ?_
  refine jr_get (k := 0) hx hb hts hown hK hP jb_0 (Nat.le_of_ble_eq_true rfl) jlX5_12 rfl dX5_trade_1 ?_
  refine lv_iload_n hx hb dX5_trade_4 rfl (lv_at hl 1 rfl) ?_
  refine jr_kp (jr_rv (As := [.int v1]) (rest := []) S hK hP jb_1 rfl (m_X4_hasWalker l X M jb_1 v1 _ rfl) jw_X4_hasWalker ji_X4_hasWalker jmX5_119 rfl rfl ⟨(Nat.le_of_ble_eq_true rfl), (Nat.le_of_ble_eq_true rfl)⟩ rfl hl.1 rfl (Nat.le_of_ble_eq_true rfl) dX5_trade_5 ⟨Nat.zero_le _, Nat.zero_le _⟩) ?_
  refine lv_if_eq (tgt := 22) hx hb dX5_trade_8 rfl (fun c8 => ?_) (fun c8 => ?_)
  · replace h := jh_t h c8
    refine lv_aload_n hx hb dX5_trade_22 rfl (lv_at hl 0 rfl) ?_
    refine lv_iconst (v := (-1)) hx hb dX5_trade_23 jci_m1 ?_
    obtain ⟨r2, M_2, e2, h⟩ := jh_b2 h
    refine jr_km (jr_rv (As := [.int (-1)]) (rest := []) S hK hP jb_0 rfl (m_X5_refuse l X A hs M (-1) r2 M_2 e2) jw_X5_refuse ji_X5_refuse jmX5_65 rfl rfl ⟨(Nat.le_of_ble_eq_true rfl), (Nat.le_of_ble_eq_true rfl)⟩ rfl hl.1 rfl (Nat.le_of_ble_eq_true rfl) dX5_trade_24 ⟨Nat.zero_le _, Nat.zero_le _⟩) hS (fun H locs hP hS => ?_)
    exact je_mi hx hb hr hlocks hK hP hS h dX5_trade_27
  · replace h := jh_f h c8
    refine lv_aload_n hx hb dX5_trade_11 rfl (lv_at hl 0 rfl) ?_
    refine jr_get (k := 0) hx hb hts hown hK hP jb_0 (Nat.le_of_ble_eq_true rfl) jlX5_12 rfl dX5_trade_12 ?_
    refine lv_iload_n hx hb dX5_trade_15 rfl (lv_at hl 2 rfl) ?_
    refine jr_kp (jr_rv (As := [.int v2]) (rest := []) S hK hP jb_1 rfl (m_X4_hasHouse l X M jb_1 v2 _ rfl) jw_X4_hasHouse ji_X4_hasHouse jmX5_90 rfl rfl ⟨(Nat.le_of_ble_eq_true rfl), (Nat.le_of_ble_eq_true rfl)⟩ rfl hl.1 rfl (Nat.le_of_ble_eq_true rfl) dX5_trade_16 ⟨Nat.zero_le _, Nat.zero_le _⟩) ?_
    refine lv_if_ne (tgt := 28) hx hb dX5_trade_19 rfl (fun c19 => ?_) (fun c19 => ?_)
    · replace h := jh_f h c19
      refine lv_aload_n hx hb dX5_trade_28 rfl (lv_at hl 0 rfl) ?_
      refine jr_get (k := 0) hx hb hts hown hK hP jb_0 (Nat.le_of_ble_eq_true rfl) jlX5_12 rfl dX5_trade_29 ?_
      refine lv_iload_n hx hb dX5_trade_32 rfl (lv_at hl 1 rfl) ?_
      refine lv_iload_n hx hb dX5_trade_33 rfl (lv_at hl 2 rfl) ?_
      obtain ⟨r4, e4, h⟩ := jh_b h
      refine jr_kp (jr_rv (As := [.int v1, .int v2]) (rest := []) S hK hP jb_1 rfl (m_X4_owes l X M jb_1 v1 v2 r4 e4) jw_X4_owes ji_X4_owes jmX5_140 rfl rfl ⟨(Nat.le_of_ble_eq_true rfl), (Nat.le_of_ble_eq_true rfl)⟩ rfl hl.1 rfl (Nat.le_of_ble_eq_true rfl) dX5_trade_34 ⟨Nat.zero_le _, Nat.zero_le _⟩) ?_
      refine lv_if_ne (tgt := 47) hx hb dX5_trade_37 rfl (fun c37 => ?_) (fun c37 => ?_)
      · replace h := jh_f h c37
        refine lv_bipush (v := (-9)) hx hb dX5_trade_47 jcb_m9 ?_
        refine lv_istore_n (lv' := [(3, .int (-9)), (0, .ref (jO X 0)), (1, .int v1), (2, .int v2)]) hx hb dX5_trade_49 rfl hl (Nat.le_of_ble_eq_true rfl) rfl (fun ls hl => ?_)
        refine lv_aload_n hx hb dX5_trade_50 rfl (lv_at hl 1 rfl) ?_
        refine jr_get (k := 0) hx hb hts hown hK hP jb_0 (Nat.le_of_ble_eq_true rfl) jlX5_12 rfl dX5_trade_51 ?_
        obtain ⟨r5, e5, h⟩ := jh_b h
        refine jr_kp (jr_rv (As := []) (rest := []) S hK hP jb_1 rfl (m_X4_burden l X M jb_1  r5 e5) jw_X4_burden ji_X4_burden jmX5_247 rfl rfl ⟨(Nat.le_of_ble_eq_true rfl), (Nat.le_of_ble_eq_true rfl)⟩ rfl hl.1 rfl (Nat.le_of_ble_eq_true rfl) dX5_trade_54 ⟨Nat.zero_le _, Nat.zero_le _⟩) ?_
        refine lv_istore (lv' := [(4, .int r5), (3, .int (-9)), (0, .ref (jO X 0)), (1, .int v1), (2, .int v2)]) hx hb dX5_trade_57 hl (Nat.le_of_ble_eq_true rfl) rfl (fun ls hl => ?_)
        refine lv_iconst (v := 0) hx hb dX5_trade_59 jci_0 ?_
        refine lv_istore (lv' := [(5, .int 0), (4, .int r5), (3, .int (-9)), (0, .ref (jO X 0)), (1, .int v1), (2, .int v2)]) hx hb dX5_trade_60 hl (Nat.le_of_ble_eq_true rfl) rfl (fun ls hl => ?_)
        have L62 : ∀ (v1_6 : Int32) (v2_6 : Int32) (k_6 : Nat) (M_6 : jm) (H : Heap) (locs : List Loc) (v3_6 : Int32) (v4_6 : Int32) (v5_6 : Int32) (ls : Array Slot), f_X5_trade_l62 v1_6 v2_6 k_6 M_6 v3_6 v4_6 v5_6 = some (r, N) → jrp X M_6 H → va_S A s.heap H locs → lv_has ls 7 [(0, .ref (jO X 0)), (1, .int v1_6), (2, .int v2_6), (3, .int v3_6), (4, .int v4_6), (5, .int v5_6)] → W p l e (jrm 7 166) s m args below meth c H locs 0 0 (MQ below (jQm X A (some (.int r)) N) args s 0 0 A) (F0 m 62 ls []) := by
          intro v1_6 v2_6 k_6
          induction k_6 with
          | zero => intro M_6 H locs v3_6 v4_6 v5_6 ls h; exact jh_0 h
          | succ k_6 ih62 =>
            intro M_6 H locs v3_6 v4_6 v5_6 ls h hP hS hl
            refine lv_iload hx hb dX5_trade_62 (lv_at hl 5 rfl) ?_
            refine lv_aload_n hx hb dX5_trade_64 rfl (lv_at hl 0 rfl) ?_
            refine jr_get (k := 0) hx hb hts hown hK hP jb_0 (Nat.le_of_ble_eq_true rfl) jlX5_12 rfl dX5_trade_65 ?_
            refine jr_get (k := 5) hx hb hts hown hK hP jb_1 (Nat.le_of_ble_eq_true rfl) jlX5_158 rfl dX5_trade_68 ?_
            refine lv_icmp_ge (tgt := 160) hx hb dX5_trade_71 rfl (fun c71 => ?_) (fun c71 => ?_)
            · replace h := jh_t h c71
              refine lv_iload_n hx hb dX5_trade_160 rfl (lv_at hl 3 rfl) ?_
              exact je_mi hx hb hr hlocks hK hP hS h dX5_trade_161
            · replace h := jh_f h c71
              refine lv_aload_n hx hb dX5_trade_74 rfl (lv_at hl 0 rfl) ?_
              refine jr_get (k := 0) hx hb hts hown hK hP jb_0 (Nat.le_of_ble_eq_true rfl) jlX5_12 rfl dX5_trade_75 ?_
              refine lv_iload hx hb dX5_trade_78 (lv_at hl 5 rfl) ?_
              refine lv_iload_n hx hb dX5_trade_80 rfl (lv_at hl 2 rfl) ?_
              obtain ⟨r7, e7, h⟩ := jh_b h
              refine jr_kp (jr_rv (As := [.int v5_6, .int v2_6]) (rest := []) S hK hP jb_1 rfl (m_X4_owes l X M_6 jb_1 v5_6 v2_6 r7 e7) jw_X4_owes ji_X4_owes jmX5_140 rfl rfl ⟨(Nat.le_of_ble_eq_true rfl), (Nat.le_of_ble_eq_true rfl)⟩ rfl hl.1 rfl (Nat.le_of_ble_eq_true rfl) dX5_trade_81 ⟨Nat.zero_le _, Nat.zero_le _⟩) ?_
              refine lv_if_eq (tgt := 90) hx hb dX5_trade_84 rfl (fun c84 => ?_) (fun c84 => ?_)
              · replace h := jh_t h c84
                refine lv_aload_n hx hb dX5_trade_90 rfl (lv_at hl 0 rfl) ?_
                refine jr_get (k := 1) hx hb hts hown hK hP jb_0 (Nat.le_of_ble_eq_true rfl) jlX5_16 rfl dX5_trade_91 ?_
                refine lv_aload_n hx hb dX5_trade_94 rfl (lv_at hl 0 rfl) ?_
                refine jr_get (k := 0) hx hb hts hown hK hP jb_0 (Nat.le_of_ble_eq_true rfl) jlX5_12 rfl dX5_trade_95 ?_
                obtain ⟨M_8, e8, h⟩ := jh_b h
                refine jr_kv (jr_rv (As := [.ref (jO X 1)]) (rest := []) S hK hP jb_2 rfl (m_X4_become l X A hs M_6 jb_2 jb_1 M_8 e8) jw_X4_become ji_X4_become jmX5_76 rfl rfl ⟨(Nat.le_of_ble_eq_true rfl), (Nat.le_of_ble_eq_true rfl)⟩ rfl hl.1 rfl (Nat.le_of_ble_eq_true rfl) dX5_trade_98 ⟨Nat.zero_le _, Nat.zero_le _⟩) hS (fun H locs hP hS => ?_)
                refine lv_aload_n hx hb dX5_trade_101 rfl (lv_at hl 0 rfl) ?_
                refine jr_get (k := 1) hx hb hts hown hK hP jb_0 (Nat.le_of_ble_eq_true rfl) jlX5_16 rfl dX5_trade_102 ?_
                refine lv_iload_n hx hb dX5_trade_105 rfl (lv_at hl 1 rfl) ?_
                refine lv_iload_n hx hb dX5_trade_106 rfl (lv_at hl 2 rfl) ?_
                refine lv_iconst (v := (-1)) hx hb dX5_trade_107 jci_m1 ?_
                obtain ⟨M_9, e9, h⟩ := jh_b h
                refine jr_kv (jr_rv (As := [.int v1_6, .int v2_6, .int (-1)]) (rest := []) S hK hP jb_2 rfl (m_X4_setDebt l X A hs M_8 jb_2 v1_6 v2_6 (-1) M_9 e9) jw_X4_setDebt ji_X4_setDebt jmX5_176 rfl rfl ⟨(Nat.le_of_ble_eq_true rfl), (Nat.le_of_ble_eq_true rfl)⟩ rfl hl.1 rfl (Nat.le_of_ble_eq_true rfl) dX5_trade_108 ⟨Nat.zero_le _, Nat.zero_le _⟩) hS (fun H locs hP hS => ?_)
                refine lv_aload_n hx hb dX5_trade_111 rfl (lv_at hl 0 rfl) ?_
                refine jr_get (k := 1) hx hb hts hown hK hP jb_0 (Nat.le_of_ble_eq_true rfl) jlX5_16 rfl dX5_trade_112 ?_
                refine lv_iload hx hb dX5_trade_115 (lv_at hl 5 rfl) ?_
                refine lv_iload_n hx hb dX5_trade_117 rfl (lv_at hl 2 rfl) ?_
                refine lv_aload_n hx hb dX5_trade_118 rfl (lv_at hl 0 rfl) ?_
                refine jr_get (k := 0) hx hb hts hown hK hP jb_0 (Nat.le_of_ble_eq_true rfl) jlX5_12 rfl dX5_trade_119 ?_
                refine lv_iload_n hx hb dX5_trade_122 rfl (lv_at hl 1 rfl) ?_
                refine lv_iload_n hx hb dX5_trade_123 rfl (lv_at hl 2 rfl) ?_
                refine lv_iconst (v := 0) hx hb dX5_trade_124 jci_0 ?_
                obtain ⟨r10, e10, h⟩ := jh_b h
                refine jr_kp (jr_rv (As := [.int v1_6, .int v2_6, .int 0]) (rest := [.int v2_6, .int v5_6, .ref (jO X 2)]) S hK hP jb_1 rfl (m_X4_ageBehind l X M_9 jb_1 v1_6 v2_6 0 r10 e10) jw_X4_ageBehind ji_X4_ageBehind jmX5_144 rfl rfl ⟨(Nat.le_of_ble_eq_true rfl), (Nat.le_of_ble_eq_true rfl)⟩ rfl hl.1 rfl (Nat.le_of_ble_eq_true rfl) dX5_trade_125 ⟨Nat.zero_le _, Nat.zero_le _⟩) ?_
                obtain ⟨M_11, e11, h⟩ := jh_b h
                refine jr_kv (jr_rv (As := [.int v5_6, .int v2_6, .int r10]) (rest := []) S hK hP jb_2 rfl (m_X4_setDebt l X A hs M_9 jb_2 v5_6 v2_6 r10 M_11 e11) jw_X4_setDebt ji_X4_setDebt jmX5_176 rfl rfl ⟨(Nat.le_of_ble_eq_true rfl), (Nat.le_of_ble_eq_true rfl)⟩ rfl hl.1 rfl (Nat.le_of_ble_eq_true rfl) dX5_trade_128 ⟨Nat.zero_le _, Nat.zero_le _⟩) hS (fun H locs hP hS => ?_)
                refine lv_aload_n hx hb dX5_trade_131 rfl (lv_at hl 0 rfl) ?_
                refine jr_get (k := 1) hx hb hts hown hK hP jb_0 (Nat.le_of_ble_eq_true rfl) jlX5_16 rfl dX5_trade_132 ?_
                obtain ⟨r12, e12, h⟩ := jh_b h
                refine jr_kp (jr_rv (As := []) (rest := []) S hK hP jb_2 rfl (m_X4_burden l X M_11 jb_2  r12 e12) jw_X4_burden ji_X4_burden jmX5_247 rfl rfl ⟨(Nat.le_of_ble_eq_true rfl), (Nat.le_of_ble_eq_true rfl)⟩ rfl hl.1 rfl (Nat.le_of_ble_eq_true rfl) dX5_trade_135 ⟨Nat.zero_le _, Nat.zero_le _⟩) ?_
                refine lv_istore (lv' := [(6, .int r12), (0, .ref (jO X 0)), (1, .int v1_6), (2, .int v2_6), (3, .int v3_6), (4, .int v4_6), (5, .int v5_6)]) hx hb dX5_trade_138 hl (Nat.le_of_ble_eq_true rfl) rfl (fun ls hl => ?_)
                refine lv_iload hx hb dX5_trade_140 (lv_at hl 0 rfl) ?_
                refine lv_iload hx hb dX5_trade_142 (lv_at hl 5 rfl) ?_
                refine lv_icmp_ge (tgt := 154) hx hb dX5_trade_144 rfl (fun c144 => ?_) (fun c144 => ?_)
                · replace h := jh_t h c144
                  refine lv_iinc (v := (v5_6 + 1)) (lv' := [(5, .int (v5_6 + 1)), (6, .int r12), (0, .ref (jO X 0)), (1, .int v1_6), (2, .int v2_6), (3, .int v3_6), (4, .int v4_6)]) hx hb dX5_trade_154 hl (k := 6) rfl (congrArg _ jci_1) (Nat.le_of_ble_eq_true rfl) rfl (fun ls hl => ?_)
                  refine lv_goto (tgt := 62) hx hb dX5_trade_157 rfl ?_
                  exact ih62 M_11 _ _ v3_6 v4_6 (v5_6 + 1) _ h hP hS (lv_sub hl [2, 3, 4, 5, 6, 0] rfl)
                · replace h := jh_f h c144
                  refine lv_iload hx hb dX5_trade_147 (lv_at hl 0 rfl) ?_
                  refine lv_istore (lv' := [(4, .int r12), (6, .int r12), (0, .ref (jO X 0)), (1, .int v1_6), (2, .int v2_6), (3, .int v3_6), (5, .int v5_6)]) hx hb dX5_trade_149 hl (Nat.le_of_ble_eq_true rfl) rfl (fun ls hl => ?_)
                  refine lv_iload hx hb dX5_trade_151 (lv_at hl 6 rfl) ?_
                  refine lv_istore_n (lv' := [(3, .int v5_6), (4, .int r12), (6, .int r12), (0, .ref (jO X 0)), (1, .int v1_6), (2, .int v2_6), (5, .int v5_6)]) hx hb dX5_trade_153 rfl hl (Nat.le_of_ble_eq_true rfl) rfl (fun ls hl => ?_)
                  refine lv_iinc (v := (v5_6 + 1)) (lv' := [(5, .int (v5_6 + 1)), (3, .int v5_6), (4, .int r12), (6, .int r12), (0, .ref (jO X 0)), (1, .int v1_6), (2, .int v2_6)]) hx hb dX5_trade_154 hl (k := 6) rfl (congrArg _ jci_1) (Nat.le_of_ble_eq_true rfl) rfl (fun ls hl => ?_)
                  refine lv_goto (tgt := 62) hx hb dX5_trade_157 rfl ?_
                  exact ih62 M_11 _ _ v5_6 r12 (v5_6 + 1) _ h hP hS (lv_sub hl [4, 5, 6, 1, 2, 0] rfl)
              · replace h := jh_f h c84
                refine lv_goto (tgt := 154) hx hb dX5_trade_87 rfl ?_
                refine lv_iinc (v := (v5_6 + 1)) (lv' := [(5, .int (v5_6 + 1)), (0, .ref (jO X 0)), (1, .int v1_6), (2, .int v2_6), (3, .int v3_6), (4, .int v4_6)]) hx hb dX5_trade_154 hl (k := 5) rfl (congrArg _ jci_1) (Nat.le_of_ble_eq_true rfl) rfl (fun ls hl => ?_)
                refine lv_goto (tgt := 62) hx hb dX5_trade_157 rfl ?_
                exact ih62 M_6 _ _ v3_6 v4_6 (v5_6 + 1) _ h hP hS (lv_sub hl [1, 2, 3, 4, 5, 0] rfl)
        exact L62 v1 v2 10000 M _ _ (-9) r5 0 _ h hP hS (lv_sub hl [3, 4, 5, 2, 1, 0] rfl)
      · replace h := jh_t h c37
        refine lv_aload_n hx hb dX5_trade_40 rfl (lv_at hl 0 rfl) ?_
        refine lv_bipush (v := (-3)) hx hb dX5_trade_41 jcb_m3 ?_
        obtain ⟨r13, M_13, e13, h⟩ := jh_b2 h
        refine jr_km (jr_rv (As := [.int (-3)]) (rest := []) S hK hP jb_0 rfl (m_X5_refuse l X A hs M (-3) r13 M_13 e13) jw_X5_refuse ji_X5_refuse jmX5_65 rfl rfl ⟨(Nat.le_of_ble_eq_true rfl), (Nat.le_of_ble_eq_true rfl)⟩ rfl hl.1 rfl (Nat.le_of_ble_eq_true rfl) dX5_trade_43 ⟨Nat.zero_le _, Nat.zero_le _⟩) hS (fun H locs hP hS => ?_)
        exact je_mi hx hb hr hlocks hK hP hS h dX5_trade_46
    · replace h := jh_t h c19
      refine lv_aload_n hx hb dX5_trade_22 rfl (lv_at hl 0 rfl) ?_
      refine lv_iconst (v := (-1)) hx hb dX5_trade_23 jci_m1 ?_
      obtain ⟨r14, M_14, e14, h⟩ := jh_b2 h
      refine jr_km (jr_rv (As := [.int (-1)]) (rest := []) S hK hP jb_0 rfl (m_X5_refuse l X A hs M (-1) r14 M_14 e14) jw_X5_refuse ji_X5_refuse jmX5_65 rfl rfl ⟨(Nat.le_of_ble_eq_true rfl), (Nat.le_of_ble_eq_true rfl)⟩ rfl hl.1 rfl (Nat.le_of_ble_eq_true rfl) dX5_trade_24 ⟨Nat.zero_le _, Nat.zero_le _⟩) hS (fun H locs hP hS => ?_)
      exact je_mi hx hb hr hlocks hK hP hS h dX5_trade_27
def f_X5_whoWent_l21 (v1_2 : Int32) : Nat → jm → Int32 → Int32 → Option (Int32 × jm)
  | 0, _, _, _ => none
  | k_2 + 1, M_2, v2_2, v3_2 => (if (M_2 1 5 0) ≤ v3_2 then (some (v2_2, M_2)) else (jgd v3_2 6 (jgd v1_2 8 (if (M_2 1 6 (Int32.toNatClampNeg v3_2)) = (M_2 1 3 (Int32.toNatClampNeg v1_2)) then (jb (f_X4_owes M_2 1 v3_2 v1_2) fun r3 => (if r3 = 0 then ((f_X5_whoWent_l21 v1_2 k_2) M_2 v2_2 (v3_2 + 1)) else ((f_X5_whoWent_l21 v1_2 k_2) M_2 (v2_2 ||| ((1 : Int32) <<< (v3_2 &&& 31))) (v3_2 + 1)))) else ((f_X5_whoWent_l21 v1_2 k_2) M_2 v2_2 (v3_2 + 1))))))
def f_X5_whoWent (M : jm) (v1 : Int32) : Option (Int32 × jm) := (if (f_X4_hasHouse M 1 v1) = 0 then (jb2 (f_X5_refuse M (-1)) fun r4 M_4 => (some (r4, M_4))) else (f_X5_whoWent_l21 v1 10000 M 0 0))
set_option maxRecDepth 100000 in
theorem m_X5_whoWent (l : Launch) (X : jX) (A : Nat → Prop) (hs : jst X A) (M : jm) (v1 : Int32) (r : Int32) (N : jm) (h : f_X5_whoWent M v1 = some (r, N)) : Met l yX5_whoWent (jws yX5_whoWent cX5_whoWent 4 (some .int)) (jrm 1 22) (va_Pc [.ref (jO X 0), .int v1] (jB X M)) (jQm X A (some (.int r)) N) 0 0 A := by
  refine jm_of (by decide) (Nat.le_of_ble_eq_true rfl) ?_
  intro p e s m args below meth c ls S hr hlocks hB hl
  have S : CallFix p m c cX5_whoWent 4 s args jtb RX5 := S
  obtain ⟨hx, hb, hml, hown, hts⟩ := id S
  obtain ⟨hP, hK⟩ := hB
  have hN := hK.2
  have hS : va_S A s.heap s.heap [] := va_S.rf
  have hl : lv_has ls 4 [(0, .ref (jO X 0)), (1, .int v1)] := hl
  refine lv_aload_n hx hb dX5_whoWent_0 rfl (lv_at hl 0 rfl) ?_
  refine jr_get (k := 0) hx hb hts hown hK hP jb_0 (Nat.le_of_ble_eq_true rfl) jlX5_12 rfl dX5_whoWent_1 ?_
  refine lv_iload_n hx hb dX5_whoWent_4 rfl (lv_at hl 1 rfl) ?_
  refine jr_kp (jr_rv (As := [.int v1]) (rest := []) S hK hP jb_1 rfl (m_X4_hasHouse l X M jb_1 v1 _ rfl) jw_X4_hasHouse ji_X4_hasHouse jmX5_90 rfl rfl ⟨(Nat.le_of_ble_eq_true rfl), (Nat.le_of_ble_eq_true rfl)⟩ rfl hl.1 rfl (Nat.le_of_ble_eq_true rfl) dX5_whoWent_5 ⟨Nat.zero_le _, Nat.zero_le _⟩) ?_
  refine lv_if_ne (tgt := 17) hx hb dX5_whoWent_8 rfl (fun c8 => ?_) (fun c8 => ?_)
  · replace h := jh_f h c8
    refine lv_iconst (v := 0) hx hb dX5_whoWent_17 jci_0 ?_
    refine lv_istore_n (lv' := [(2, .int 0), (0, .ref (jO X 0)), (1, .int v1)]) hx hb dX5_whoWent_18 rfl hl (Nat.le_of_ble_eq_true rfl) rfl (fun ls hl => ?_)
    refine lv_iconst (v := 0) hx hb dX5_whoWent_19 jci_0 ?_
    refine lv_istore_n (lv' := [(3, .int 0), (2, .int 0), (0, .ref (jO X 0)), (1, .int v1)]) hx hb dX5_whoWent_20 rfl hl (Nat.le_of_ble_eq_true rfl) rfl (fun ls hl => ?_)
    have L21 : ∀ (v1_2 : Int32) (k_2 : Nat) (M_2 : jm) (H : Heap) (locs : List Loc) (v2_2 : Int32) (v3_2 : Int32) (ls : Array Slot), f_X5_whoWent_l21 v1_2 k_2 M_2 v2_2 v3_2 = some (r, N) → jrp X M_2 H → va_S A s.heap H locs → lv_has ls 4 [(0, .ref (jO X 0)), (1, .int v1_2), (2, .int v2_2), (3, .int v3_2)] → W p l e (jrm 1 22) s m args below meth c H locs 0 0 (MQ below (jQm X A (some (.int r)) N) args s 0 0 A) (F0 m 21 ls []) := by
      intro v1_2 k_2
      induction k_2 with
      | zero => intro M_2 H locs v2_2 v3_2 ls h; exact jh_0 h
      | succ k_2 ih21 =>
        intro M_2 H locs v2_2 v3_2 ls h hP hS hl
        refine lv_iload_n hx hb dX5_whoWent_21 rfl (lv_at hl 3 rfl) ?_
        refine lv_aload_n hx hb dX5_whoWent_22 rfl (lv_at hl 0 rfl) ?_
        refine jr_get (k := 0) hx hb hts hown hK hP jb_0 (Nat.le_of_ble_eq_true rfl) jlX5_12 rfl dX5_whoWent_23 ?_
        refine jr_get (k := 5) hx hb hts hown hK hP jb_1 (Nat.le_of_ble_eq_true rfl) jlX5_158 rfl dX5_whoWent_26 ?_
        refine lv_icmp_ge (tgt := 77) hx hb dX5_whoWent_29 rfl (fun c29 => ?_) (fun c29 => ?_)
        · replace h := jh_t h c29
          refine lv_iload_n hx hb dX5_whoWent_77 rfl (lv_at hl 2 rfl) ?_
          exact je_mi hx hb hr hlocks hK hP hS h dX5_whoWent_78
        · replace h := jh_f h c29
          refine lv_aload_n hx hb dX5_whoWent_32 rfl (lv_at hl 0 rfl) ?_
          refine jr_get (k := 0) hx hb hts hown hK hP jb_0 (Nat.le_of_ble_eq_true rfl) jlX5_12 rfl dX5_whoWent_33 ?_
          refine jr_get (k := 6) hx hb hts hown hK hP jb_1 (Nat.le_of_ble_eq_true rfl) jlX5_122 rfl dX5_whoWent_36 ?_
          refine lv_iload_n hx hb dX5_whoWent_39 rfl (lv_at hl 3 rfl) ?_
          obtain ⟨g40, h⟩ := jh_gd h
          refine jr_ald (n := 6) hx hb hK hP jb_1 rfl g40 dX5_whoWent_40 ?_
          refine lv_aload_n hx hb dX5_whoWent_41 rfl (lv_at hl 0 rfl) ?_
          refine jr_get (k := 0) hx hb hts hown hK hP jb_0 (Nat.le_of_ble_eq_true rfl) jlX5_12 rfl dX5_whoWent_42 ?_
          refine jr_get (k := 3) hx hb hts hown hK hP jb_1 (Nat.le_of_ble_eq_true rfl) jlX5_100 rfl dX5_whoWent_45 ?_
          refine lv_iload_n hx hb dX5_whoWent_48 rfl (lv_at hl 1 rfl) ?_
          obtain ⟨g49, h⟩ := jh_gd h
          refine jr_ald (n := 8) hx hb hK hP jb_1 rfl g49 dX5_whoWent_49 ?_
          refine lv_icmp_ne (tgt := 71) hx hb dX5_whoWent_50 rfl (fun c50 => ?_) (fun c50 => ?_)
          · replace h := jh_f h c50
            refine lv_iinc (v := (v3_2 + 1)) (lv' := [(3, .int (v3_2 + 1)), (0, .ref (jO X 0)), (1, .int v1_2), (2, .int v2_2)]) hx hb dX5_whoWent_71 hl (k := 3) rfl (congrArg _ jci_1) (Nat.le_of_ble_eq_true rfl) rfl (fun ls hl => ?_)
            refine lv_goto (tgt := 21) hx hb dX5_whoWent_74 rfl ?_
            exact ih21 M_2 _ _ v2_2 (v3_2 + 1) _ h hP hS (lv_sub hl [1, 2, 3, 0] rfl)
          · replace h := jh_t h c50
            refine lv_aload_n hx hb dX5_whoWent_53 rfl (lv_at hl 0 rfl) ?_
            refine jr_get (k := 0) hx hb hts hown hK hP jb_0 (Nat.le_of_ble_eq_true rfl) jlX5_12 rfl dX5_whoWent_54 ?_
            refine lv_iload_n hx hb dX5_whoWent_57 rfl (lv_at hl 3 rfl) ?_
            refine lv_iload_n hx hb dX5_whoWent_58 rfl (lv_at hl 1 rfl) ?_
            obtain ⟨r3, e3, h⟩ := jh_b h
            refine jr_kp (jr_rv (As := [.int v3_2, .int v1_2]) (rest := []) S hK hP jb_1 rfl (m_X4_owes l X M_2 jb_1 v3_2 v1_2 r3 e3) jw_X4_owes ji_X4_owes jmX5_140 rfl rfl ⟨(Nat.le_of_ble_eq_true rfl), (Nat.le_of_ble_eq_true rfl)⟩ rfl hl.1 rfl (Nat.le_of_ble_eq_true rfl) dX5_whoWent_59 ⟨Nat.zero_le _, Nat.zero_le _⟩) ?_
            refine lv_if_eq (tgt := 71) hx hb dX5_whoWent_62 rfl (fun c62 => ?_) (fun c62 => ?_)
            · replace h := jh_t h c62
              refine lv_iinc (v := (v3_2 + 1)) (lv' := [(3, .int (v3_2 + 1)), (0, .ref (jO X 0)), (1, .int v1_2), (2, .int v2_2)]) hx hb dX5_whoWent_71 hl (k := 3) rfl (congrArg _ jci_1) (Nat.le_of_ble_eq_true rfl) rfl (fun ls hl => ?_)
              refine lv_goto (tgt := 21) hx hb dX5_whoWent_74 rfl ?_
              exact ih21 M_2 _ _ v2_2 (v3_2 + 1) _ h hP hS (lv_sub hl [1, 2, 3, 0] rfl)
            · replace h := jh_f h c62
              refine lv_iload_n hx hb dX5_whoWent_65 rfl (lv_at hl 2 rfl) ?_
              refine lv_iconst (v := 1) hx hb dX5_whoWent_66 jci_1 ?_
              refine lv_iload_n hx hb dX5_whoWent_67 rfl (lv_at hl 3 rfl) ?_
              refine lv_ishl hx hb dX5_whoWent_68 ?_
              refine lv_ior hx hb dX5_whoWent_69 ?_
              refine lv_istore_n (lv' := [(2, .int (v2_2 ||| ((1 : Int32) <<< (v3_2 &&& 31)))), (0, .ref (jO X 0)), (1, .int v1_2), (3, .int v3_2)]) hx hb dX5_whoWent_70 rfl hl (Nat.le_of_ble_eq_true rfl) rfl (fun ls hl => ?_)
              refine lv_iinc (v := (v3_2 + 1)) (lv' := [(3, .int (v3_2 + 1)), (2, .int (v2_2 ||| ((1 : Int32) <<< (v3_2 &&& 31)))), (0, .ref (jO X 0)), (1, .int v1_2)]) hx hb dX5_whoWent_71 hl (k := 3) rfl (congrArg _ jci_1) (Nat.le_of_ble_eq_true rfl) rfl (fun ls hl => ?_)
              refine lv_goto (tgt := 21) hx hb dX5_whoWent_74 rfl ?_
              exact ih21 M_2 _ _ (v2_2 ||| ((1 : Int32) <<< (v3_2 &&& 31))) (v3_2 + 1) _ h hP hS (lv_sub hl [2, 3, 1, 0] rfl)
    exact L21 v1 10000 M _ _ 0 0 _ h hP hS (lv_sub hl [2, 3, 1, 0] rfl)
  · replace h := jh_t h c8
    refine lv_aload_n hx hb dX5_whoWent_11 rfl (lv_at hl 0 rfl) ?_
    refine lv_iconst (v := (-1)) hx hb dX5_whoWent_12 jci_m1 ?_
    obtain ⟨r4, M_4, e4, h⟩ := jh_b2 h
    refine jr_km (jr_rv (As := [.int (-1)]) (rest := []) S hK hP jb_0 rfl (m_X5_refuse l X A hs M (-1) r4 M_4 e4) jw_X5_refuse ji_X5_refuse jmX5_65 rfl rfl ⟨(Nat.le_of_ble_eq_true rfl), (Nat.le_of_ble_eq_true rfl)⟩ rfl hl.1 rfl (Nat.le_of_ble_eq_true rfl) dX5_whoWent_13 ⟨Nat.zero_le _, Nat.zero_le _⟩) hS (fun H locs hP hS => ?_)
    exact je_mi hx hb hr hlocks hK hP hS h dX5_whoWent_16
def f_X5_debtless_l4 (M : jm) : Nat → Int32 → Int32 → Option Int32
  | 0, _, _ => none
  | k_1 + 1, v1_1, v2_1 => (if (M 1 5 0) ≤ v2_1 then (some v1_1) else (jb (f_X4_owesBehind M 1 v2_1 0) fun r2 => (if r2 = 0 then ((f_X5_debtless_l4 M k_1) (v1_1 ||| ((1 : Int32) <<< (v2_1 &&& 31))) (v2_1 + 1)) else ((f_X5_debtless_l4 M k_1) v1_1 (v2_1 + 1)))))
def f_X5_debtless (M : jm) : Option Int32 := (f_X5_debtless_l4 M 10000 0 0)
set_option maxRecDepth 100000 in
theorem m_X5_debtless (l : Launch) (X : jX) (M : jm) (r : Int32) (h : f_X5_debtless M = some r) : Met l yX5_debtless (jws yX5_debtless cX5_debtless 3 (some .int)) (jrm 5 119) (va_Pc [.ref (jO X 0)] (jB X M)) (jQ (.int r)) 0 0 (fun _ => False) := by
  refine jm_of (by decide) (Nat.le_of_ble_eq_true rfl) ?_
  intro p e s m args below meth c ls S hr hlocks hB hl
  have S : CallFix p m c cX5_debtless 3 s args jtb RX5 := S
  obtain ⟨hx, hb, hml, hown, hts⟩ := id S
  obtain ⟨hP, hK⟩ := hB
  have hN := hK.2
  have hl : lv_has ls 3 [(0, .ref (jO X 0))] := hl
  refine lv_iconst (v := 0) hx hb dX5_debtless_0 jci_0 ?_
  refine lv_istore_n (lv' := [(1, .int 0), (0, .ref (jO X 0))]) hx hb dX5_debtless_1 rfl hl (Nat.le_of_ble_eq_true rfl) rfl (fun ls hl => ?_)
  refine lv_iconst (v := 0) hx hb dX5_debtless_2 jci_0 ?_
  refine lv_istore_n (lv' := [(2, .int 0), (1, .int 0), (0, .ref (jO X 0))]) hx hb dX5_debtless_3 rfl hl (Nat.le_of_ble_eq_true rfl) rfl (fun ls hl => ?_)
  have L4 : ∀ (k_1 : Nat) (v1_1 : Int32) (v2_1 : Int32) (ls : Array Slot), f_X5_debtless_l4 M k_1 v1_1 v2_1 = some r → lv_has ls 3 [(0, .ref (jO X 0)), (1, .int v1_1), (2, .int v2_1)] → W p l e (jrm 5 119) s m args below meth c s.heap [] 0 0 (MQ below (jQ (.int r)) args s 0 0 (fun _ => False)) (F0 m 4 ls []) := by
    intro k_1
    induction k_1 with
    | zero => intro v1_1 v2_1 ls h; exact jh_0 h
    | succ k_1 ih4 =>
      intro v1_1 v2_1 ls h hl
      refine lv_iload_n hx hb dX5_debtless_4 rfl (lv_at hl 2 rfl) ?_
      refine lv_aload_n hx hb dX5_debtless_5 rfl (lv_at hl 0 rfl) ?_
      refine jr_get (k := 0) hx hb hts hown hK hP jb_0 (Nat.le_of_ble_eq_true rfl) jlX5_12 rfl dX5_debtless_6 ?_
      refine jr_get (k := 5) hx hb hts hown hK hP jb_1 (Nat.le_of_ble_eq_true rfl) jlX5_158 rfl dX5_debtless_9 ?_
      refine lv_icmp_ge (tgt := 39) hx hb dX5_debtless_12 rfl (fun c12 => ?_) (fun c12 => ?_)
      · replace h := jh_t h c12
        refine lv_iload_n hx hb dX5_debtless_39 rfl (lv_at hl 1 rfl) ?_
        exact je_i hx hb hr hlocks (Option.some.inj h) dX5_debtless_40
      · replace h := jh_f h c12
        refine lv_aload_n hx hb dX5_debtless_15 rfl (lv_at hl 0 rfl) ?_
        refine jr_get (k := 0) hx hb hts hown hK hP jb_0 (Nat.le_of_ble_eq_true rfl) jlX5_12 rfl dX5_debtless_16 ?_
        refine lv_iload_n hx hb dX5_debtless_19 rfl (lv_at hl 2 rfl) ?_
        refine lv_iconst (v := 0) hx hb dX5_debtless_20 jci_0 ?_
        obtain ⟨r2, e2, h⟩ := jh_b h
        refine jr_kp (jr_rv (As := [.int v2_1, .int 0]) (rest := []) S hK hP jb_1 rfl (m_X4_owesBehind l X M jb_1 v2_1 0 r2 e2) jw_X4_owesBehind ji_X4_owesBehind jmX5_131 rfl rfl ⟨(Nat.le_of_ble_eq_true rfl), (Nat.le_of_ble_eq_true rfl)⟩ rfl hl.1 rfl (Nat.le_of_ble_eq_true rfl) dX5_debtless_21 ⟨Nat.zero_le _, Nat.zero_le _⟩) ?_
        refine lv_if_ne (tgt := 33) hx hb dX5_debtless_24 rfl (fun c24 => ?_) (fun c24 => ?_)
        · replace h := jh_f h c24
          refine lv_iinc (v := (v2_1 + 1)) (lv' := [(2, .int (v2_1 + 1)), (0, .ref (jO X 0)), (1, .int v1_1)]) hx hb dX5_debtless_33 hl (k := 2) rfl (congrArg _ jci_1) (Nat.le_of_ble_eq_true rfl) rfl (fun ls hl => ?_)
          refine lv_goto (tgt := 4) hx hb dX5_debtless_36 rfl ?_
          exact ih4 v1_1 (v2_1 + 1) _ h (lv_sub hl [1, 2, 0] rfl)
        · replace h := jh_t h c24
          refine lv_iload_n hx hb dX5_debtless_27 rfl (lv_at hl 1 rfl) ?_
          refine lv_iconst (v := 1) hx hb dX5_debtless_28 jci_1 ?_
          refine lv_iload_n hx hb dX5_debtless_29 rfl (lv_at hl 2 rfl) ?_
          refine lv_ishl hx hb dX5_debtless_30 ?_
          refine lv_ior hx hb dX5_debtless_31 ?_
          refine lv_istore_n (lv' := [(1, .int (v1_1 ||| ((1 : Int32) <<< (v2_1 &&& 31)))), (0, .ref (jO X 0)), (2, .int v2_1)]) hx hb dX5_debtless_32 rfl hl (Nat.le_of_ble_eq_true rfl) rfl (fun ls hl => ?_)
          refine lv_iinc (v := (v2_1 + 1)) (lv' := [(2, .int (v2_1 + 1)), (1, .int (v1_1 ||| ((1 : Int32) <<< (v2_1 &&& 31)))), (0, .ref (jO X 0))]) hx hb dX5_debtless_33 hl (k := 2) rfl (congrArg _ jci_1) (Nat.le_of_ble_eq_true rfl) rfl (fun ls hl => ?_)
          refine lv_goto (tgt := 4) hx hb dX5_debtless_36 rfl ?_
          exact ih4 (v1_1 ||| ((1 : Int32) <<< (v2_1 &&& 31))) (v2_1 + 1) _ h (lv_sub hl [2, 1, 0] rfl)
  exact L4 10000 0 0 _ h (lv_sub hl [2, 1, 0] rfl)
def f_X5_owedByOne_l4 (M : jm) : Nat → Int32 → Int32 → Option Int32
  | 0, _, _ => none
  | k_1 + 1, v1_1, v2_1 => (if (M 1 0 0) ≤ v2_1 then (some v1_1) else (jb (f_X4_owersBehind M 1 v2_1 0) fun r2 => (if (f_J6_bitCount_0f7a4 r2) = 1 then ((f_X5_owedByOne_l4 M k_1) (v1_1 ||| ((1 : Int32) <<< (v2_1 &&& 31))) (v2_1 + 1)) else ((f_X5_owedByOne_l4 M k_1) v1_1 (v2_1 + 1)))))
def f_X5_owedByOne (M : jm) : Option Int32 := (f_X5_owedByOne_l4 M 10000 0 0)
set_option maxRecDepth 100000 in
theorem m_X5_owedByOne (l : Launch) (X : jX) (M : jm) (r : Int32) (h : f_X5_owedByOne M = some r) : Met l yX5_owedByOne (jws yX5_owedByOne cX5_owedByOne 3 (some .int)) (jrm 5 119) (va_Pc [.ref (jO X 0)] (jB X M)) (jQ (.int r)) 0 0 (fun _ => False) := by
  refine jm_of (by decide) (Nat.le_of_ble_eq_true rfl) ?_
  intro p e s m args below meth c ls S hr hlocks hB hl
  have S : CallFix p m c cX5_owedByOne 3 s args jtb RX5 := S
  obtain ⟨hx, hb, hml, hown, hts⟩ := id S
  obtain ⟨hP, hK⟩ := hB
  have hN := hK.2
  have hl : lv_has ls 3 [(0, .ref (jO X 0))] := hl
  refine lv_iconst (v := 0) hx hb dX5_owedByOne_0 jci_0 ?_
  refine lv_istore_n (lv' := [(1, .int 0), (0, .ref (jO X 0))]) hx hb dX5_owedByOne_1 rfl hl (Nat.le_of_ble_eq_true rfl) rfl (fun ls hl => ?_)
  refine lv_iconst (v := 0) hx hb dX5_owedByOne_2 jci_0 ?_
  refine lv_istore_n (lv' := [(2, .int 0), (1, .int 0), (0, .ref (jO X 0))]) hx hb dX5_owedByOne_3 rfl hl (Nat.le_of_ble_eq_true rfl) rfl (fun ls hl => ?_)
  have L4 : ∀ (k_1 : Nat) (v1_1 : Int32) (v2_1 : Int32) (ls : Array Slot), f_X5_owedByOne_l4 M k_1 v1_1 v2_1 = some r → lv_has ls 3 [(0, .ref (jO X 0)), (1, .int v1_1), (2, .int v2_1)] → W p l e (jrm 5 119) s m args below meth c s.heap [] 0 0 (MQ below (jQ (.int r)) args s 0 0 (fun _ => False)) (F0 m 4 ls []) := by
    intro k_1
    induction k_1 with
    | zero => intro v1_1 v2_1 ls h; exact jh_0 h
    | succ k_1 ih4 =>
      intro v1_1 v2_1 ls h hl
      refine lv_iload_n hx hb dX5_owedByOne_4 rfl (lv_at hl 2 rfl) ?_
      refine lv_aload_n hx hb dX5_owedByOne_5 rfl (lv_at hl 0 rfl) ?_
      refine jr_get (k := 0) hx hb hts hown hK hP jb_0 (Nat.le_of_ble_eq_true rfl) jlX5_12 rfl dX5_owedByOne_6 ?_
      refine jr_get (k := 0) hx hb hts hown hK hP jb_1 (Nat.le_of_ble_eq_true rfl) jlX5_148 rfl dX5_owedByOne_9 ?_
      refine lv_icmp_ge (tgt := 43) hx hb dX5_owedByOne_12 rfl (fun c12 => ?_) (fun c12 => ?_)
      · replace h := jh_t h c12
        refine lv_iload_n hx hb dX5_owedByOne_43 rfl (lv_at hl 1 rfl) ?_
        exact je_i hx hb hr hlocks (Option.some.inj h) dX5_owedByOne_44
      · replace h := jh_f h c12
        refine lv_aload_n hx hb dX5_owedByOne_15 rfl (lv_at hl 0 rfl) ?_
        refine jr_get (k := 0) hx hb hts hown hK hP jb_0 (Nat.le_of_ble_eq_true rfl) jlX5_12 rfl dX5_owedByOne_16 ?_
        refine lv_iload_n hx hb dX5_owedByOne_19 rfl (lv_at hl 2 rfl) ?_
        refine lv_iconst (v := 0) hx hb dX5_owedByOne_20 jci_0 ?_
        obtain ⟨r2, e2, h⟩ := jh_b h
        refine jr_kp (jr_rv (As := [.int v2_1, .int 0]) (rest := []) S hK hP jb_1 rfl (m_X4_owersBehind l X M jb_1 v2_1 0 r2 e2) jw_X4_owersBehind ji_X4_owersBehind jmX5_113 rfl rfl ⟨(Nat.le_of_ble_eq_true rfl), (Nat.le_of_ble_eq_true rfl)⟩ rfl hl.1 rfl (Nat.le_of_ble_eq_true rfl) dX5_owedByOne_21 ⟨Nat.zero_le _, Nat.zero_le _⟩) ?_
        refine jr_kp (jr_rs (As := [.int r2]) (rest := []) S hN (m_J6_bitCount_0f7a4 l r2 _ rfl) jw_J6_bitCount_0f7a4 js_J6_bitCount_0f7a4 jmX5_239 rfl rfl ⟨(Nat.le_of_ble_eq_true rfl), (Nat.le_of_ble_eq_true rfl)⟩ rfl hl.1 rfl (Nat.le_of_ble_eq_true rfl) dX5_owedByOne_24 ⟨Nat.zero_le _, Nat.zero_le _⟩) ?_
        refine lv_iconst (v := 1) hx hb dX5_owedByOne_27 jci_1 ?_
        refine lv_icmp_ne (tgt := 37) hx hb dX5_owedByOne_28 rfl (fun c28 => ?_) (fun c28 => ?_)
        · replace h := jh_f h c28
          refine lv_iinc (v := (v2_1 + 1)) (lv' := [(2, .int (v2_1 + 1)), (0, .ref (jO X 0)), (1, .int v1_1)]) hx hb dX5_owedByOne_37 hl (k := 2) rfl (congrArg _ jci_1) (Nat.le_of_ble_eq_true rfl) rfl (fun ls hl => ?_)
          refine lv_goto (tgt := 4) hx hb dX5_owedByOne_40 rfl ?_
          exact ih4 v1_1 (v2_1 + 1) _ h (lv_sub hl [1, 2, 0] rfl)
        · replace h := jh_t h c28
          refine lv_iload_n hx hb dX5_owedByOne_31 rfl (lv_at hl 1 rfl) ?_
          refine lv_iconst (v := 1) hx hb dX5_owedByOne_32 jci_1 ?_
          refine lv_iload_n hx hb dX5_owedByOne_33 rfl (lv_at hl 2 rfl) ?_
          refine lv_ishl hx hb dX5_owedByOne_34 ?_
          refine lv_ior hx hb dX5_owedByOne_35 ?_
          refine lv_istore_n (lv' := [(1, .int (v1_1 ||| ((1 : Int32) <<< (v2_1 &&& 31)))), (0, .ref (jO X 0)), (2, .int v2_1)]) hx hb dX5_owedByOne_36 rfl hl (Nat.le_of_ble_eq_true rfl) rfl (fun ls hl => ?_)
          refine lv_iinc (v := (v2_1 + 1)) (lv' := [(2, .int (v2_1 + 1)), (1, .int (v1_1 ||| ((1 : Int32) <<< (v2_1 &&& 31)))), (0, .ref (jO X 0))]) hx hb dX5_owedByOne_37 hl (k := 2) rfl (congrArg _ jci_1) (Nat.le_of_ble_eq_true rfl) rfl (fun ls hl => ?_)
          refine lv_goto (tgt := 4) hx hb dX5_owedByOne_40 rfl ?_
          exact ih4 (v1_1 ||| ((1 : Int32) <<< (v2_1 &&& 31))) (v2_1 + 1) _ h (lv_sub hl [2, 1, 0] rfl)
  exact L4 10000 0 0 _ h (lv_sub hl [2, 1, 0] rfl)
def f_X5_spread_j16 (M_1 : jm) (v1_1 : Int32) : Option (Int32 × jm) := (if v1_1 = 0 then (jb (f_X5_debtless M_1) fun r3 => (some (r3, M_1))) else (jb (f_X5_owedByOne M_1) fun r2 => (some (r2, M_1))))
def f_X5_spread (M : jm) (v1 : Int32) : Option (Int32 × jm) := (if v1 = 0 then (f_X5_spread_j16 M v1) else (if v1 = 1 then (f_X5_spread_j16 M v1) else (jb2 (f_X5_refuse M (-2)) fun r4 M_4 => (some (r4, M_4)))))
set_option maxRecDepth 100000 in
theorem m_X5_spread (l : Launch) (X : jX) (A : Nat → Prop) (hs : jst X A) (M : jm) (v1 : Int32) (r : Int32) (N : jm) (h : f_X5_spread M v1 = some (r, N)) : Met l yX5_spread (jws yX5_spread cX5_spread 2 (some .int)) (jrm 6 141) (va_Pc [.ref (jO X 0), .int v1] (jB X M)) (jQm X A (some (.int r)) N) 0 0 A := by
  refine jm_of (by decide) (Nat.le_of_ble_eq_true rfl) ?_
  intro p e s m args below meth c ls S hr hlocks hB hl
  have S : CallFix p m c cX5_spread 2 s args jtb RX5 := S
  obtain ⟨hx, hb, hml, hown, hts⟩ := id S
  obtain ⟨hP, hK⟩ := hB
  have hN := hK.2
  have hS : va_S A s.heap s.heap [] := va_S.rf
  have hl : lv_has ls 2 [(0, .ref (jO X 0)), (1, .int v1)] := hl
  refine lv_iload_n hx hb dX5_spread_0 rfl (lv_at hl 1 rfl) ?_
  have J16 : ∀ (M_1 : jm) (H : Heap) (locs : List Loc) (v1_1 : Int32) (ls : Array Slot), f_X5_spread_j16 M_1 v1_1 = some (r, N) → jrp X M_1 H → va_S A s.heap H locs → lv_has ls 2 [(0, .ref (jO X 0)), (1, .int v1_1)] → W p l e (jrm 6 141) s m args below meth c H locs 0 0 (MQ below (jQm X A (some (.int r)) N) args s 0 0 A) (F0 m 16 ls []) := by
    intro M_1 H locs v1_1 ls h hP hS hl
    refine lv_iload_n hx hb dX5_spread_16 rfl (lv_at hl 1 rfl) ?_
    refine lv_if_ne (tgt := 27) hx hb dX5_spread_17 rfl (fun c17 => ?_) (fun c17 => ?_)
    · replace h := jh_f h c17
      refine lv_aload_n hx hb dX5_spread_27 rfl (lv_at hl 0 rfl) ?_
      obtain ⟨r2, e2, h⟩ := jh_b h
      refine jr_kp (jr_rv (As := []) (rest := []) S hK hP jb_0 rfl (m_X5_owedByOne l X M_1  r2 e2) jw_X5_owedByOne ji_X5_owedByOne jmX5_253 rfl rfl ⟨(Nat.le_of_ble_eq_true rfl), (Nat.le_of_ble_eq_true rfl)⟩ rfl hl.1 rfl (Nat.le_of_ble_eq_true rfl) dX5_spread_28 ⟨Nat.zero_le _, Nat.zero_le _⟩) ?_
      exact je_mi hx hb hr hlocks hK hP hS h dX5_spread_31
    · replace h := jh_t h c17
      refine lv_aload_n hx hb dX5_spread_20 rfl (lv_at hl 0 rfl) ?_
      obtain ⟨r3, e3, h⟩ := jh_b h
      refine jr_kp (jr_rv (As := []) (rest := []) S hK hP jb_0 rfl (m_X5_debtless l X M_1  r3 e3) jw_X5_debtless ji_X5_debtless jmX5_250 rfl rfl ⟨(Nat.le_of_ble_eq_true rfl), (Nat.le_of_ble_eq_true rfl)⟩ rfl hl.1 rfl (Nat.le_of_ble_eq_true rfl) dX5_spread_21 ⟨Nat.zero_le _, Nat.zero_le _⟩) ?_
      refine lv_goto (tgt := 31) hx hb dX5_spread_24 rfl ?_
      exact je_mi hx hb hr hlocks hK hP hS h dX5_spread_31
  refine lv_if_eq (tgt := 16) hx hb dX5_spread_1 rfl (fun c1 => ?_) (fun c1 => ?_)
  · replace h := jh_t h c1
    exact J16 M _ _ v1 _ h hP hS hl
  · replace h := jh_f h c1
    refine lv_iload_n hx hb dX5_spread_4 rfl (lv_at hl 1 rfl) ?_
    refine lv_iconst (v := 1) hx hb dX5_spread_5 jci_1 ?_
    refine lv_icmp_eq (tgt := 16) hx hb dX5_spread_6 rfl (fun c6 => ?_) (fun c6 => ?_)
    · replace h := jh_t h c6
      exact J16 M _ _ v1 _ h hP hS hl
    · replace h := jh_f h c6
      refine lv_aload_n hx hb dX5_spread_9 rfl (lv_at hl 0 rfl) ?_
      refine lv_bipush (v := (-2)) hx hb dX5_spread_10 jcb_m2 ?_
      obtain ⟨r4, M_4, e4, h⟩ := jh_b2 h
      refine jr_km (jr_rv (As := [.int (-2)]) (rest := []) S hK hP jb_0 rfl (m_X5_refuse l X A hs M (-2) r4 M_4 e4) jw_X5_refuse ji_X5_refuse jmX5_65 rfl rfl ⟨(Nat.le_of_ble_eq_true rfl), (Nat.le_of_ble_eq_true rfl)⟩ rfl hl.1 rfl (Nat.le_of_ble_eq_true rfl) dX5_spread_12 ⟨Nat.zero_le _, Nat.zero_le _⟩) hS (fun H locs hP hS => ?_)
      exact je_mi hx hb hr hlocks hK hP hS h dX5_spread_15
def f_X5_fitsNumbers_j31 (M : jm) (K2_2 : Int32 → Option Int32) (v1_1 : Int32) (v2_1 : Int32) (v3_2 : Int32) (t0_2 : Int32) : Option Int32 := (jb (f_X4_ageBehind M 2 v1_1 v2_1 v3_2) fun r3 => (if r3 = t0_2 then (K2_2 (v3_2 + 1)) else (some 0)))
def f_X5_fitsNumbers_l2 (M : jm) (v1_1 : Int32) (v2_1 : Int32) : Nat → Int32 → Option Int32
  | 0, _ => none
  | k_1 + 1, v3_1 => (if (M 0 9 0) ≤ v3_1 then (some 1) else (jgd v3_1 12 (if (M 0 8 (Int32.toNatClampNeg v3_1)) = 99 then (f_X5_fitsNumbers_j31 M (f_X5_fitsNumbers_l2 M v1_1 v2_1 k_1) v1_1 v2_1 v3_1 (-1)) else (jgd v3_1 12 (f_X5_fitsNumbers_j31 M (f_X5_fitsNumbers_l2 M v1_1 v2_1 k_1) v1_1 v2_1 v3_1 (M 0 8 (Int32.toNatClampNeg v3_1)))))))
def f_X5_fitsNumbers (M : jm) (v1 : Int32) (v2 : Int32) : Option Int32 := (f_X5_fitsNumbers_l2 M v1 v2 10000 0)
set_option maxRecDepth 100000 in
theorem m_X5_fitsNumbers (l : Launch) (X : jX) (M : jm) (v1 : Int32) (v2 : Int32) (r : Int32) (h : f_X5_fitsNumbers M v1 v2 = some r) : Met l yX5_fitsNumbers (jws yX5_fitsNumbers cX5_fitsNumbers 5 (some .boolean)) (jrm 4 95) (va_Pc [.ref (jO X 0), .int v1, .int v2] (jB X M)) (jQ (.int r)) 0 0 (fun _ => False) := by
  refine jm_of (by decide) (Nat.le_of_ble_eq_true rfl) ?_
  intro p e s m args below meth c ls S hr hlocks hB hl
  have S : CallFix p m c cX5_fitsNumbers 5 s args jtb RX5 := S
  obtain ⟨hx, hb, hml, hown, hts⟩ := id S
  obtain ⟨hP, hK⟩ := hB
  have hN := hK.2
  have hl : lv_has ls 5 [(0, .ref (jO X 0)), (1, .int v1), (2, .int v2)] := hl
  refine lv_iconst (v := 0) hx hb dX5_fitsNumbers_0 jci_0 ?_
  refine lv_istore_n (lv' := [(3, .int 0), (0, .ref (jO X 0)), (1, .int v1), (2, .int v2)]) hx hb dX5_fitsNumbers_1 rfl hl (Nat.le_of_ble_eq_true rfl) rfl (fun ls hl => ?_)
  have L2 : ∀ (v1_1 : Int32) (v2_1 : Int32) (k_1 : Nat) (v3_1 : Int32) (ls : Array Slot), f_X5_fitsNumbers_l2 M v1_1 v2_1 k_1 v3_1 = some r → lv_has ls 5 [(0, .ref (jO X 0)), (1, .int v1_1), (2, .int v2_1), (3, .int v3_1)] → W p l e (jrm 4 95) s m args below meth c s.heap [] 0 0 (MQ below (jQ (.int r)) args s 0 0 (fun _ => False)) (F0 m 2 ls []) := by
    intro v1_1 v2_1 k_1
    induction k_1 with
    | zero => intro v3_1 ls h; exact jh_0 h
    | succ k_1 ih2 =>
      intro v3_1 ls h hl
      refine lv_iload_n hx hb dX5_fitsNumbers_2 rfl (lv_at hl 3 rfl) ?_
      refine lv_aload_n hx hb dX5_fitsNumbers_3 rfl (lv_at hl 0 rfl) ?_
      refine jr_get (k := 9) hx hb hts hown hK hP jb_0 (Nat.le_of_ble_eq_true rfl) jlX5_58 rfl dX5_fitsNumbers_4 ?_
      refine lv_icmp_ge (tgt := 56) hx hb dX5_fitsNumbers_7 rfl (fun c7 => ?_) (fun c7 => ?_)
      · replace h := jh_t h c7
        refine lv_iconst (v := 1) hx hb dX5_fitsNumbers_56 jci_1 ?_
        exact je_z hx hb hr hlocks (Or.inr rfl) (Option.some.inj h) dX5_fitsNumbers_57
      · replace h := jh_f h c7
        refine lv_aload_n hx hb dX5_fitsNumbers_10 rfl (lv_at hl 0 rfl) ?_
        refine jr_get (k := 8) hx hb hts hown hK hP jb_0 (Nat.le_of_ble_eq_true rfl) jlX5_54 rfl dX5_fitsNumbers_11 ?_
        refine lv_iload_n hx hb dX5_fitsNumbers_14 rfl (lv_at hl 3 rfl) ?_
        obtain ⟨g15, h⟩ := jh_gd h
        refine jr_ald (n := 12) hx hb hK hP jb_0 rfl g15 dX5_fitsNumbers_15 ?_
        refine lv_bipush (v := 99) hx hb dX5_fitsNumbers_16 jcb_99 ?_
        have J31 : ∀ (v3_2 : Int32) (t0_2 : Int32) (ls : Array Slot), f_X5_fitsNumbers_j31 M (f_X5_fitsNumbers_l2 M v1_1 v2_1 k_1) v1_1 v2_1 v3_2 t0_2 = some r → lv_has ls 5 [(0, .ref (jO X 0)), (1, .int v1_1), (2, .int v2_1), (3, .int v3_2)] → W p l e (jrm 4 95) s m args below meth c s.heap [] 0 0 (MQ below (jQ (.int r)) args s 0 0 (fun _ => False)) (F0 m 31 ls [.int t0_2]) := by
          intro v3_2 t0_2 ls h hl
          refine lv_istore (lv' := [(4, .int t0_2), (0, .ref (jO X 0)), (1, .int v1_1), (2, .int v2_1), (3, .int v3_2)]) hx hb dX5_fitsNumbers_31 hl (Nat.le_of_ble_eq_true rfl) rfl (fun ls hl => ?_)
          refine lv_aload_n hx hb dX5_fitsNumbers_33 rfl (lv_at hl 1 rfl) ?_
          refine jr_get (k := 1) hx hb hts hown hK hP jb_0 (Nat.le_of_ble_eq_true rfl) jlX5_16 rfl dX5_fitsNumbers_34 ?_
          refine lv_iload_n hx hb dX5_fitsNumbers_37 rfl (lv_at hl 2 rfl) ?_
          refine lv_iload_n hx hb dX5_fitsNumbers_38 rfl (lv_at hl 3 rfl) ?_
          refine lv_iload_n hx hb dX5_fitsNumbers_39 rfl (lv_at hl 4 rfl) ?_
          obtain ⟨r3, e3, h⟩ := jh_b h
          refine jr_kp (jr_rv (As := [.int v1_1, .int v2_1, .int v3_2]) (rest := []) S hK hP jb_2 rfl (m_X4_ageBehind l X M jb_2 v1_1 v2_1 v3_2 r3 e3) jw_X4_ageBehind ji_X4_ageBehind jmX5_144 rfl rfl ⟨(Nat.le_of_ble_eq_true rfl), (Nat.le_of_ble_eq_true rfl)⟩ rfl hl.1 rfl (Nat.le_of_ble_eq_true rfl) dX5_fitsNumbers_40 ⟨Nat.zero_le _, Nat.zero_le _⟩) ?_
          refine lv_iload hx hb dX5_fitsNumbers_43 (lv_at hl 0 rfl) ?_
          refine lv_icmp_eq (tgt := 50) hx hb dX5_fitsNumbers_45 rfl (fun c45 => ?_) (fun c45 => ?_)
          · replace h := jh_t h c45
            refine lv_iinc (v := (v3_2 + 1)) (lv' := [(3, .int (v3_2 + 1)), (4, .int t0_2), (0, .ref (jO X 0)), (1, .int v1_1), (2, .int v2_1)]) hx hb dX5_fitsNumbers_50 hl (k := 4) rfl (congrArg _ jci_1) (Nat.le_of_ble_eq_true rfl) rfl (fun ls hl => ?_)
            refine lv_goto (tgt := 2) hx hb dX5_fitsNumbers_53 rfl ?_
            exact ih2 (v3_2 + 1) _ h (lv_sub hl [2, 3, 4, 0] rfl)
          · replace h := jh_f h c45
            refine lv_iconst (v := 0) hx hb dX5_fitsNumbers_48 jci_0 ?_
            exact je_z hx hb hr hlocks (Or.inl rfl) (Option.some.inj h) dX5_fitsNumbers_49
        refine lv_icmp_ne (tgt := 25) hx hb dX5_fitsNumbers_18 rfl (fun c18 => ?_) (fun c18 => ?_)
        · replace h := jh_f h c18
          refine lv_aload_n hx hb dX5_fitsNumbers_25 rfl (lv_at hl 0 rfl) ?_
          refine jr_get (k := 8) hx hb hts hown hK hP jb_0 (Nat.le_of_ble_eq_true rfl) jlX5_54 rfl dX5_fitsNumbers_26 ?_
          refine lv_iload_n hx hb dX5_fitsNumbers_29 rfl (lv_at hl 3 rfl) ?_
          obtain ⟨g30, h⟩ := jh_gd h
          refine jr_ald (n := 12) hx hb hK hP jb_0 rfl g30 dX5_fitsNumbers_30 ?_
          exact J31 v3_1 (M 0 8 (Int32.toNatClampNeg v3_1)) _ h hl
        · replace h := jh_t h c18
          refine lv_iconst (v := (-1)) hx hb dX5_fitsNumbers_21 jci_m1 ?_
          refine lv_goto (tgt := 31) hx hb dX5_fitsNumbers_22 rfl ?_
          exact J31 v3_1 (-1) _ h hl
  exact L2 v1 v2 10000 0 _ h (lv_sub hl [1, 2, 3, 0] rfl)
def f_X5_fittingKinds_l16 (v1_2 : Int32) (v2_2 : Int32) : Nat → jm → Int32 → Int32 → Option (Int32 × jm)
  | 0, _, _, _ => none
  | k_2 + 1, M_2, v3_2, v4_2 => (if 6 ≤ v4_2 then (some (v3_2, M_2)) else (jgd v2_2 8 (jb (f_X5_fitsNumbers (ju M_2 2 1 (Int32.toNatClampNeg v2_2) v4_2) v1_2 v2_2) fun r3 => (if r3 = 0 then ((f_X5_fittingKinds_l16 v1_2 v2_2 k_2) (ju M_2 2 1 (Int32.toNatClampNeg v2_2) v4_2) v3_2 (v4_2 + 1)) else ((f_X5_fittingKinds_l16 v1_2 v2_2 k_2) (ju M_2 2 1 (Int32.toNatClampNeg v2_2) v4_2) (v3_2 ||| ((1 : Int32) <<< (v4_2 &&& 31))) (v4_2 + 1))))))
def f_X5_fittingKinds (M : jm) (v1 : Int32) (v2 : Int32) : Option (Int32 × jm) := (jb (f_X4_become M 2 1) fun M_1 => (f_X5_fittingKinds_l16 v1 v2 10000 M_1 0 0))
set_option maxRecDepth 100000 in
theorem m_X5_fittingKinds (l : Launch) (X : jX) (A : Nat → Prop) (hs : jst X A) (M : jm) (v1 : Int32) (v2 : Int32) (r : Int32) (N : jm) (h : f_X5_fittingKinds M v1 v2 = some (r, N)) : Met l yX5_fittingKinds (jws yX5_fittingKinds cX5_fittingKinds 5 (some .int)) (jrm 5 119) (va_Pc [.ref (jO X 0), .int v1, .int v2] (jB X M)) (jQm X A (some (.int r)) N) 0 0 A := by
  refine jm_of (by decide) (Nat.le_of_ble_eq_true rfl) ?_
  intro p e s m args below meth c ls S hr hlocks hB hl
  have S : CallFix p m c cX5_fittingKinds 5 s args jtb RX5 := S
  obtain ⟨hx, hb, hml, hown, hts⟩ := id S
  obtain ⟨hP, hK⟩ := hB
  have hN := hK.2
  have hS : va_S A s.heap s.heap [] := va_S.rf
  have hl : lv_has ls 5 [(0, .ref (jO X 0)), (1, .int v1), (2, .int v2)] := hl
  refine lv_iconst (v := 0) hx hb dX5_fittingKinds_0 jci_0 ?_
  refine lv_istore_n (lv' := [(3, .int 0), (0, .ref (jO X 0)), (1, .int v1), (2, .int v2)]) hx hb dX5_fittingKinds_1 rfl hl (Nat.le_of_ble_eq_true rfl) rfl (fun ls hl => ?_)
  refine lv_aload_n hx hb dX5_fittingKinds_2 rfl (lv_at hl 1 rfl) ?_
  refine jr_get (k := 1) hx hb hts hown hK hP jb_0 (Nat.le_of_ble_eq_true rfl) jlX5_16 rfl dX5_fittingKinds_3 ?_
  refine lv_aload_n hx hb dX5_fittingKinds_6 rfl (lv_at hl 1 rfl) ?_
  refine jr_get (k := 0) hx hb hts hown hK hP jb_0 (Nat.le_of_ble_eq_true rfl) jlX5_12 rfl dX5_fittingKinds_7 ?_
  obtain ⟨M_1, e1, h⟩ := jh_b h
  refine jr_kv (jr_rv (As := [.ref (jO X 1)]) (rest := []) S hK hP jb_2 rfl (m_X4_become l X A hs M jb_2 jb_1 M_1 e1) jw_X4_become ji_X4_become jmX5_76 rfl rfl ⟨(Nat.le_of_ble_eq_true rfl), (Nat.le_of_ble_eq_true rfl)⟩ rfl hl.1 rfl (Nat.le_of_ble_eq_true rfl) dX5_fittingKinds_10 ⟨Nat.zero_le _, Nat.zero_le _⟩) hS (fun H locs hP hS => ?_)
  refine lv_iconst (v := 0) hx hb dX5_fittingKinds_13 jci_0 ?_
  refine lv_istore (lv' := [(4, .int 0), (3, .int 0), (0, .ref (jO X 0)), (1, .int v1), (2, .int v2)]) hx hb dX5_fittingKinds_14 hl (Nat.le_of_ble_eq_true rfl) rfl (fun ls hl => ?_)
  have L16 : ∀ (v1_2 : Int32) (v2_2 : Int32) (k_2 : Nat) (M_2 : jm) (H : Heap) (locs : List Loc) (v3_2 : Int32) (v4_2 : Int32) (ls : Array Slot), f_X5_fittingKinds_l16 v1_2 v2_2 k_2 M_2 v3_2 v4_2 = some (r, N) → jrp X M_2 H → va_S A s.heap H locs → lv_has ls 5 [(0, .ref (jO X 0)), (1, .int v1_2), (2, .int v2_2), (3, .int v3_2), (4, .int v4_2)] → W p l e (jrm 5 119) s m args below meth c H locs 0 0 (MQ below (jQm X A (some (.int r)) N) args s 0 0 A) (F0 m 16 ls []) := by
    intro v1_2 v2_2 k_2
    induction k_2 with
    | zero => intro M_2 H locs v3_2 v4_2 ls h; exact jh_0 h
    | succ k_2 ih16 =>
      intro M_2 H locs v3_2 v4_2 ls h hP hS hl
      refine lv_iload hx hb dX5_fittingKinds_16 (lv_at hl 4 rfl) ?_
      refine lv_bipush (v := 6) hx hb dX5_fittingKinds_18 jcb_6 ?_
      refine lv_icmp_ge (tgt := 56) hx hb dX5_fittingKinds_20 rfl (fun c20 => ?_) (fun c20 => ?_)
      · replace h := jh_t h c20
        refine lv_iload_n hx hb dX5_fittingKinds_56 rfl (lv_at hl 3 rfl) ?_
        exact je_mi hx hb hr hlocks hK hP hS h dX5_fittingKinds_57
      · replace h := jh_f h c20
        refine lv_aload_n hx hb dX5_fittingKinds_23 rfl (lv_at hl 0 rfl) ?_
        refine jr_get (k := 1) hx hb hts hown hK hP jb_0 (Nat.le_of_ble_eq_true rfl) jlX5_16 rfl dX5_fittingKinds_24 ?_
        refine jr_get (k := 1) hx hb hts hown hK hP jb_2 (Nat.le_of_ble_eq_true rfl) jlX5_94 rfl dX5_fittingKinds_27 ?_
        refine lv_iload_n hx hb dX5_fittingKinds_30 rfl (lv_at hl 2 rfl) ?_
        refine lv_iload hx hb dX5_fittingKinds_31 (lv_at hl 4 rfl) ?_
        obtain ⟨g33, h⟩ := jh_gd h
        refine jr_ast (n := 8) hx hb hK hP hs hS jb_2 rfl g33 dX5_fittingKinds_33 (fun H locs hP hS => ?_)
        refine lv_aload_n hx hb dX5_fittingKinds_34 rfl (lv_at hl 0 rfl) ?_
        refine lv_iload_n hx hb dX5_fittingKinds_35 rfl (lv_at hl 1 rfl) ?_
        refine lv_iload_n hx hb dX5_fittingKinds_36 rfl (lv_at hl 2 rfl) ?_
        obtain ⟨r3, e3, h⟩ := jh_b h
        refine jr_kp (jr_rv (As := [.int v1_2, .int v2_2]) (rest := []) S hK hP jb_0 rfl (m_X5_fitsNumbers l X (ju M_2 2 1 (Int32.toNatClampNeg v2_2) v4_2) v1_2 v2_2 r3 e3) jw_X5_fitsNumbers ji_X5_fitsNumbers jmX5_302 rfl rfl ⟨(Nat.le_of_ble_eq_true rfl), (Nat.le_of_ble_eq_true rfl)⟩ rfl hl.1 rfl (Nat.le_of_ble_eq_true rfl) dX5_fittingKinds_37 ⟨Nat.zero_le _, Nat.zero_le _⟩) ?_
        refine lv_if_eq (tgt := 50) hx hb dX5_fittingKinds_40 rfl (fun c40 => ?_) (fun c40 => ?_)
        · replace h := jh_t h c40
          refine lv_iinc (v := (v4_2 + 1)) (lv' := [(4, .int (v4_2 + 1)), (0, .ref (jO X 0)), (1, .int v1_2), (2, .int v2_2), (3, .int v3_2)]) hx hb dX5_fittingKinds_50 hl (k := 4) rfl (congrArg _ jci_1) (Nat.le_of_ble_eq_true rfl) rfl (fun ls hl => ?_)
          refine lv_goto (tgt := 16) hx hb dX5_fittingKinds_53 rfl ?_
          exact ih16 (ju M_2 2 1 (Int32.toNatClampNeg v2_2) v4_2) _ _ v3_2 (v4_2 + 1) _ h hP hS (lv_sub hl [1, 2, 3, 4, 0] rfl)
        · replace h := jh_f h c40
          refine lv_iload_n hx hb dX5_fittingKinds_43 rfl (lv_at hl 3 rfl) ?_
          refine lv_iconst (v := 1) hx hb dX5_fittingKinds_44 jci_1 ?_
          refine lv_iload hx hb dX5_fittingKinds_45 (lv_at hl 4 rfl) ?_
          refine lv_ishl hx hb dX5_fittingKinds_47 ?_
          refine lv_ior hx hb dX5_fittingKinds_48 ?_
          refine lv_istore_n (lv' := [(3, .int (v3_2 ||| ((1 : Int32) <<< (v4_2 &&& 31)))), (0, .ref (jO X 0)), (1, .int v1_2), (2, .int v2_2), (4, .int v4_2)]) hx hb dX5_fittingKinds_49 rfl hl (Nat.le_of_ble_eq_true rfl) rfl (fun ls hl => ?_)
          refine lv_iinc (v := (v4_2 + 1)) (lv' := [(4, .int (v4_2 + 1)), (3, .int (v3_2 ||| ((1 : Int32) <<< (v4_2 &&& 31)))), (0, .ref (jO X 0)), (1, .int v1_2), (2, .int v2_2)]) hx hb dX5_fittingKinds_50 hl (k := 4) rfl (congrArg _ jci_1) (Nat.le_of_ble_eq_true rfl) rfl (fun ls hl => ?_)
          refine lv_goto (tgt := 16) hx hb dX5_fittingKinds_53 rfl ?_
          exact ih16 (ju M_2 2 1 (Int32.toNatClampNeg v2_2) v4_2) _ _ (v3_2 ||| ((1 : Int32) <<< (v4_2 &&& 31))) (v4_2 + 1) _ h hP hS (lv_sub hl [2, 3, 4, 1, 0] rfl)
  exact L16 v1 v2 10000 M_1 _ _ 0 0 _ h hP hS (lv_sub hl [2, 3, 4, 1, 0] rfl)
def f_X5_fittingFigures_l16 (v1_2 : Int32) (v2_2 : Int32) : Nat → jm → Int32 → Int32 → Option (Int32 × jm)
  | 0, _, _, _ => none
  | k_2 + 1, M_2, v3_2, v4_2 => (if 10 ≤ v4_2 then (some (v3_2, M_2)) else (jgd v2_2 8 (jb (f_X5_fitsNumbers (ju M_2 2 2 (Int32.toNatClampNeg v2_2) v4_2) v1_2 v2_2) fun r3 => (if r3 = 0 then ((f_X5_fittingFigures_l16 v1_2 v2_2 k_2) (ju M_2 2 2 (Int32.toNatClampNeg v2_2) v4_2) v3_2 (v4_2 + 1)) else ((f_X5_fittingFigures_l16 v1_2 v2_2 k_2) (ju M_2 2 2 (Int32.toNatClampNeg v2_2) v4_2) (v3_2 ||| ((1 : Int32) <<< (v4_2 &&& 31))) (v4_2 + 1))))))
def f_X5_fittingFigures (M : jm) (v1 : Int32) (v2 : Int32) : Option (Int32 × jm) := (jb (f_X4_become M 2 1) fun M_1 => (f_X5_fittingFigures_l16 v1 v2 10000 M_1 0 0))
set_option maxRecDepth 100000 in
theorem m_X5_fittingFigures (l : Launch) (X : jX) (A : Nat → Prop) (hs : jst X A) (M : jm) (v1 : Int32) (v2 : Int32) (r : Int32) (N : jm) (h : f_X5_fittingFigures M v1 v2 = some (r, N)) : Met l yX5_fittingFigures (jws yX5_fittingFigures cX5_fittingFigures 5 (some .int)) (jrm 5 119) (va_Pc [.ref (jO X 0), .int v1, .int v2] (jB X M)) (jQm X A (some (.int r)) N) 0 0 A := by
  refine jm_of (by decide) (Nat.le_of_ble_eq_true rfl) ?_
  intro p e s m args below meth c ls S hr hlocks hB hl
  have S : CallFix p m c cX5_fittingFigures 5 s args jtb RX5 := S
  obtain ⟨hx, hb, hml, hown, hts⟩ := id S
  obtain ⟨hP, hK⟩ := hB
  have hN := hK.2
  have hS : va_S A s.heap s.heap [] := va_S.rf
  have hl : lv_has ls 5 [(0, .ref (jO X 0)), (1, .int v1), (2, .int v2)] := hl
  refine lv_iconst (v := 0) hx hb dX5_fittingFigures_0 jci_0 ?_
  refine lv_istore_n (lv' := [(3, .int 0), (0, .ref (jO X 0)), (1, .int v1), (2, .int v2)]) hx hb dX5_fittingFigures_1 rfl hl (Nat.le_of_ble_eq_true rfl) rfl (fun ls hl => ?_)
  refine lv_aload_n hx hb dX5_fittingFigures_2 rfl (lv_at hl 1 rfl) ?_
  refine jr_get (k := 1) hx hb hts hown hK hP jb_0 (Nat.le_of_ble_eq_true rfl) jlX5_16 rfl dX5_fittingFigures_3 ?_
  refine lv_aload_n hx hb dX5_fittingFigures_6 rfl (lv_at hl 1 rfl) ?_
  refine jr_get (k := 0) hx hb hts hown hK hP jb_0 (Nat.le_of_ble_eq_true rfl) jlX5_12 rfl dX5_fittingFigures_7 ?_
  obtain ⟨M_1, e1, h⟩ := jh_b h
  refine jr_kv (jr_rv (As := [.ref (jO X 1)]) (rest := []) S hK hP jb_2 rfl (m_X4_become l X A hs M jb_2 jb_1 M_1 e1) jw_X4_become ji_X4_become jmX5_76 rfl rfl ⟨(Nat.le_of_ble_eq_true rfl), (Nat.le_of_ble_eq_true rfl)⟩ rfl hl.1 rfl (Nat.le_of_ble_eq_true rfl) dX5_fittingFigures_10 ⟨Nat.zero_le _, Nat.zero_le _⟩) hS (fun H locs hP hS => ?_)
  refine lv_iconst (v := 0) hx hb dX5_fittingFigures_13 jci_0 ?_
  refine lv_istore (lv' := [(4, .int 0), (3, .int 0), (0, .ref (jO X 0)), (1, .int v1), (2, .int v2)]) hx hb dX5_fittingFigures_14 hl (Nat.le_of_ble_eq_true rfl) rfl (fun ls hl => ?_)
  have L16 : ∀ (v1_2 : Int32) (v2_2 : Int32) (k_2 : Nat) (M_2 : jm) (H : Heap) (locs : List Loc) (v3_2 : Int32) (v4_2 : Int32) (ls : Array Slot), f_X5_fittingFigures_l16 v1_2 v2_2 k_2 M_2 v3_2 v4_2 = some (r, N) → jrp X M_2 H → va_S A s.heap H locs → lv_has ls 5 [(0, .ref (jO X 0)), (1, .int v1_2), (2, .int v2_2), (3, .int v3_2), (4, .int v4_2)] → W p l e (jrm 5 119) s m args below meth c H locs 0 0 (MQ below (jQm X A (some (.int r)) N) args s 0 0 A) (F0 m 16 ls []) := by
    intro v1_2 v2_2 k_2
    induction k_2 with
    | zero => intro M_2 H locs v3_2 v4_2 ls h; exact jh_0 h
    | succ k_2 ih16 =>
      intro M_2 H locs v3_2 v4_2 ls h hP hS hl
      refine lv_iload hx hb dX5_fittingFigures_16 (lv_at hl 4 rfl) ?_
      refine lv_bipush (v := 10) hx hb dX5_fittingFigures_18 jcb_10 ?_
      refine lv_icmp_ge (tgt := 56) hx hb dX5_fittingFigures_20 rfl (fun c20 => ?_) (fun c20 => ?_)
      · replace h := jh_t h c20
        refine lv_iload_n hx hb dX5_fittingFigures_56 rfl (lv_at hl 3 rfl) ?_
        exact je_mi hx hb hr hlocks hK hP hS h dX5_fittingFigures_57
      · replace h := jh_f h c20
        refine lv_aload_n hx hb dX5_fittingFigures_23 rfl (lv_at hl 0 rfl) ?_
        refine jr_get (k := 1) hx hb hts hown hK hP jb_0 (Nat.le_of_ble_eq_true rfl) jlX5_16 rfl dX5_fittingFigures_24 ?_
        refine jr_get (k := 2) hx hb hts hown hK hP jb_2 (Nat.le_of_ble_eq_true rfl) jlX5_97 rfl dX5_fittingFigures_27 ?_
        refine lv_iload_n hx hb dX5_fittingFigures_30 rfl (lv_at hl 2 rfl) ?_
        refine lv_iload hx hb dX5_fittingFigures_31 (lv_at hl 4 rfl) ?_
        obtain ⟨g33, h⟩ := jh_gd h
        refine jr_ast (n := 8) hx hb hK hP hs hS jb_2 rfl g33 dX5_fittingFigures_33 (fun H locs hP hS => ?_)
        refine lv_aload_n hx hb dX5_fittingFigures_34 rfl (lv_at hl 0 rfl) ?_
        refine lv_iload_n hx hb dX5_fittingFigures_35 rfl (lv_at hl 1 rfl) ?_
        refine lv_iload_n hx hb dX5_fittingFigures_36 rfl (lv_at hl 2 rfl) ?_
        obtain ⟨r3, e3, h⟩ := jh_b h
        refine jr_kp (jr_rv (As := [.int v1_2, .int v2_2]) (rest := []) S hK hP jb_0 rfl (m_X5_fitsNumbers l X (ju M_2 2 2 (Int32.toNatClampNeg v2_2) v4_2) v1_2 v2_2 r3 e3) jw_X5_fitsNumbers ji_X5_fitsNumbers jmX5_302 rfl rfl ⟨(Nat.le_of_ble_eq_true rfl), (Nat.le_of_ble_eq_true rfl)⟩ rfl hl.1 rfl (Nat.le_of_ble_eq_true rfl) dX5_fittingFigures_37 ⟨Nat.zero_le _, Nat.zero_le _⟩) ?_
        refine lv_if_eq (tgt := 50) hx hb dX5_fittingFigures_40 rfl (fun c40 => ?_) (fun c40 => ?_)
        · replace h := jh_t h c40
          refine lv_iinc (v := (v4_2 + 1)) (lv' := [(4, .int (v4_2 + 1)), (0, .ref (jO X 0)), (1, .int v1_2), (2, .int v2_2), (3, .int v3_2)]) hx hb dX5_fittingFigures_50 hl (k := 4) rfl (congrArg _ jci_1) (Nat.le_of_ble_eq_true rfl) rfl (fun ls hl => ?_)
          refine lv_goto (tgt := 16) hx hb dX5_fittingFigures_53 rfl ?_
          exact ih16 (ju M_2 2 2 (Int32.toNatClampNeg v2_2) v4_2) _ _ v3_2 (v4_2 + 1) _ h hP hS (lv_sub hl [1, 2, 3, 4, 0] rfl)
        · replace h := jh_f h c40
          refine lv_iload_n hx hb dX5_fittingFigures_43 rfl (lv_at hl 3 rfl) ?_
          refine lv_iconst (v := 1) hx hb dX5_fittingFigures_44 jci_1 ?_
          refine lv_iload hx hb dX5_fittingFigures_45 (lv_at hl 4 rfl) ?_
          refine lv_ishl hx hb dX5_fittingFigures_47 ?_
          refine lv_ior hx hb dX5_fittingFigures_48 ?_
          refine lv_istore_n (lv' := [(3, .int (v3_2 ||| ((1 : Int32) <<< (v4_2 &&& 31)))), (0, .ref (jO X 0)), (1, .int v1_2), (2, .int v2_2), (4, .int v4_2)]) hx hb dX5_fittingFigures_49 rfl hl (Nat.le_of_ble_eq_true rfl) rfl (fun ls hl => ?_)
          refine lv_iinc (v := (v4_2 + 1)) (lv' := [(4, .int (v4_2 + 1)), (3, .int (v3_2 ||| ((1 : Int32) <<< (v4_2 &&& 31)))), (0, .ref (jO X 0)), (1, .int v1_2), (2, .int v2_2)]) hx hb dX5_fittingFigures_50 hl (k := 4) rfl (congrArg _ jci_1) (Nat.le_of_ble_eq_true rfl) rfl (fun ls hl => ?_)
          refine lv_goto (tgt := 16) hx hb dX5_fittingFigures_53 rfl ?_
          exact ih16 (ju M_2 2 2 (Int32.toNatClampNeg v2_2) v4_2) _ _ (v3_2 ||| ((1 : Int32) <<< (v4_2 &&& 31))) (v4_2 + 1) _ h hP hS (lv_sub hl [2, 3, 4, 1, 0] rfl)
  exact L16 v1 v2 10000 M_1 _ _ 0 0 _ h hP hS (lv_sub hl [2, 3, 4, 1, 0] rfl)
def f_X5_whatKind_j44 (M_4 : jm) (v1_4 : Int32) (v2_4 : Int32) (v3_4 : Int32) : Option (Int32 × jm) := (if v3_4 = 0 then (jb2 (f_X5_fittingKinds M_4 v1_4 v2_4) fun r6 M_6 => (some (r6, M_6))) else (jb2 (f_X5_fittingFigures M_4 v1_4 v2_4) fun r5 M_5 => (some (r5, M_5))))
def f_X5_whatKind (M : jm) (v1 : Int32) (v2 : Int32) (v3 : Int32) : Option (Int32 × jm) := (if (f_X4_hasWalker M 1 v1) = 0 then (jb2 (f_X5_refuse M (-1)) fun r2 M_2 => (some (r2, M_2))) else (if (f_X4_hasHouse M 1 v2) = 0 then (jb2 (f_X5_refuse M (-1)) fun r8 M_8 => (some (r8, M_8))) else (if v3 = 0 then (f_X5_whatKind_j44 M v1 v2 v3) else (if v3 = 1 then (f_X5_whatKind_j44 M v1 v2 v3) else (jb2 (f_X5_refuse M (-2)) fun r7 M_7 => (some (r7, M_7)))))))
set_option maxRecDepth 100000 in
theorem m_X5_whatKind (l : Launch) (X : jX) (A : Nat → Prop) (hs : jst X A) (M : jm) (v1 : Int32) (v2 : Int32) (v3 : Int32) (r : Int32) (N : jm) (h : f_X5_whatKind M v1 v2 v3 = some (r, N)) : Met l yX5_whatKind (jws yX5_whatKind cX5_whatKind 4 (some .int)) (jrm 6 143) (va_Pc [.ref (jO X 0), .int v1, .int v2, .int v3] (jB X M)) (jQm X A (some (.int r)) N) 0 0 A := by
  refine jm_of (by decide) (Nat.le_of_ble_eq_true rfl) ?_
  intro p e s m args below meth c ls S hr hlocks hB hl
  have S : CallFix p m c cX5_whatKind 4 s args jtb RX5 := S
  obtain ⟨hx, hb, hml, hown, hts⟩ := id S
  obtain ⟨hP, hK⟩ := hB
  have hN := hK.2
  have hS : va_S A s.heap s.heap [] := va_S.rf
  have hl : lv_has ls 4 [(0, .ref (jO X 0)), (1, .int v1), (2, .int v2), (3, .int v3)] := hl
  refine lv_aload_n hx hb dX5_whatKind_0 rfl (lv_at hl 0 rfl) ?_
  refine jr_get (k := 0) hx hb hts hown hK hP jb_0 (Nat.le_of_ble_eq_true rfl) jlX5_12 rfl dX5_whatKind_1 ?_
  refine lv_iload_n hx hb dX5_whatKind_4 rfl (lv_at hl 1 rfl) ?_
  refine jr_kp (jr_rv (As := [.int v1]) (rest := []) S hK hP jb_1 rfl (m_X4_hasWalker l X M jb_1 v1 _ rfl) jw_X4_hasWalker ji_X4_hasWalker jmX5_119 rfl rfl ⟨(Nat.le_of_ble_eq_true rfl), (Nat.le_of_ble_eq_true rfl)⟩ rfl hl.1 rfl (Nat.le_of_ble_eq_true rfl) dX5_whatKind_5 ⟨Nat.zero_le _, Nat.zero_le _⟩) ?_
  refine lv_if_eq (tgt := 22) hx hb dX5_whatKind_8 rfl (fun c8 => ?_) (fun c8 => ?_)
  · replace h := jh_t h c8
    refine lv_aload_n hx hb dX5_whatKind_22 rfl (lv_at hl 0 rfl) ?_
    refine lv_iconst (v := (-1)) hx hb dX5_whatKind_23 jci_m1 ?_
    obtain ⟨r2, M_2, e2, h⟩ := jh_b2 h
    refine jr_km (jr_rv (As := [.int (-1)]) (rest := []) S hK hP jb_0 rfl (m_X5_refuse l X A hs M (-1) r2 M_2 e2) jw_X5_refuse ji_X5_refuse jmX5_65 rfl rfl ⟨(Nat.le_of_ble_eq_true rfl), (Nat.le_of_ble_eq_true rfl)⟩ rfl hl.1 rfl (Nat.le_of_ble_eq_true rfl) dX5_whatKind_24 ⟨Nat.zero_le _, Nat.zero_le _⟩) hS (fun H locs hP hS => ?_)
    exact je_mi hx hb hr hlocks hK hP hS h dX5_whatKind_27
  · replace h := jh_f h c8
    refine lv_aload_n hx hb dX5_whatKind_11 rfl (lv_at hl 0 rfl) ?_
    refine jr_get (k := 0) hx hb hts hown hK hP jb_0 (Nat.le_of_ble_eq_true rfl) jlX5_12 rfl dX5_whatKind_12 ?_
    refine lv_iload_n hx hb dX5_whatKind_15 rfl (lv_at hl 2 rfl) ?_
    refine jr_kp (jr_rv (As := [.int v2]) (rest := []) S hK hP jb_1 rfl (m_X4_hasHouse l X M jb_1 v2 _ rfl) jw_X4_hasHouse ji_X4_hasHouse jmX5_90 rfl rfl ⟨(Nat.le_of_ble_eq_true rfl), (Nat.le_of_ble_eq_true rfl)⟩ rfl hl.1 rfl (Nat.le_of_ble_eq_true rfl) dX5_whatKind_16 ⟨Nat.zero_le _, Nat.zero_le _⟩) ?_
    refine lv_if_ne (tgt := 28) hx hb dX5_whatKind_19 rfl (fun c19 => ?_) (fun c19 => ?_)
    · replace h := jh_f h c19
      refine lv_iload_n hx hb dX5_whatKind_28 rfl (lv_at hl 3 rfl) ?_
      have J44 : ∀ (M_4 : jm) (H : Heap) (locs : List Loc) (v1_4 : Int32) (v2_4 : Int32) (v3_4 : Int32) (ls : Array Slot), f_X5_whatKind_j44 M_4 v1_4 v2_4 v3_4 = some (r, N) → jrp X M_4 H → va_S A s.heap H locs → lv_has ls 4 [(0, .ref (jO X 0)), (1, .int v1_4), (2, .int v2_4), (3, .int v3_4)] → W p l e (jrm 6 143) s m args below meth c H locs 0 0 (MQ below (jQm X A (some (.int r)) N) args s 0 0 A) (F0 m 44 ls []) := by
        intro M_4 H locs v1_4 v2_4 v3_4 ls h hP hS hl
        refine lv_iload_n hx hb dX5_whatKind_44 rfl (lv_at hl 3 rfl) ?_
        refine lv_if_ne (tgt := 57) hx hb dX5_whatKind_45 rfl (fun c45 => ?_) (fun c45 => ?_)
        · replace h := jh_f h c45
          refine lv_aload_n hx hb dX5_whatKind_57 rfl (lv_at hl 0 rfl) ?_
          refine lv_iload_n hx hb dX5_whatKind_58 rfl (lv_at hl 1 rfl) ?_
          refine lv_iload_n hx hb dX5_whatKind_59 rfl (lv_at hl 2 rfl) ?_
          obtain ⟨r5, M_5, e5, h⟩ := jh_b2 h
          refine jr_km (jr_rv (As := [.int v1_4, .int v2_4]) (rest := []) S hK hP jb_0 rfl (m_X5_fittingFigures l X A hs M_4 v1_4 v2_4 r5 M_5 e5) jw_X5_fittingFigures ji_X5_fittingFigures jmX5_259 rfl rfl ⟨(Nat.le_of_ble_eq_true rfl), (Nat.le_of_ble_eq_true rfl)⟩ rfl hl.1 rfl (Nat.le_of_ble_eq_true rfl) dX5_whatKind_60 ⟨Nat.zero_le _, Nat.zero_le _⟩) hS (fun H locs hP hS => ?_)
          exact je_mi hx hb hr hlocks hK hP hS h dX5_whatKind_63
        · replace h := jh_t h c45
          refine lv_aload_n hx hb dX5_whatKind_48 rfl (lv_at hl 0 rfl) ?_
          refine lv_iload_n hx hb dX5_whatKind_49 rfl (lv_at hl 1 rfl) ?_
          refine lv_iload_n hx hb dX5_whatKind_50 rfl (lv_at hl 2 rfl) ?_
          obtain ⟨r6, M_6, e6, h⟩ := jh_b2 h
          refine jr_km (jr_rv (As := [.int v1_4, .int v2_4]) (rest := []) S hK hP jb_0 rfl (m_X5_fittingKinds l X A hs M_4 v1_4 v2_4 r6 M_6 e6) jw_X5_fittingKinds ji_X5_fittingKinds jmX5_256 rfl rfl ⟨(Nat.le_of_ble_eq_true rfl), (Nat.le_of_ble_eq_true rfl)⟩ rfl hl.1 rfl (Nat.le_of_ble_eq_true rfl) dX5_whatKind_51 ⟨Nat.zero_le _, Nat.zero_le _⟩) hS (fun H locs hP hS => ?_)
          refine lv_goto (tgt := 63) hx hb dX5_whatKind_54 rfl ?_
          exact je_mi hx hb hr hlocks hK hP hS h dX5_whatKind_63
      refine lv_if_eq (tgt := 44) hx hb dX5_whatKind_29 rfl (fun c29 => ?_) (fun c29 => ?_)
      · replace h := jh_t h c29
        exact J44 M _ _ v1 v2 v3 _ h hP hS hl
      · replace h := jh_f h c29
        refine lv_iload_n hx hb dX5_whatKind_32 rfl (lv_at hl 3 rfl) ?_
        refine lv_iconst (v := 1) hx hb dX5_whatKind_33 jci_1 ?_
        refine lv_icmp_eq (tgt := 44) hx hb dX5_whatKind_34 rfl (fun c34 => ?_) (fun c34 => ?_)
        · replace h := jh_t h c34
          exact J44 M _ _ v1 v2 v3 _ h hP hS hl
        · replace h := jh_f h c34
          refine lv_aload_n hx hb dX5_whatKind_37 rfl (lv_at hl 0 rfl) ?_
          refine lv_bipush (v := (-2)) hx hb dX5_whatKind_38 jcb_m2 ?_
          obtain ⟨r7, M_7, e7, h⟩ := jh_b2 h
          refine jr_km (jr_rv (As := [.int (-2)]) (rest := []) S hK hP jb_0 rfl (m_X5_refuse l X A hs M (-2) r7 M_7 e7) jw_X5_refuse ji_X5_refuse jmX5_65 rfl rfl ⟨(Nat.le_of_ble_eq_true rfl), (Nat.le_of_ble_eq_true rfl)⟩ rfl hl.1 rfl (Nat.le_of_ble_eq_true rfl) dX5_whatKind_40 ⟨Nat.zero_le _, Nat.zero_le _⟩) hS (fun H locs hP hS => ?_)
          exact je_mi hx hb hr hlocks hK hP hS h dX5_whatKind_43
    · replace h := jh_t h c19
      refine lv_aload_n hx hb dX5_whatKind_22 rfl (lv_at hl 0 rfl) ?_
      refine lv_iconst (v := (-1)) hx hb dX5_whatKind_23 jci_m1 ?_
      obtain ⟨r8, M_8, e8, h⟩ := jh_b2 h
      refine jr_km (jr_rv (As := [.int (-1)]) (rest := []) S hK hP jb_0 rfl (m_X5_refuse l X A hs M (-1) r8 M_8 e8) jw_X5_refuse ji_X5_refuse jmX5_65 rfl rfl ⟨(Nat.le_of_ble_eq_true rfl), (Nat.le_of_ble_eq_true rfl)⟩ rfl hl.1 rfl (Nat.le_of_ble_eq_true rfl) dX5_whatKind_24 ⟨Nat.zero_le _, Nat.zero_le _⟩) hS (fun H locs hP hS => ?_)
      exact je_mi hx hb hr hlocks hK hP hS h dX5_whatKind_27
def f_X5_bestShutter (M : jm) (v1 : Int32) (v2 : Int32) : Option (Int32 × jm) := (jb (f_X4_become M 2 1) fun M_1 => (jb (f_X4_owersBehind (ju M_1 2 4 0 ((M_1 2 4 0) ||| ((1 : Int32) <<< (v1 &&& 31)))) 2 v1 v2) fun r2 => (jb2 (f_X4_turn (ju M_1 2 4 0 ((M_1 2 4 0) ||| ((1 : Int32) <<< (v1 &&& 31)))) 2 v1) fun r4 M_4 => (jb (f_X4_owersBehind M_4 2 v1 v2) fun r5 => (if (f_J6_bitCount_0f7a4 r5) ≤ ((f_J6_bitCount_0f7a4 r2) - 1) then (some (0, M_4)) else (some (1, M_4)))))))
set_option maxRecDepth 100000 in
theorem m_X5_bestShutter (l : Launch) (X : jX) (A : Nat → Prop) (hs : jst X A) (M : jm) (v1 : Int32) (v2 : Int32) (r : Int32) (N : jm) (h : f_X5_bestShutter M v1 v2 = some (r, N)) : Met l yX5_bestShutter (jws yX5_bestShutter cX5_bestShutter 5 (some .int)) (jrm 5 119) (va_Pc [.ref (jO X 0), .int v1, .int v2] (jB X M)) (jQm X A (some (.int r)) N) 0 0 A := by
  refine jm_of (by decide) (Nat.le_of_ble_eq_true rfl) ?_
  intro p e s m args below meth c ls S hr hlocks hB hl
  have S : CallFix p m c cX5_bestShutter 5 s args jtb RX5 := S
  obtain ⟨hx, hb, hml, hown, hts⟩ := id S
  obtain ⟨hP, hK⟩ := hB
  have hN := hK.2
  have hS : va_S A s.heap s.heap [] := va_S.rf
  have hl : lv_has ls 5 [(0, .ref (jO X 0)), (1, .int v1), (2, .int v2)] := hl
  refine lv_aload_n hx hb dX5_bestShutter_0 rfl (lv_at hl 0 rfl) ?_
  refine jr_get (k := 1) hx hb hts hown hK hP jb_0 (Nat.le_of_ble_eq_true rfl) jlX5_16 rfl dX5_bestShutter_1 ?_
  refine lv_aload_n hx hb dX5_bestShutter_4 rfl (lv_at hl 0 rfl) ?_
  refine jr_get (k := 0) hx hb hts hown hK hP jb_0 (Nat.le_of_ble_eq_true rfl) jlX5_12 rfl dX5_bestShutter_5 ?_
  obtain ⟨M_1, e1, h⟩ := jh_b h
  refine jr_kv (jr_rv (As := [.ref (jO X 1)]) (rest := []) S hK hP jb_2 rfl (m_X4_become l X A hs M jb_2 jb_1 M_1 e1) jw_X4_become ji_X4_become jmX5_76 rfl rfl ⟨(Nat.le_of_ble_eq_true rfl), (Nat.le_of_ble_eq_true rfl)⟩ rfl hl.1 rfl (Nat.le_of_ble_eq_true rfl) dX5_bestShutter_8 ⟨Nat.zero_le _, Nat.zero_le _⟩) hS (fun H locs hP hS => ?_)
  refine lv_aload_n hx hb dX5_bestShutter_11 rfl (lv_at hl 0 rfl) ?_
  refine jr_get (k := 1) hx hb hts hown hK hP jb_0 (Nat.le_of_ble_eq_true rfl) jlX5_16 rfl dX5_bestShutter_12 ?_
  refine lv_dup hx hb dX5_bestShutter_15 rfl ?_
  refine jr_get (k := 4) hx hb hts hown hK hP jb_2 (Nat.le_of_ble_eq_true rfl) jlX5_286 rfl dX5_bestShutter_16 ?_
  refine lv_iconst (v := 1) hx hb dX5_bestShutter_19 jci_1 ?_
  refine lv_iload_n hx hb dX5_bestShutter_20 rfl (lv_at hl 1 rfl) ?_
  refine lv_ishl hx hb dX5_bestShutter_21 ?_
  refine lv_ior hx hb dX5_bestShutter_22 ?_
  refine jr_put (k := 4) (z := ((M_1 2 4 0) ||| ((1 : Int32) <<< (v1 &&& 31)))) hx hb hts hown hK hP hs hS jb_2 (Nat.le_of_ble_eq_true rfl) jlX5_286 rfl (Or.inl rfl) rfl rfl rfl dX5_bestShutter_23 (fun H locs hP hS => ?_)
  refine lv_aload_n hx hb dX5_bestShutter_26 rfl (lv_at hl 0 rfl) ?_
  refine jr_get (k := 1) hx hb hts hown hK hP jb_0 (Nat.le_of_ble_eq_true rfl) jlX5_16 rfl dX5_bestShutter_27 ?_
  refine lv_iload_n hx hb dX5_bestShutter_30 rfl (lv_at hl 1 rfl) ?_
  refine lv_iload_n hx hb dX5_bestShutter_31 rfl (lv_at hl 2 rfl) ?_
  obtain ⟨r2, e2, h⟩ := jh_b h
  refine jr_kp (jr_rv (As := [.int v1, .int v2]) (rest := []) S hK hP jb_2 rfl (m_X4_owersBehind l X (ju M_1 2 4 0 ((M_1 2 4 0) ||| ((1 : Int32) <<< (v1 &&& 31)))) jb_2 v1 v2 r2 e2) jw_X4_owersBehind ji_X4_owersBehind jmX5_113 rfl rfl ⟨(Nat.le_of_ble_eq_true rfl), (Nat.le_of_ble_eq_true rfl)⟩ rfl hl.1 rfl (Nat.le_of_ble_eq_true rfl) dX5_bestShutter_32 ⟨Nat.zero_le _, Nat.zero_le _⟩) ?_
  refine jr_kp (jr_rs (As := [.int r2]) (rest := []) S hN (m_J6_bitCount_0f7a4 l r2 _ rfl) jw_J6_bitCount_0f7a4 js_J6_bitCount_0f7a4 jmX5_239 rfl rfl ⟨(Nat.le_of_ble_eq_true rfl), (Nat.le_of_ble_eq_true rfl)⟩ rfl hl.1 rfl (Nat.le_of_ble_eq_true rfl) dX5_bestShutter_35 ⟨Nat.zero_le _, Nat.zero_le _⟩) ?_
  refine lv_iconst (v := 1) hx hb dX5_bestShutter_38 jci_1 ?_
  refine lv_isub hx hb dX5_bestShutter_39 ?_
  refine lv_istore_n (lv' := [(3, .int ((f_J6_bitCount_0f7a4 r2) - 1)), (0, .ref (jO X 0)), (1, .int v1), (2, .int v2)]) hx hb dX5_bestShutter_40 rfl hl (Nat.le_of_ble_eq_true rfl) rfl (fun ls hl => ?_)
  refine lv_aload_n hx hb dX5_bestShutter_41 rfl (lv_at hl 1 rfl) ?_
  refine jr_get (k := 1) hx hb hts hown hK hP jb_0 (Nat.le_of_ble_eq_true rfl) jlX5_16 rfl dX5_bestShutter_42 ?_
  refine lv_iload_n hx hb dX5_bestShutter_45 rfl (lv_at hl 2 rfl) ?_
  obtain ⟨r4, M_4, e4, h⟩ := jh_b2 h
  refine jr_km (jr_rv (As := [.int v1]) (rest := []) S hK hP jb_2 rfl (m_X4_turn l X A hs (ju M_1 2 4 0 ((M_1 2 4 0) ||| ((1 : Int32) <<< (v1 &&& 31)))) jb_2 v1 r4 M_4 e4) jw_X4_turn ji_X4_turn jmX5_167 rfl rfl ⟨(Nat.le_of_ble_eq_true rfl), (Nat.le_of_ble_eq_true rfl)⟩ rfl hl.1 rfl (Nat.le_of_ble_eq_true rfl) dX5_bestShutter_46 ⟨Nat.zero_le _, Nat.zero_le _⟩) hS (fun H locs hP hS => ?_)
  refine lv_pop hx hb dX5_bestShutter_49 rfl ?_
  refine lv_aload_n hx hb dX5_bestShutter_50 rfl (lv_at hl 1 rfl) ?_
  refine jr_get (k := 1) hx hb hts hown hK hP jb_0 (Nat.le_of_ble_eq_true rfl) jlX5_16 rfl dX5_bestShutter_51 ?_
  refine lv_iload_n hx hb dX5_bestShutter_54 rfl (lv_at hl 2 rfl) ?_
  refine lv_iload_n hx hb dX5_bestShutter_55 rfl (lv_at hl 3 rfl) ?_
  obtain ⟨r5, e5, h⟩ := jh_b h
  refine jr_kp (jr_rv (As := [.int v1, .int v2]) (rest := []) S hK hP jb_2 rfl (m_X4_owersBehind l X M_4 jb_2 v1 v2 r5 e5) jw_X4_owersBehind ji_X4_owersBehind jmX5_113 rfl rfl ⟨(Nat.le_of_ble_eq_true rfl), (Nat.le_of_ble_eq_true rfl)⟩ rfl hl.1 rfl (Nat.le_of_ble_eq_true rfl) dX5_bestShutter_56 ⟨Nat.zero_le _, Nat.zero_le _⟩) ?_
  refine jr_kp (jr_rs (As := [.int r5]) (rest := []) S hN (m_J6_bitCount_0f7a4 l r5 _ rfl) jw_J6_bitCount_0f7a4 js_J6_bitCount_0f7a4 jmX5_239 rfl rfl ⟨(Nat.le_of_ble_eq_true rfl), (Nat.le_of_ble_eq_true rfl)⟩ rfl hl.1 rfl (Nat.le_of_ble_eq_true rfl) dX5_bestShutter_59 ⟨Nat.zero_le _, Nat.zero_le _⟩) ?_
  refine lv_istore (lv' := [(4, .int (f_J6_bitCount_0f7a4 r5)), (3, .int ((f_J6_bitCount_0f7a4 r2) - 1)), (0, .ref (jO X 0)), (1, .int v1), (2, .int v2)]) hx hb dX5_bestShutter_62 hl (Nat.le_of_ble_eq_true rfl) rfl (fun ls hl => ?_)
  refine lv_iload hx hb dX5_bestShutter_64 (lv_at hl 0 rfl) ?_
  refine lv_iload_n hx hb dX5_bestShutter_66 rfl (lv_at hl 1 rfl) ?_
  refine lv_icmp_le (tgt := 74) hx hb dX5_bestShutter_67 rfl (fun c67 => ?_) (fun c67 => ?_)
  · replace h := jh_t h c67
    refine lv_iconst (v := 0) hx hb dX5_bestShutter_74 jci_0 ?_
    exact je_mi hx hb hr hlocks hK hP hS h dX5_bestShutter_75
  · replace h := jh_f h c67
    refine lv_iconst (v := 1) hx hb dX5_bestShutter_70 jci_1 ?_
    refine lv_goto (tgt := 75) hx hb dX5_bestShutter_71 rfl ?_
    exact je_mi hx hb hr hlocks hK hP hS h dX5_bestShutter_75
def f_X5_two (M : jm) (v1 : Int32) (v2 : Int32) (v3 : Int32) : Option (Int32 × jm) := (if (f_X4_hasHouse M 1 v1) = 0 then (jb2 (f_X5_refuse M (-1)) fun r2 M_2 => (some (r2, M_2))) else (if (f_X4_hasHouse M 1 v2) = 0 then (jb2 (f_X5_refuse M (-1)) fun r4 M_4 => (some (r4, M_4))) else (if v1 = v2 then (jb2 (f_X5_refuse M (-1)) fun r9 M_9 => (some (r9, M_9))) else (if 0 ≤ v3 then (if v3 ≤ 60 then (jb2 (f_X5_bestShutter M v1 v3) fun r5 M_5 => (jb2 (f_X5_bestShutter M_5 v2 v3) fun r6 M_6 => (some (((10 * r5) + r6), M_6)))) else (jb2 (f_X5_refuse M (-6)) fun r7 M_7 => (some (r7, M_7)))) else (jb2 (f_X5_refuse M (-4)) fun r8 M_8 => (some (r8, M_8)))))))
set_option maxRecDepth 100000 in
theorem m_X5_two (l : Launch) (X : jX) (A : Nat → Prop) (hs : jst X A) (M : jm) (v1 : Int32) (v2 : Int32) (v3 : Int32) (r : Int32) (N : jm) (h : f_X5_two M v1 v2 v3 = some (r, N)) : Met l yX5_two (jws yX5_two cX5_two 4 (some .int)) (jrm 6 143) (va_Pc [.ref (jO X 0), .int v1, .int v2, .int v3] (jB X M)) (jQm X A (some (.int r)) N) 0 0 A := by
  refine jm_of (by decide) (Nat.le_of_ble_eq_true rfl) ?_
  intro p e s m args below meth c ls S hr hlocks hB hl
  have S : CallFix p m c cX5_two 4 s args jtb RX5 := S
  obtain ⟨hx, hb, hml, hown, hts⟩ := id S
  obtain ⟨hP, hK⟩ := hB
  have hN := hK.2
  have hS : va_S A s.heap s.heap [] := va_S.rf
  have hl : lv_has ls 4 [(0, .ref (jO X 0)), (1, .int v1), (2, .int v2), (3, .int v3)] := hl
  refine lv_aload_n hx hb dX5_two_0 rfl (lv_at hl 0 rfl) ?_
  refine jr_get (k := 0) hx hb hts hown hK hP jb_0 (Nat.le_of_ble_eq_true rfl) jlX5_12 rfl dX5_two_1 ?_
  refine lv_iload_n hx hb dX5_two_4 rfl (lv_at hl 1 rfl) ?_
  refine jr_kp (jr_rv (As := [.int v1]) (rest := []) S hK hP jb_1 rfl (m_X4_hasHouse l X M jb_1 v1 _ rfl) jw_X4_hasHouse ji_X4_hasHouse jmX5_90 rfl rfl ⟨(Nat.le_of_ble_eq_true rfl), (Nat.le_of_ble_eq_true rfl)⟩ rfl hl.1 rfl (Nat.le_of_ble_eq_true rfl) dX5_two_5 ⟨Nat.zero_le _, Nat.zero_le _⟩) ?_
  refine lv_if_eq (tgt := 27) hx hb dX5_two_8 rfl (fun c8 => ?_) (fun c8 => ?_)
  · replace h := jh_t h c8
    refine lv_aload_n hx hb dX5_two_27 rfl (lv_at hl 0 rfl) ?_
    refine lv_iconst (v := (-1)) hx hb dX5_two_28 jci_m1 ?_
    obtain ⟨r2, M_2, e2, h⟩ := jh_b2 h
    refine jr_km (jr_rv (As := [.int (-1)]) (rest := []) S hK hP jb_0 rfl (m_X5_refuse l X A hs M (-1) r2 M_2 e2) jw_X5_refuse ji_X5_refuse jmX5_65 rfl rfl ⟨(Nat.le_of_ble_eq_true rfl), (Nat.le_of_ble_eq_true rfl)⟩ rfl hl.1 rfl (Nat.le_of_ble_eq_true rfl) dX5_two_29 ⟨Nat.zero_le _, Nat.zero_le _⟩) hS (fun H locs hP hS => ?_)
    exact je_mi hx hb hr hlocks hK hP hS h dX5_two_32
  · replace h := jh_f h c8
    refine lv_aload_n hx hb dX5_two_11 rfl (lv_at hl 0 rfl) ?_
    refine jr_get (k := 0) hx hb hts hown hK hP jb_0 (Nat.le_of_ble_eq_true rfl) jlX5_12 rfl dX5_two_12 ?_
    refine lv_iload_n hx hb dX5_two_15 rfl (lv_at hl 2 rfl) ?_
    refine jr_kp (jr_rv (As := [.int v2]) (rest := []) S hK hP jb_1 rfl (m_X4_hasHouse l X M jb_1 v2 _ rfl) jw_X4_hasHouse ji_X4_hasHouse jmX5_90 rfl rfl ⟨(Nat.le_of_ble_eq_true rfl), (Nat.le_of_ble_eq_true rfl)⟩ rfl hl.1 rfl (Nat.le_of_ble_eq_true rfl) dX5_two_16 ⟨Nat.zero_le _, Nat.zero_le _⟩) ?_
    refine lv_if_eq (tgt := 27) hx hb dX5_two_19 rfl (fun c19 => ?_) (fun c19 => ?_)
    · replace h := jh_t h c19
      refine lv_aload_n hx hb dX5_two_27 rfl (lv_at hl 0 rfl) ?_
      refine lv_iconst (v := (-1)) hx hb dX5_two_28 jci_m1 ?_
      obtain ⟨r4, M_4, e4, h⟩ := jh_b2 h
      refine jr_km (jr_rv (As := [.int (-1)]) (rest := []) S hK hP jb_0 rfl (m_X5_refuse l X A hs M (-1) r4 M_4 e4) jw_X5_refuse ji_X5_refuse jmX5_65 rfl rfl ⟨(Nat.le_of_ble_eq_true rfl), (Nat.le_of_ble_eq_true rfl)⟩ rfl hl.1 rfl (Nat.le_of_ble_eq_true rfl) dX5_two_29 ⟨Nat.zero_le _, Nat.zero_le _⟩) hS (fun H locs hP hS => ?_)
      exact je_mi hx hb hr hlocks hK hP hS h dX5_two_32
    · replace h := jh_f h c19
      refine lv_iload_n hx hb dX5_two_22 rfl (lv_at hl 1 rfl) ?_
      refine lv_iload_n hx hb dX5_two_23 rfl (lv_at hl 2 rfl) ?_
      refine lv_icmp_ne (tgt := 33) hx hb dX5_two_24 rfl (fun c24 => ?_) (fun c24 => ?_)
      · replace h := jh_f h c24
        refine lv_iload_n hx hb dX5_two_33 rfl (lv_at hl 3 rfl) ?_
        refine lv_if_ge (tgt := 44) hx hb dX5_two_34 rfl (fun c34 => ?_) (fun c34 => ?_)
        · replace h := jh_t h c34
          refine lv_iload_n hx hb dX5_two_44 rfl (lv_at hl 3 rfl) ?_
          refine lv_bipush (v := 60) hx hb dX5_two_45 jcb_60 ?_
          refine lv_icmp_le (tgt := 57) hx hb dX5_two_47 rfl (fun c47 => ?_) (fun c47 => ?_)
          · replace h := jh_t h c47
            refine lv_bipush (v := 10) hx hb dX5_two_57 jcb_10 ?_
            refine lv_aload_n hx hb dX5_two_59 rfl (lv_at hl 0 rfl) ?_
            refine lv_iload_n hx hb dX5_two_60 rfl (lv_at hl 1 rfl) ?_
            refine lv_iload_n hx hb dX5_two_61 rfl (lv_at hl 3 rfl) ?_
            obtain ⟨r5, M_5, e5, h⟩ := jh_b2 h
            refine jr_km (jr_rv (As := [.int v1, .int v3]) (rest := [.int 10]) S hK hP jb_0 rfl (m_X5_bestShutter l X A hs M v1 v3 r5 M_5 e5) jw_X5_bestShutter ji_X5_bestShutter jmX5_262 rfl rfl ⟨(Nat.le_of_ble_eq_true rfl), (Nat.le_of_ble_eq_true rfl)⟩ rfl hl.1 rfl (Nat.le_of_ble_eq_true rfl) dX5_two_62 ⟨Nat.zero_le _, Nat.zero_le _⟩) hS (fun H locs hP hS => ?_)
            refine lv_imul hx hb dX5_two_65 ?_
            refine lv_aload_n hx hb dX5_two_66 rfl (lv_at hl 0 rfl) ?_
            refine lv_iload_n hx hb dX5_two_67 rfl (lv_at hl 2 rfl) ?_
            refine lv_iload_n hx hb dX5_two_68 rfl (lv_at hl 3 rfl) ?_
            obtain ⟨r6, M_6, e6, h⟩ := jh_b2 h
            refine jr_km (jr_rv (As := [.int v2, .int v3]) (rest := [.int (10 * r5)]) S hK hP jb_0 rfl (m_X5_bestShutter l X A hs M_5 v2 v3 r6 M_6 e6) jw_X5_bestShutter ji_X5_bestShutter jmX5_262 rfl rfl ⟨(Nat.le_of_ble_eq_true rfl), (Nat.le_of_ble_eq_true rfl)⟩ rfl hl.1 rfl (Nat.le_of_ble_eq_true rfl) dX5_two_69 ⟨Nat.zero_le _, Nat.zero_le _⟩) hS (fun H locs hP hS => ?_)
            refine lv_iadd hx hb dX5_two_72 ?_
            exact je_mi hx hb hr hlocks hK hP hS h dX5_two_73
          · replace h := jh_f h c47
            refine lv_aload_n hx hb dX5_two_50 rfl (lv_at hl 0 rfl) ?_
            refine lv_bipush (v := (-6)) hx hb dX5_two_51 jcb_m6 ?_
            obtain ⟨r7, M_7, e7, h⟩ := jh_b2 h
            refine jr_km (jr_rv (As := [.int (-6)]) (rest := []) S hK hP jb_0 rfl (m_X5_refuse l X A hs M (-6) r7 M_7 e7) jw_X5_refuse ji_X5_refuse jmX5_65 rfl rfl ⟨(Nat.le_of_ble_eq_true rfl), (Nat.le_of_ble_eq_true rfl)⟩ rfl hl.1 rfl (Nat.le_of_ble_eq_true rfl) dX5_two_53 ⟨Nat.zero_le _, Nat.zero_le _⟩) hS (fun H locs hP hS => ?_)
            exact je_mi hx hb hr hlocks hK hP hS h dX5_two_56
        · replace h := jh_f h c34
          refine lv_aload_n hx hb dX5_two_37 rfl (lv_at hl 0 rfl) ?_
          refine lv_bipush (v := (-4)) hx hb dX5_two_38 jcb_m4 ?_
          obtain ⟨r8, M_8, e8, h⟩ := jh_b2 h
          refine jr_km (jr_rv (As := [.int (-4)]) (rest := []) S hK hP jb_0 rfl (m_X5_refuse l X A hs M (-4) r8 M_8 e8) jw_X5_refuse ji_X5_refuse jmX5_65 rfl rfl ⟨(Nat.le_of_ble_eq_true rfl), (Nat.le_of_ble_eq_true rfl)⟩ rfl hl.1 rfl (Nat.le_of_ble_eq_true rfl) dX5_two_40 ⟨Nat.zero_le _, Nat.zero_le _⟩) hS (fun H locs hP hS => ?_)
          exact je_mi hx hb hr hlocks hK hP hS h dX5_two_43
      · replace h := jh_t h c24
        refine lv_aload_n hx hb dX5_two_27 rfl (lv_at hl 0 rfl) ?_
        refine lv_iconst (v := (-1)) hx hb dX5_two_28 jci_m1 ?_
        obtain ⟨r9, M_9, e9, h⟩ := jh_b2 h
        refine jr_km (jr_rv (As := [.int (-1)]) (rest := []) S hK hP jb_0 rfl (m_X5_refuse l X A hs M (-1) r9 M_9 e9) jw_X5_refuse ji_X5_refuse jmX5_65 rfl rfl ⟨(Nat.le_of_ble_eq_true rfl), (Nat.le_of_ble_eq_true rfl)⟩ rfl hl.1 rfl (Nat.le_of_ble_eq_true rfl) dX5_two_29 ⟨Nat.zero_le _, Nat.zero_le _⟩) hS (fun H locs hP hS => ?_)
        exact je_mi hx hb hr hlocks hK hP hS h dX5_two_32
def f_X5_refuseLong (M : jm) (v1 : Int32) : Option (Int64 × jm) := (jb2 (f_X5_refuse M v1) fun r1 M_1 => (some ((4000000000000000000 - (Int32.toInt64 r1)), M_1)))
set_option maxRecDepth 100000 in
theorem m_X5_refuseLong (l : Launch) (X : jX) (A : Nat → Prop) (hs : jst X A) (M : jm) (v1 : Int32) (r : Int64) (N : jm) (h : f_X5_refuseLong M v1 = some (r, N)) : Met l yX5_refuseLong (jws yX5_refuseLong cX5_refuseLong 2 (some .long)) (jrm 1 21) (va_Pc [.ref (jO X 0), .int v1] (jB X M)) (jQm X A (some (.long r)) N) 0 0 A := by
  refine jm_of (by decide) (Nat.le_of_ble_eq_true rfl) ?_
  intro p e s m args below meth c ls S hr hlocks hB hl
  have S : CallFix p m c cX5_refuseLong 2 s args jtb RX5 := S
  obtain ⟨hx, hb, hml, hown, hts⟩ := id S
  obtain ⟨hP, hK⟩ := hB
  have hN := hK.2
  have hS : va_S A s.heap s.heap [] := va_S.rf
  have hl : lv_has ls 2 [(0, .ref (jO X 0)), (1, .int v1)] := hl
  refine lv_ldc2 hx hb hown (hts _ jkX5_300) dX5_refuseLong_0 ?_
  refine lv_aload_n hx hb dX5_refuseLong_3 rfl (lv_at hl 0 rfl) ?_
  refine lv_iload_n hx hb dX5_refuseLong_4 rfl (lv_at hl 1 rfl) ?_
  obtain ⟨r1, M_1, e1, h⟩ := jh_b2 h
  refine jr_km (jr_rv (As := [.int v1]) (rest := [.long 4000000000000000000]) S hK hP jb_0 rfl (m_X5_refuse l X A hs M v1 r1 M_1 e1) jw_X5_refuse ji_X5_refuse jmX5_65 rfl rfl ⟨(Nat.le_of_ble_eq_true rfl), (Nat.le_of_ble_eq_true rfl)⟩ rfl hl.1 rfl (Nat.le_of_ble_eq_true rfl) dX5_refuseLong_5 ⟨Nat.zero_le _, Nat.zero_le _⟩) hS (fun H locs hP hS => ?_)
  refine lv_i2l hx hb dX5_refuseLong_8 rfl ?_
  refine lv_lsub hx hb dX5_refuseLong_9 ?_
  exact je_ml hx hb hr hlocks hK hP hS h dX5_refuseLong_10
def f_X5_mist_l115 (v4_9 : Int32) (v5_9 : Int32) (v6_9 : Int32) : Nat → jm → Int64 → Int32 → Option (Int64 × jm)
  | 0, _, _, _ => none
  | k_9 + 1, M_9, v7_9, v9_9 => (if v6_9 ≤ v9_9 then (if v5_9 = 0 then (some ((v7_9 - 1), M_9)) else (some (v7_9, M_9))) else ((f_X5_mist_l115 v4_9 v5_9 v6_9 k_9) M_9 (v7_9 * (Int32.toInt64 v4_9)) (v9_9 + 1)))
def f_X5_mist_j83 (M_6 : jm) (v1_6 : Int32) (v2_6 : Int32) (v3_6 : Int32) (v4_6 : Int32) (v5_6 : Int32) : Option (Int64 × jm) := (jb (f_X4_owes M_6 1 v1_6 v2_6) fun r7 => (if r7 = 0 then (jb (f_X4_sightings M_6 1 v1_6 v2_6 v3_6) fun r8 => (f_X5_mist_l115 v4_6 v5_6 r8 10000 M_6 1 0)) else (some (1, M_6))))
def f_X5_mist (M : jm) (v1 : Int32) (v2 : Int32) (v3 : Int32) (v4 : Int32) (v5 : Int32) : Option (Int64 × jm) := (if (f_X4_hasWalker M 1 v1) = 0 then (jb2 (f_X5_refuseLong M (-1)) fun r2 M_2 => (some (r2, M_2))) else (if (f_X4_hasHouse M 1 v2) = 0 then (jb2 (f_X5_refuseLong M (-1)) fun r13 M_13 => (some (r13, M_13))) else (if v3 < 0 then (jb2 (f_X5_refuseLong M (-4)) fun r4 M_4 => (some (r4, M_4))) else (if 2 ≤ v4 then (if 7 < v3 then (jb2 (f_X5_refuseLong M (-6)) fun r5 M_5 => (some (r5, M_5))) else (if v4 ≤ 20 then (if v5 = 0 then (f_X5_mist_j83 M v1 v2 v3 v4 v5) else (if v5 = 1 then (f_X5_mist_j83 M v1 v2 v3 v4 v5) else (jb2 (f_X5_refuseLong M (-2)) fun r10 M_10 => (some (r10, M_10))))) else (jb2 (f_X5_refuseLong M (-6)) fun r11 M_11 => (some (r11, M_11))))) else (jb2 (f_X5_refuseLong M (-4)) fun r12 M_12 => (some (r12, M_12)))))))
set_option maxRecDepth 100000 in
theorem m_X5_mist (l : Launch) (X : jX) (A : Nat → Prop) (hs : jst X A) (M : jm) (v1 : Int32) (v2 : Int32) (v3 : Int32) (v4 : Int32) (v5 : Int32) (r : Int64) (N : jm) (h : f_X5_mist M v1 v2 v3 v4 v5 = some (r, N)) : Met l yX5_mist (jws yX5_mist cX5_mist 10 (some .long)) (jrm 4 91) (va_Pc [.ref (jO X 0), .int v1, .int v2, .int v3, .int v4, .int v5] (jB X M)) (jQm X A (some (.long r)) N) 0 0 A := by
  refine jm_of (by decide) (Nat.le_of_ble_eq_true rfl) ?_
  intro p e s m args below meth c ls S hr hlocks hB hl
  have S : CallFix p m c cX5_mist 10 s args jtb RX5 := S
  obtain ⟨hx, hb, hml, hown, hts⟩ := id S
  obtain ⟨hP, hK⟩ := hB
  have hN := hK.2
  have hS : va_S A s.heap s.heap [] := va_S.rf
  have hl : lv_has ls 10 [(0, .ref (jO X 0)), (1, .int v1), (2, .int v2), (3, .int v3), (4, .int v4), (5, .int v5)] := hl
  refine lv_aload_n hx hb dX5_mist_0 rfl (lv_at hl 0 rfl) ?_
  refine jr_get (k := 0) hx hb hts hown hK hP jb_0 (Nat.le_of_ble_eq_true rfl) jlX5_12 rfl dX5_mist_1 ?_
  refine lv_iload_n hx hb dX5_mist_4 rfl (lv_at hl 1 rfl) ?_
  refine jr_kp (jr_rv (As := [.int v1]) (rest := []) S hK hP jb_1 rfl (m_X4_hasWalker l X M jb_1 v1 _ rfl) jw_X4_hasWalker ji_X4_hasWalker jmX5_119 rfl rfl ⟨(Nat.le_of_ble_eq_true rfl), (Nat.le_of_ble_eq_true rfl)⟩ rfl hl.1 rfl (Nat.le_of_ble_eq_true rfl) dX5_mist_5 ⟨Nat.zero_le _, Nat.zero_le _⟩) ?_
  refine lv_if_eq (tgt := 22) hx hb dX5_mist_8 rfl (fun c8 => ?_) (fun c8 => ?_)
  · replace h := jh_t h c8
    refine lv_aload_n hx hb dX5_mist_22 rfl (lv_at hl 0 rfl) ?_
    refine lv_iconst (v := (-1)) hx hb dX5_mist_23 jci_m1 ?_
    obtain ⟨r2, M_2, e2, h⟩ := jh_b2 h
    refine jr_km (jr_rv (As := [.int (-1)]) (rest := []) S hK hP jb_0 rfl (m_X5_refuseLong l X A hs M (-1) r2 M_2 e2) jw_X5_refuseLong ji_X5_refuseLong jmX5_265 rfl rfl ⟨(Nat.le_of_ble_eq_true rfl), (Nat.le_of_ble_eq_true rfl)⟩ rfl hl.1 rfl (Nat.le_of_ble_eq_true rfl) dX5_mist_24 ⟨Nat.zero_le _, Nat.zero_le _⟩) hS (fun H locs hP hS => ?_)
    exact je_ml hx hb hr hlocks hK hP hS h dX5_mist_27
  · replace h := jh_f h c8
    refine lv_aload_n hx hb dX5_mist_11 rfl (lv_at hl 0 rfl) ?_
    refine jr_get (k := 0) hx hb hts hown hK hP jb_0 (Nat.le_of_ble_eq_true rfl) jlX5_12 rfl dX5_mist_12 ?_
    refine lv_iload_n hx hb dX5_mist_15 rfl (lv_at hl 2 rfl) ?_
    refine jr_kp (jr_rv (As := [.int v2]) (rest := []) S hK hP jb_1 rfl (m_X4_hasHouse l X M jb_1 v2 _ rfl) jw_X4_hasHouse ji_X4_hasHouse jmX5_90 rfl rfl ⟨(Nat.le_of_ble_eq_true rfl), (Nat.le_of_ble_eq_true rfl)⟩ rfl hl.1 rfl (Nat.le_of_ble_eq_true rfl) dX5_mist_16 ⟨Nat.zero_le _, Nat.zero_le _⟩) ?_
    refine lv_if_ne (tgt := 28) hx hb dX5_mist_19 rfl (fun c19 => ?_) (fun c19 => ?_)
    · replace h := jh_f h c19
      refine lv_iload_n hx hb dX5_mist_28 rfl (lv_at hl 3 rfl) ?_
      refine lv_if_lt (tgt := 38) hx hb dX5_mist_29 rfl (fun c29 => ?_) (fun c29 => ?_)
      · replace h := jh_t h c29
        refine lv_aload_n hx hb dX5_mist_38 rfl (lv_at hl 0 rfl) ?_
        refine lv_bipush (v := (-4)) hx hb dX5_mist_39 jcb_m4 ?_
        obtain ⟨r4, M_4, e4, h⟩ := jh_b2 h
        refine jr_km (jr_rv (As := [.int (-4)]) (rest := []) S hK hP jb_0 rfl (m_X5_refuseLong l X A hs M (-4) r4 M_4 e4) jw_X5_refuseLong ji_X5_refuseLong jmX5_265 rfl rfl ⟨(Nat.le_of_ble_eq_true rfl), (Nat.le_of_ble_eq_true rfl)⟩ rfl hl.1 rfl (Nat.le_of_ble_eq_true rfl) dX5_mist_41 ⟨Nat.zero_le _, Nat.zero_le _⟩) hS (fun H locs hP hS => ?_)
        exact je_ml hx hb hr hlocks hK hP hS h dX5_mist_44
      · replace h := jh_f h c29
        refine lv_iload hx hb dX5_mist_32 (lv_at hl 4 rfl) ?_
        refine lv_iconst (v := 2) hx hb dX5_mist_34 jci_2 ?_
        refine lv_icmp_ge (tgt := 45) hx hb dX5_mist_35 rfl (fun c35 => ?_) (fun c35 => ?_)
        · replace h := jh_t h c35
          refine lv_iload_n hx hb dX5_mist_45 rfl (lv_at hl 3 rfl) ?_
          refine lv_bipush (v := 7) hx hb dX5_mist_46 jcb_7 ?_
          refine lv_icmp_gt (tgt := 58) hx hb dX5_mist_48 rfl (fun c48 => ?_) (fun c48 => ?_)
          · replace h := jh_t h c48
            refine lv_aload_n hx hb dX5_mist_58 rfl (lv_at hl 0 rfl) ?_
            refine lv_bipush (v := (-6)) hx hb dX5_mist_59 jcb_m6 ?_
            obtain ⟨r5, M_5, e5, h⟩ := jh_b2 h
            refine jr_km (jr_rv (As := [.int (-6)]) (rest := []) S hK hP jb_0 rfl (m_X5_refuseLong l X A hs M (-6) r5 M_5 e5) jw_X5_refuseLong ji_X5_refuseLong jmX5_265 rfl rfl ⟨(Nat.le_of_ble_eq_true rfl), (Nat.le_of_ble_eq_true rfl)⟩ rfl hl.1 rfl (Nat.le_of_ble_eq_true rfl) dX5_mist_61 ⟨Nat.zero_le _, Nat.zero_le _⟩) hS (fun H locs hP hS => ?_)
            exact je_ml hx hb hr hlocks hK hP hS h dX5_mist_64
          · replace h := jh_f h c48
            refine lv_iload hx hb dX5_mist_51 (lv_at hl 4 rfl) ?_
            refine lv_bipush (v := 20) hx hb dX5_mist_53 jcb_20 ?_
            refine lv_icmp_le (tgt := 65) hx hb dX5_mist_55 rfl (fun c55 => ?_) (fun c55 => ?_)
            · replace h := jh_t h c55
              refine lv_iload hx hb dX5_mist_65 (lv_at hl 5 rfl) ?_
              have J83 : ∀ (M_6 : jm) (H : Heap) (locs : List Loc) (v1_6 : Int32) (v2_6 : Int32) (v3_6 : Int32) (v4_6 : Int32) (v5_6 : Int32) (ls : Array Slot), f_X5_mist_j83 M_6 v1_6 v2_6 v3_6 v4_6 v5_6 = some (r, N) → jrp X M_6 H → va_S A s.heap H locs → lv_has ls 10 [(0, .ref (jO X 0)), (1, .int v1_6), (2, .int v2_6), (3, .int v3_6), (4, .int v4_6), (5, .int v5_6)] → W p l e (jrm 4 91) s m args below meth c H locs 0 0 (MQ below (jQm X A (some (.long r)) N) args s 0 0 A) (F0 m 83 ls []) := by
                intro M_6 H locs v1_6 v2_6 v3_6 v4_6 v5_6 ls h hP hS hl
                refine lv_aload_n hx hb dX5_mist_83 rfl (lv_at hl 0 rfl) ?_
                refine jr_get (k := 0) hx hb hts hown hK hP jb_0 (Nat.le_of_ble_eq_true rfl) jlX5_12 rfl dX5_mist_84 ?_
                refine lv_iload_n hx hb dX5_mist_87 rfl (lv_at hl 1 rfl) ?_
                refine lv_iload_n hx hb dX5_mist_88 rfl (lv_at hl 2 rfl) ?_
                obtain ⟨r7, e7, h⟩ := jh_b h
                refine jr_kp (jr_rv (As := [.int v1_6, .int v2_6]) (rest := []) S hK hP jb_1 rfl (m_X4_owes l X M_6 jb_1 v1_6 v2_6 r7 e7) jw_X4_owes ji_X4_owes jmX5_140 rfl rfl ⟨(Nat.le_of_ble_eq_true rfl), (Nat.le_of_ble_eq_true rfl)⟩ rfl hl.1 rfl (Nat.le_of_ble_eq_true rfl) dX5_mist_89 ⟨Nat.zero_le _, Nat.zero_le _⟩) ?_
                refine lv_if_eq (tgt := 97) hx hb dX5_mist_92 rfl (fun c92 => ?_) (fun c92 => ?_)
                · replace h := jh_t h c92
                  refine lv_aload_n hx hb dX5_mist_97 rfl (lv_at hl 0 rfl) ?_
                  refine jr_get (k := 0) hx hb hts hown hK hP jb_0 (Nat.le_of_ble_eq_true rfl) jlX5_12 rfl dX5_mist_98 ?_
                  refine lv_iload_n hx hb dX5_mist_101 rfl (lv_at hl 1 rfl) ?_
                  refine lv_iload_n hx hb dX5_mist_102 rfl (lv_at hl 2 rfl) ?_
                  refine lv_iload_n hx hb dX5_mist_103 rfl (lv_at hl 3 rfl) ?_
                  obtain ⟨r8, e8, h⟩ := jh_b h
                  refine jr_kp (jr_rv (As := [.int v1_6, .int v2_6, .int v3_6]) (rest := []) S hK hP jb_1 rfl (m_X4_sightings l X M_6 jb_1 v1_6 v2_6 v3_6 r8 e8) jw_X4_sightings ji_X4_sightings jmX5_269 rfl rfl ⟨(Nat.le_of_ble_eq_true rfl), (Nat.le_of_ble_eq_true rfl)⟩ rfl hl.1 rfl (Nat.le_of_ble_eq_true rfl) dX5_mist_104 ⟨Nat.zero_le _, Nat.zero_le _⟩) ?_
                  refine lv_istore (lv' := [(6, .int r8), (0, .ref (jO X 0)), (1, .int v1_6), (2, .int v2_6), (3, .int v3_6), (4, .int v4_6), (5, .int v5_6)]) hx hb dX5_mist_107 hl (Nat.le_of_ble_eq_true rfl) rfl (fun ls hl => ?_)
                  refine lv_lconst (v := 1) hx hb dX5_mist_109 rfl ?_
                  refine lv_lstore (lv' := [(7, .long 1), (6, .int r8), (0, .ref (jO X 0)), (1, .int v1_6), (2, .int v2_6), (3, .int v3_6), (4, .int v4_6), (5, .int v5_6)]) hx hb dX5_mist_110 hl (Nat.le_of_ble_eq_true rfl) rfl (fun ls hl => ?_)
                  refine lv_iconst (v := 0) hx hb dX5_mist_112 jci_0 ?_
                  refine lv_istore (lv' := [(9, .int 0), (7, .long 1), (6, .int r8), (0, .ref (jO X 0)), (1, .int v1_6), (2, .int v2_6), (3, .int v3_6), (4, .int v4_6), (5, .int v5_6)]) hx hb dX5_mist_113 hl (Nat.le_of_ble_eq_true rfl) rfl (fun ls hl => ?_)
                  have L115 : ∀ (v4_9 : Int32) (v5_9 : Int32) (v6_9 : Int32) (k_9 : Nat) (M_9 : jm) (H : Heap) (locs : List Loc) (v7_9 : Int64) (v9_9 : Int32) (ls : Array Slot), f_X5_mist_l115 v4_9 v5_9 v6_9 k_9 M_9 v7_9 v9_9 = some (r, N) → jrp X M_9 H → va_S A s.heap H locs → lv_has ls 10 [(4, .int v4_9), (5, .int v5_9), (6, .int v6_9), (7, .long v7_9), (9, .int v9_9)] → W p l e (jrm 4 91) s m args below meth c H locs 0 0 (MQ below (jQm X A (some (.long r)) N) args s 0 0 A) (F0 m 115 ls []) := by
                    intro v4_9 v5_9 v6_9 k_9
                    induction k_9 with
                    | zero => intro M_9 H locs v7_9 v9_9 ls h; exact jh_0 h
                    | succ k_9 ih115 =>
                      intro M_9 H locs v7_9 v9_9 ls h hP hS hl
                      refine lv_iload hx hb dX5_mist_115 (lv_at hl 4 rfl) ?_
                      refine lv_iload hx hb dX5_mist_117 (lv_at hl 2 rfl) ?_
                      refine lv_icmp_ge (tgt := 136) hx hb dX5_mist_119 rfl (fun c119 => ?_) (fun c119 => ?_)
                      · replace h := jh_t h c119
                        refine lv_iload hx hb dX5_mist_136 (lv_at hl 1 rfl) ?_
                        refine lv_if_ne (tgt := 148) hx hb dX5_mist_138 rfl (fun c138 => ?_) (fun c138 => ?_)
                        · replace h := jh_f h c138
                          refine lv_lload hx hb dX5_mist_148 (lv_at hl 3 rfl) ?_
                          exact je_ml hx hb hr hlocks hK hP hS h dX5_mist_150
                        · replace h := jh_t h c138
                          refine lv_lload hx hb dX5_mist_141 (lv_at hl 3 rfl) ?_
                          refine lv_lconst (v := 1) hx hb dX5_mist_143 rfl ?_
                          refine lv_lsub hx hb dX5_mist_144 ?_
                          refine lv_goto (tgt := 150) hx hb dX5_mist_145 rfl ?_
                          exact je_ml hx hb hr hlocks hK hP hS h dX5_mist_150
                      · replace h := jh_f h c119
                        refine lv_lload hx hb dX5_mist_122 (lv_at hl 3 rfl) ?_
                        refine lv_iload hx hb dX5_mist_124 (lv_at hl 0 rfl) ?_
                        refine lv_i2l hx hb dX5_mist_126 rfl ?_
                        refine lv_lmul hx hb dX5_mist_127 ?_
                        refine lv_lstore (lv' := [(7, .long (v7_9 * (Int32.toInt64 v4_9))), (4, .int v4_9), (5, .int v5_9), (6, .int v6_9), (9, .int v9_9)]) hx hb dX5_mist_128 hl (Nat.le_of_ble_eq_true rfl) rfl (fun ls hl => ?_)
                        refine lv_iinc (v := (v9_9 + 1)) (lv' := [(9, .int (v9_9 + 1)), (7, .long (v7_9 * (Int32.toInt64 v4_9))), (4, .int v4_9), (5, .int v5_9), (6, .int v6_9)]) hx hb dX5_mist_130 hl (k := 4) rfl (congrArg _ jci_1) (Nat.le_of_ble_eq_true rfl) rfl (fun ls hl => ?_)
                        refine lv_goto (tgt := 115) hx hb dX5_mist_133 rfl ?_
                        exact ih115 M_9 _ _ (v7_9 * (Int32.toInt64 v4_9)) (v9_9 + 1) _ h hP hS (lv_sub hl [2, 3, 4, 1, 0] rfl)
                  exact L115 v4_6 v5_6 r8 10000 M_6 _ _ 1 0 _ h hP hS (lv_sub hl [7, 8, 2, 1, 0] rfl)
                · replace h := jh_f h c92
                  refine lv_lconst (v := 1) hx hb dX5_mist_95 rfl ?_
                  exact je_ml hx hb hr hlocks hK hP hS h dX5_mist_96
              refine lv_if_eq (tgt := 83) hx hb dX5_mist_67 rfl (fun c67 => ?_) (fun c67 => ?_)
              · replace h := jh_t h c67
                exact J83 M _ _ v1 v2 v3 v4 v5 _ h hP hS hl
              · replace h := jh_f h c67
                refine lv_iload hx hb dX5_mist_70 (lv_at hl 5 rfl) ?_
                refine lv_iconst (v := 1) hx hb dX5_mist_72 jci_1 ?_
                refine lv_icmp_eq (tgt := 83) hx hb dX5_mist_73 rfl (fun c73 => ?_) (fun c73 => ?_)
                · replace h := jh_t h c73
                  exact J83 M _ _ v1 v2 v3 v4 v5 _ h hP hS hl
                · replace h := jh_f h c73
                  refine lv_aload_n hx hb dX5_mist_76 rfl (lv_at hl 0 rfl) ?_
                  refine lv_bipush (v := (-2)) hx hb dX5_mist_77 jcb_m2 ?_
                  obtain ⟨r10, M_10, e10, h⟩ := jh_b2 h
                  refine jr_km (jr_rv (As := [.int (-2)]) (rest := []) S hK hP jb_0 rfl (m_X5_refuseLong l X A hs M (-2) r10 M_10 e10) jw_X5_refuseLong ji_X5_refuseLong jmX5_265 rfl rfl ⟨(Nat.le_of_ble_eq_true rfl), (Nat.le_of_ble_eq_true rfl)⟩ rfl hl.1 rfl (Nat.le_of_ble_eq_true rfl) dX5_mist_79 ⟨Nat.zero_le _, Nat.zero_le _⟩) hS (fun H locs hP hS => ?_)
                  exact je_ml hx hb hr hlocks hK hP hS h dX5_mist_82
            · replace h := jh_f h c55
              refine lv_aload_n hx hb dX5_mist_58 rfl (lv_at hl 0 rfl) ?_
              refine lv_bipush (v := (-6)) hx hb dX5_mist_59 jcb_m6 ?_
              obtain ⟨r11, M_11, e11, h⟩ := jh_b2 h
              refine jr_km (jr_rv (As := [.int (-6)]) (rest := []) S hK hP jb_0 rfl (m_X5_refuseLong l X A hs M (-6) r11 M_11 e11) jw_X5_refuseLong ji_X5_refuseLong jmX5_265 rfl rfl ⟨(Nat.le_of_ble_eq_true rfl), (Nat.le_of_ble_eq_true rfl)⟩ rfl hl.1 rfl (Nat.le_of_ble_eq_true rfl) dX5_mist_61 ⟨Nat.zero_le _, Nat.zero_le _⟩) hS (fun H locs hP hS => ?_)
              exact je_ml hx hb hr hlocks hK hP hS h dX5_mist_64
        · replace h := jh_f h c35
          refine lv_aload_n hx hb dX5_mist_38 rfl (lv_at hl 0 rfl) ?_
          refine lv_bipush (v := (-4)) hx hb dX5_mist_39 jcb_m4 ?_
          obtain ⟨r12, M_12, e12, h⟩ := jh_b2 h
          refine jr_km (jr_rv (As := [.int (-4)]) (rest := []) S hK hP jb_0 rfl (m_X5_refuseLong l X A hs M (-4) r12 M_12 e12) jw_X5_refuseLong ji_X5_refuseLong jmX5_265 rfl rfl ⟨(Nat.le_of_ble_eq_true rfl), (Nat.le_of_ble_eq_true rfl)⟩ rfl hl.1 rfl (Nat.le_of_ble_eq_true rfl) dX5_mist_41 ⟨Nat.zero_le _, Nat.zero_le _⟩) hS (fun H locs hP hS => ?_)
          exact je_ml hx hb hr hlocks hK hP hS h dX5_mist_44
    · replace h := jh_t h c19
      refine lv_aload_n hx hb dX5_mist_22 rfl (lv_at hl 0 rfl) ?_
      refine lv_iconst (v := (-1)) hx hb dX5_mist_23 jci_m1 ?_
      obtain ⟨r13, M_13, e13, h⟩ := jh_b2 h
      refine jr_km (jr_rv (As := [.int (-1)]) (rest := []) S hK hP jb_0 rfl (m_X5_refuseLong l X A hs M (-1) r13 M_13 e13) jw_X5_refuseLong ji_X5_refuseLong jmX5_265 rfl rfl ⟨(Nat.le_of_ble_eq_true rfl), (Nat.le_of_ble_eq_true rfl)⟩ rfl hl.1 rfl (Nat.le_of_ble_eq_true rfl) dX5_mist_24 ⟨Nat.zero_le _, Nat.zero_le _⟩) hS (fun H locs hP hS => ?_)
      exact je_ml hx hb hr hlocks hK hP hS h dX5_mist_27
def f_X5_highestAge_l4 (M : jm) : Nat → Int32 → Int32 → Option Int32
  | 0, _, _ => none
  | k_1 + 1, v1_1, v2_1 => (if (M 1 5 0) ≤ v2_1 then (some v1_1) else (jb (f_X4_highestAgeOf M 1 v2_1) fun r2 => ((f_X5_highestAge_l4 M k_1) (if v1_1 < r2 then r2 else v1_1) (v2_1 + 1))))
def f_X5_highestAge (M : jm) : Option Int32 := (f_X5_highestAge_l4 M 10000 (-1) 0)
set_option maxRecDepth 100000 in
theorem m_X5_highestAge (l : Launch) (X : jX) (M : jm) (r : Int32) (h : f_X5_highestAge M = some r) : Met l yX5_highestAge (jws yX5_highestAge cX5_highestAge 3 (some .int)) (jrm 2 44) (va_Pc [.ref (jO X 0)] (jB X M)) (jQ (.int r)) 0 0 (fun _ => False) := by
  refine jm_of (by decide) (Nat.le_of_ble_eq_true rfl) ?_
  intro p e s m args below meth c ls S hr hlocks hB hl
  have S : CallFix p m c cX5_highestAge 3 s args jtb RX5 := S
  obtain ⟨hx, hb, hml, hown, hts⟩ := id S
  obtain ⟨hP, hK⟩ := hB
  have hN := hK.2
  have hl : lv_has ls 3 [(0, .ref (jO X 0))] := hl
  refine lv_iconst (v := (-1)) hx hb dX5_highestAge_0 jci_m1 ?_
  refine lv_istore_n (lv' := [(1, .int (-1)), (0, .ref (jO X 0))]) hx hb dX5_highestAge_1 rfl hl (Nat.le_of_ble_eq_true rfl) rfl (fun ls hl => ?_)
  refine lv_iconst (v := 0) hx hb dX5_highestAge_2 jci_0 ?_
  refine lv_istore_n (lv' := [(2, .int 0), (1, .int (-1)), (0, .ref (jO X 0))]) hx hb dX5_highestAge_3 rfl hl (Nat.le_of_ble_eq_true rfl) rfl (fun ls hl => ?_)
  have L4 : ∀ (k_1 : Nat) (v1_1 : Int32) (v2_1 : Int32) (ls : Array Slot), f_X5_highestAge_l4 M k_1 v1_1 v2_1 = some r → lv_has ls 3 [(0, .ref (jO X 0)), (1, .int v1_1), (2, .int v2_1)] → W p l e (jrm 2 44) s m args below meth c s.heap [] 0 0 (MQ below (jQ (.int r)) args s 0 0 (fun _ => False)) (F0 m 4 ls []) := by
    intro k_1
    induction k_1 with
    | zero => intro v1_1 v2_1 ls h; exact jh_0 h
    | succ k_1 ih4 =>
      intro v1_1 v2_1 ls h hl
      refine lv_iload_n hx hb dX5_highestAge_4 rfl (lv_at hl 2 rfl) ?_
      refine lv_aload_n hx hb dX5_highestAge_5 rfl (lv_at hl 0 rfl) ?_
      refine jr_get (k := 0) hx hb hts hown hK hP jb_0 (Nat.le_of_ble_eq_true rfl) jlX5_12 rfl dX5_highestAge_6 ?_
      refine jr_get (k := 5) hx hb hts hown hK hP jb_1 (Nat.le_of_ble_eq_true rfl) jlX5_158 rfl dX5_highestAge_9 ?_
      refine lv_icmp_ge (tgt := 34) hx hb dX5_highestAge_12 rfl (fun c12 => ?_) (fun c12 => ?_)
      · replace h := jh_t h c12
        refine lv_iload_n hx hb dX5_highestAge_34 rfl (lv_at hl 1 rfl) ?_
        exact je_i hx hb hr hlocks (Option.some.inj h) dX5_highestAge_35
      · replace h := jh_f h c12
        refine lv_iload_n hx hb dX5_highestAge_15 rfl (lv_at hl 1 rfl) ?_
        refine lv_aload_n hx hb dX5_highestAge_16 rfl (lv_at hl 0 rfl) ?_
        refine jr_get (k := 0) hx hb hts hown hK hP jb_0 (Nat.le_of_ble_eq_true rfl) jlX5_12 rfl dX5_highestAge_17 ?_
        refine lv_iload_n hx hb dX5_highestAge_20 rfl (lv_at hl 2 rfl) ?_
        obtain ⟨r2, e2, h⟩ := jh_b h
        refine jr_kp (jr_rv (As := [.int v2_1]) (rest := [.int v1_1]) S hK hP jb_1 rfl (m_X4_highestAgeOf l X M jb_1 v2_1 r2 e2) jw_X4_highestAgeOf ji_X4_highestAgeOf jmX5_305 rfl rfl ⟨(Nat.le_of_ble_eq_true rfl), (Nat.le_of_ble_eq_true rfl)⟩ rfl hl.1 rfl (Nat.le_of_ble_eq_true rfl) dX5_highestAge_21 ⟨Nat.zero_le _, Nat.zero_le _⟩) ?_
        refine va_mmax hx hb (hml.trans hl.1.symm) hown (hts _ jmX5_275) (hts _ jstM_max) (hts _ jinM) (hts _ jcoM_max) (Nat.le_of_ble_eq_true rfl) (Nat.le_of_ble_eq_true rfl) (Nat.zero_le _) (Nat.zero_le _) dX5_highestAge_24 ?_
        refine lv_istore_n (lv' := [(1, .int (if v1_1 < r2 then r2 else v1_1)), (0, .ref (jO X 0)), (2, .int v2_1)]) hx hb dX5_highestAge_27 rfl hl (Nat.le_of_ble_eq_true rfl) rfl (fun ls hl => ?_)
        refine lv_iinc (v := (v2_1 + 1)) (lv' := [(2, .int (v2_1 + 1)), (1, .int (if v1_1 < r2 then r2 else v1_1)), (0, .ref (jO X 0))]) hx hb dX5_highestAge_28 hl (k := 2) rfl (congrArg _ jci_1) (Nat.le_of_ble_eq_true rfl) rfl (fun ls hl => ?_)
        refine lv_goto (tgt := 4) hx hb dX5_highestAge_31 rfl ?_
        exact ih4 (if v1_1 < r2 then r2 else v1_1) (v2_1 + 1) _ h (lv_sub hl [2, 1, 0] rfl)
  exact L4 10000 (-1) 0 _ h (lv_sub hl [2, 1, 0] rfl)
def f_X5_longestOwing_l7 (M : jm) (v1_2 : Int32) : Nat → Int32 → Option Int32
  | 0, _ => none
  | k_2 + 1, v2_2 => (if (M 1 5 0) ≤ v2_2 then (some (-9)) else (if v1_2 = (-1) then ((f_X5_longestOwing_l7 M v1_2 k_2) (v2_2 + 1)) else (jb (f_X4_highestAgeOf M 1 v2_2) fun r3 => (if r3 = v1_2 then (some v2_2) else ((f_X5_longestOwing_l7 M v1_2 k_2) (v2_2 + 1))))))
def f_X5_longestOwing (M : jm) : Option Int32 := (jb (f_X5_highestAge M) fun r1 => (f_X5_longestOwing_l7 M r1 10000 0))
set_option maxRecDepth 100000 in
theorem m_X5_longestOwing (l : Launch) (X : jX) (M : jm) (r : Int32) (h : f_X5_longestOwing M = some r) : Met l yX5_longestOwing (jws yX5_longestOwing cX5_longestOwing 3 (some .int)) (jrm 3 66) (va_Pc [.ref (jO X 0)] (jB X M)) (jQ (.int r)) 0 0 (fun _ => False) := by
  refine jm_of (by decide) (Nat.le_of_ble_eq_true rfl) ?_
  intro p e s m args below meth c ls S hr hlocks hB hl
  have S : CallFix p m c cX5_longestOwing 3 s args jtb RX5 := S
  obtain ⟨hx, hb, hml, hown, hts⟩ := id S
  obtain ⟨hP, hK⟩ := hB
  have hN := hK.2
  have hl : lv_has ls 3 [(0, .ref (jO X 0))] := hl
  refine lv_aload_n hx hb dX5_longestOwing_0 rfl (lv_at hl 0 rfl) ?_
  obtain ⟨r1, e1, h⟩ := jh_b h
  refine jr_kp (jr_rv (As := []) (rest := []) S hK hP jb_0 rfl (m_X5_highestAge l X M  r1 e1) jw_X5_highestAge ji_X5_highestAge jmX5_272 rfl rfl ⟨(Nat.le_of_ble_eq_true rfl), (Nat.le_of_ble_eq_true rfl)⟩ rfl hl.1 rfl (Nat.le_of_ble_eq_true rfl) dX5_longestOwing_1 ⟨Nat.zero_le _, Nat.zero_le _⟩) ?_
  refine lv_istore_n (lv' := [(1, .int r1), (0, .ref (jO X 0))]) hx hb dX5_longestOwing_4 rfl hl (Nat.le_of_ble_eq_true rfl) rfl (fun ls hl => ?_)
  refine lv_iconst (v := 0) hx hb dX5_longestOwing_5 jci_0 ?_
  refine lv_istore_n (lv' := [(2, .int 0), (1, .int r1), (0, .ref (jO X 0))]) hx hb dX5_longestOwing_6 rfl hl (Nat.le_of_ble_eq_true rfl) rfl (fun ls hl => ?_)
  have L7 : ∀ (v1_2 : Int32) (k_2 : Nat) (v2_2 : Int32) (ls : Array Slot), f_X5_longestOwing_l7 M v1_2 k_2 v2_2 = some r → lv_has ls 3 [(0, .ref (jO X 0)), (1, .int v1_2), (2, .int v2_2)] → W p l e (jrm 3 66) s m args below meth c s.heap [] 0 0 (MQ below (jQ (.int r)) args s 0 0 (fun _ => False)) (F0 m 7 ls []) := by
    intro v1_2 k_2
    induction k_2 with
    | zero => intro v2_2 ls h; exact jh_0 h
    | succ k_2 ih7 =>
      intro v2_2 ls h hl
      refine lv_iload_n hx hb dX5_longestOwing_7 rfl (lv_at hl 2 rfl) ?_
      refine lv_aload_n hx hb dX5_longestOwing_8 rfl (lv_at hl 0 rfl) ?_
      refine jr_get (k := 0) hx hb hts hown hK hP jb_0 (Nat.le_of_ble_eq_true rfl) jlX5_12 rfl dX5_longestOwing_9 ?_
      refine jr_get (k := 5) hx hb hts hown hK hP jb_1 (Nat.le_of_ble_eq_true rfl) jlX5_158 rfl dX5_longestOwing_12 ?_
      refine lv_icmp_ge (tgt := 43) hx hb dX5_longestOwing_15 rfl (fun c15 => ?_) (fun c15 => ?_)
      · replace h := jh_t h c15
        refine lv_bipush (v := (-9)) hx hb dX5_longestOwing_43 jcb_m9 ?_
        exact je_i hx hb hr hlocks (Option.some.inj h) dX5_longestOwing_45
      · replace h := jh_f h c15
        refine lv_iload_n hx hb dX5_longestOwing_18 rfl (lv_at hl 1 rfl) ?_
        refine lv_iconst (v := (-1)) hx hb dX5_longestOwing_19 jci_m1 ?_
        refine lv_icmp_eq (tgt := 37) hx hb dX5_longestOwing_20 rfl (fun c20 => ?_) (fun c20 => ?_)
        · replace h := jh_t h c20
          refine lv_iinc (v := (v2_2 + 1)) (lv' := [(2, .int (v2_2 + 1)), (0, .ref (jO X 0)), (1, .int v1_2)]) hx hb dX5_longestOwing_37 hl (k := 2) rfl (congrArg _ jci_1) (Nat.le_of_ble_eq_true rfl) rfl (fun ls hl => ?_)
          refine lv_goto (tgt := 7) hx hb dX5_longestOwing_40 rfl ?_
          exact ih7 (v2_2 + 1) _ h (lv_sub hl [1, 2, 0] rfl)
        · replace h := jh_f h c20
          refine lv_aload_n hx hb dX5_longestOwing_23 rfl (lv_at hl 0 rfl) ?_
          refine jr_get (k := 0) hx hb hts hown hK hP jb_0 (Nat.le_of_ble_eq_true rfl) jlX5_12 rfl dX5_longestOwing_24 ?_
          refine lv_iload_n hx hb dX5_longestOwing_27 rfl (lv_at hl 2 rfl) ?_
          obtain ⟨r3, e3, h⟩ := jh_b h
          refine jr_kp (jr_rv (As := [.int v2_2]) (rest := []) S hK hP jb_1 rfl (m_X4_highestAgeOf l X M jb_1 v2_2 r3 e3) jw_X4_highestAgeOf ji_X4_highestAgeOf jmX5_305 rfl rfl ⟨(Nat.le_of_ble_eq_true rfl), (Nat.le_of_ble_eq_true rfl)⟩ rfl hl.1 rfl (Nat.le_of_ble_eq_true rfl) dX5_longestOwing_28 ⟨Nat.zero_le _, Nat.zero_le _⟩) ?_
          refine lv_iload_n hx hb dX5_longestOwing_31 rfl (lv_at hl 1 rfl) ?_
          refine lv_icmp_ne (tgt := 37) hx hb dX5_longestOwing_32 rfl (fun c32 => ?_) (fun c32 => ?_)
          · replace h := jh_f h c32
            refine lv_iinc (v := (v2_2 + 1)) (lv' := [(2, .int (v2_2 + 1)), (0, .ref (jO X 0)), (1, .int v1_2)]) hx hb dX5_longestOwing_37 hl (k := 2) rfl (congrArg _ jci_1) (Nat.le_of_ble_eq_true rfl) rfl (fun ls hl => ?_)
            refine lv_goto (tgt := 7) hx hb dX5_longestOwing_40 rfl ?_
            exact ih7 (v2_2 + 1) _ h (lv_sub hl [1, 2, 0] rfl)
          · replace h := jh_t h c32
            refine lv_iload_n hx hb dX5_longestOwing_35 rfl (lv_at hl 2 rfl) ?_
            exact je_i hx hb hr hlocks (Option.some.inj h) dX5_longestOwing_36
  exact L7 r1 10000 0 _ h (lv_sub hl [2, 1, 0] rfl)
def f_X5_lane_j57 (M : jm) (K4_4 : Int32 → Int32 → Option Int32) (K19_4 : Int32 → Int32 → Option Int32) (v1_4 : Int32) (v2_2 : Int32) (v3_4 : Int32) (t0_4 : Int32) : Option Int32 := (if t0_4 = 0 then (K19_4 v1_4 (v3_4 + 1)) else (jgd v2_2 8 (jgd v3_4 8 (if 2 < (f_X5_steps (M 1 3 (Int32.toNatClampNeg v2_2)) (M 1 3 (Int32.toNatClampNeg v3_4))) then (K19_4 v1_4 (v3_4 + 1)) else (K19_4 (v1_4 + 1) (v3_4 + 1))))))
def f_X5_lane_j56 (M : jm) (K4_6 : Int32 → Int32 → Option Int32) (K19_6 : Int32 → Int32 → Option Int32) (v1_6 : Int32) (v2_2 : Int32) (v3_6 : Int32) : Option Int32 := (f_X5_lane_j57 M K4_6 K19_6 v1_6 v2_2 v3_6 0)
def f_X5_lane_l19 (M : jm) (K4_2 : Int32 → Int32 → Option Int32) (v2_2 : Int32) : Nat → Int32 → Int32 → Option Int32
  | 0, _, _ => none
  | k_2 + 1, v1_2, v3_2 => (if (M 1 0 0) ≤ v3_2 then (K4_2 v1_2 (v2_2 + 1)) else (if (f_X4_isLit M 1 v2_2) = 0 then (f_X5_lane_j56 M K4_2 (f_X5_lane_l19 M K4_2 v2_2 k_2) v1_2 v2_2 v3_2) else (if (f_X4_isLit M 1 v3_2) = 0 then (f_X5_lane_j56 M K4_2 (f_X5_lane_l19 M K4_2 v2_2 k_2) v1_2 v2_2 v3_2) else (f_X5_lane_j57 M K4_2 (f_X5_lane_l19 M K4_2 v2_2 k_2) v1_2 v2_2 v3_2 1))))
def f_X5_lane_l4 (M : jm) : Nat → Int32 → Int32 → Option Int32
  | 0, _, _ => none
  | k_1 + 1, v1_1, v2_1 => (if (M 1 0 0) ≤ v2_1 then (some v1_1) else (f_X5_lane_l19 M (f_X5_lane_l4 M k_1) v2_1 10000 v1_1 (v2_1 + 1)))
def f_X5_lane (M : jm) : Option Int32 := (f_X5_lane_l4 M 10000 0 0)
set_option maxRecDepth 100000 in
theorem m_X5_lane (l : Launch) (X : jX) (M : jm) (r : Int32) (h : f_X5_lane M = some r) : Met l yX5_lane (jws yX5_lane cX5_lane 5 (some .int)) (jrm 2 42) (va_Pc [.ref (jO X 0)] (jB X M)) (jQ (.int r)) 0 0 (fun _ => False) := by
  refine jm_of (by decide) (Nat.le_of_ble_eq_true rfl) ?_
  intro p e s m args below meth c ls S hr hlocks hB hl
  have S : CallFix p m c cX5_lane 5 s args jtb RX5 := S
  obtain ⟨hx, hb, hml, hown, hts⟩ := id S
  obtain ⟨hP, hK⟩ := hB
  have hN := hK.2
  have hl : lv_has ls 5 [(0, .ref (jO X 0))] := hl
  refine lv_iconst (v := 0) hx hb dX5_lane_0 jci_0 ?_
  refine lv_istore_n (lv' := [(1, .int 0), (0, .ref (jO X 0))]) hx hb dX5_lane_1 rfl hl (Nat.le_of_ble_eq_true rfl) rfl (fun ls hl => ?_)
  refine lv_iconst (v := 0) hx hb dX5_lane_2 jci_0 ?_
  refine lv_istore_n (lv' := [(2, .int 0), (1, .int 0), (0, .ref (jO X 0))]) hx hb dX5_lane_3 rfl hl (Nat.le_of_ble_eq_true rfl) rfl (fun ls hl => ?_)
  have L4 : ∀ (k_1 : Nat) (v1_1 : Int32) (v2_1 : Int32) (ls : Array Slot), f_X5_lane_l4 M k_1 v1_1 v2_1 = some r → lv_has ls 5 [(0, .ref (jO X 0)), (1, .int v1_1), (2, .int v2_1)] → W p l e (jrm 2 42) s m args below meth c s.heap [] 0 0 (MQ below (jQ (.int r)) args s 0 0 (fun _ => False)) (F0 m 4 ls []) := by
    intro k_1
    induction k_1 with
    | zero => intro v1_1 v2_1 ls h; exact jh_0 h
    | succ k_1 ih4 =>
      intro v1_1 v2_1 ls h hl
      refine lv_iload_n hx hb dX5_lane_4 rfl (lv_at hl 2 rfl) ?_
      refine lv_aload_n hx hb dX5_lane_5 rfl (lv_at hl 0 rfl) ?_
      refine jr_get (k := 0) hx hb hts hown hK hP jb_0 (Nat.le_of_ble_eq_true rfl) jlX5_12 rfl dX5_lane_6 ?_
      refine jr_get (k := 0) hx hb hts hown hK hP jb_1 (Nat.le_of_ble_eq_true rfl) jlX5_148 rfl dX5_lane_9 ?_
      refine lv_icmp_ge (tgt := 104) hx hb dX5_lane_12 rfl (fun c12 => ?_) (fun c12 => ?_)
      · replace h := jh_t h c12
        refine lv_iload_n hx hb dX5_lane_104 rfl (lv_at hl 1 rfl) ?_
        exact je_i hx hb hr hlocks (Option.some.inj h) dX5_lane_105
      · replace h := jh_f h c12
        refine lv_iload_n hx hb dX5_lane_15 rfl (lv_at hl 2 rfl) ?_
        refine lv_iconst (v := 1) hx hb dX5_lane_16 jci_1 ?_
        refine lv_iadd hx hb dX5_lane_17 ?_
        refine lv_istore_n (lv' := [(3, .int (v2_1 + 1)), (0, .ref (jO X 0)), (1, .int v1_1), (2, .int v2_1)]) hx hb dX5_lane_18 rfl hl (Nat.le_of_ble_eq_true rfl) rfl (fun ls hl => ?_)
        have L19 : ∀ (v2_2 : Int32) (k_2 : Nat) (v1_2 : Int32) (v3_2 : Int32) (ls : Array Slot), f_X5_lane_l19 M (f_X5_lane_l4 M k_1) v2_2 k_2 v1_2 v3_2 = some r → lv_has ls 5 [(0, .ref (jO X 0)), (1, .int v1_2), (2, .int v2_2), (3, .int v3_2)] → W p l e (jrm 2 42) s m args below meth c s.heap [] 0 0 (MQ below (jQ (.int r)) args s 0 0 (fun _ => False)) (F0 m 19 ls []) := by
          intro v2_2 k_2
          induction k_2 with
          | zero => intro v1_2 v3_2 ls h; exact jh_0 h
          | succ k_2 ih19 =>
            intro v1_2 v3_2 ls h hl
            refine lv_iload_n hx hb dX5_lane_19 rfl (lv_at hl 3 rfl) ?_
            refine lv_aload_n hx hb dX5_lane_20 rfl (lv_at hl 0 rfl) ?_
            refine jr_get (k := 0) hx hb hts hown hK hP jb_0 (Nat.le_of_ble_eq_true rfl) jlX5_12 rfl dX5_lane_21 ?_
            refine jr_get (k := 0) hx hb hts hown hK hP jb_1 (Nat.le_of_ble_eq_true rfl) jlX5_148 rfl dX5_lane_24 ?_
            refine lv_icmp_ge (tgt := 98) hx hb dX5_lane_27 rfl (fun c27 => ?_) (fun c27 => ?_)
            · replace h := jh_t h c27
              refine lv_iinc (v := (v2_2 + 1)) (lv' := [(2, .int (v2_2 + 1)), (0, .ref (jO X 0)), (1, .int v1_2), (3, .int v3_2)]) hx hb dX5_lane_98 hl (k := 2) rfl (congrArg _ jci_1) (Nat.le_of_ble_eq_true rfl) rfl (fun ls hl => ?_)
              refine lv_goto (tgt := 4) hx hb dX5_lane_101 rfl ?_
              exact ih4 v1_2 (v2_2 + 1) _ h (lv_sub hl [1, 2, 0] rfl)
            · replace h := jh_f h c27
              refine lv_aload_n hx hb dX5_lane_30 rfl (lv_at hl 0 rfl) ?_
              refine jr_get (k := 0) hx hb hts hown hK hP jb_0 (Nat.le_of_ble_eq_true rfl) jlX5_12 rfl dX5_lane_31 ?_
              refine lv_iload_n hx hb dX5_lane_34 rfl (lv_at hl 2 rfl) ?_
              refine jr_kp (jr_rv (As := [.int v2_2]) (rest := []) S hK hP jb_1 rfl (m_X4_isLit l X M jb_1 v2_2 _ rfl) jw_X4_isLit ji_X4_isLit jmX5_103 rfl rfl ⟨(Nat.le_of_ble_eq_true rfl), (Nat.le_of_ble_eq_true rfl)⟩ rfl hl.1 rfl (Nat.le_of_ble_eq_true rfl) dX5_lane_35 ⟨Nat.zero_le _, Nat.zero_le _⟩) ?_
              have J57 : ∀ (v1_4 : Int32) (v3_4 : Int32) (t0_4 : Int32) (ls : Array Slot), f_X5_lane_j57 M (f_X5_lane_l4 M k_1) (f_X5_lane_l19 M (f_X5_lane_l4 M k_1) v2_2 k_2) v1_4 v2_2 v3_4 t0_4 = some r → lv_has ls 5 [(0, .ref (jO X 0)), (1, .int v1_4), (2, .int v2_2), (3, .int v3_4)] → W p l e (jrm 2 42) s m args below meth c s.heap [] 0 0 (MQ below (jQ (.int r)) args s 0 0 (fun _ => False)) (F0 m 57 ls [.int t0_4]) := by
                intro v1_4 v3_4 t0_4 ls h hl
                refine lv_istore (lv' := [(4, .int t0_4), (0, .ref (jO X 0)), (1, .int v1_4), (2, .int v2_2), (3, .int v3_4)]) hx hb dX5_lane_57 hl (Nat.le_of_ble_eq_true rfl) rfl (fun ls hl => ?_)
                refine lv_iload hx hb dX5_lane_59 (lv_at hl 0 rfl) ?_
                refine lv_if_eq (tgt := 92) hx hb dX5_lane_61 rfl (fun c61 => ?_) (fun c61 => ?_)
                · replace h := jh_t h c61
                  refine lv_iinc (v := (v3_4 + 1)) (lv' := [(3, .int (v3_4 + 1)), (4, .int t0_4), (0, .ref (jO X 0)), (1, .int v1_4), (2, .int v2_2)]) hx hb dX5_lane_92 hl (k := 4) rfl (congrArg _ jci_1) (Nat.le_of_ble_eq_true rfl) rfl (fun ls hl => ?_)
                  refine lv_goto (tgt := 19) hx hb dX5_lane_95 rfl ?_
                  exact ih19 v1_4 (v3_4 + 1) _ h (lv_sub hl [2, 3, 4, 0] rfl)
                · replace h := jh_f h c61
                  refine lv_aload_n hx hb dX5_lane_64 rfl (lv_at hl 1 rfl) ?_
                  refine jr_get (k := 0) hx hb hts hown hK hP jb_0 (Nat.le_of_ble_eq_true rfl) jlX5_12 rfl dX5_lane_65 ?_
                  refine jr_get (k := 3) hx hb hts hown hK hP jb_1 (Nat.le_of_ble_eq_true rfl) jlX5_100 rfl dX5_lane_68 ?_
                  refine lv_iload_n hx hb dX5_lane_71 rfl (lv_at hl 3 rfl) ?_
                  obtain ⟨g72, h⟩ := jh_gd h
                  refine jr_ald (n := 8) hx hb hK hP jb_1 rfl g72 dX5_lane_72 ?_
                  refine lv_aload_n hx hb dX5_lane_73 rfl (lv_at hl 1 rfl) ?_
                  refine jr_get (k := 0) hx hb hts hown hK hP jb_0 (Nat.le_of_ble_eq_true rfl) jlX5_12 rfl dX5_lane_74 ?_
                  refine jr_get (k := 3) hx hb hts hown hK hP jb_1 (Nat.le_of_ble_eq_true rfl) jlX5_100 rfl dX5_lane_77 ?_
                  refine lv_iload_n hx hb dX5_lane_80 rfl (lv_at hl 4 rfl) ?_
                  obtain ⟨g81, h⟩ := jh_gd h
                  refine jr_ald (n := 8) hx hb hK hP jb_1 rfl g81 dX5_lane_81 ?_
                  refine jr_kp (jr_rs (As := [.int (M 1 3 (Int32.toNatClampNeg v2_2)), .int (M 1 3 (Int32.toNatClampNeg v3_4))]) (rest := []) S hN (m_X5_steps l (M 1 3 (Int32.toNatClampNeg v2_2)) (M 1 3 (Int32.toNatClampNeg v3_4)) _ rfl) jw_X5_steps js_X5_steps jmX5_204 rfl rfl ⟨(Nat.le_of_ble_eq_true rfl), (Nat.le_of_ble_eq_true rfl)⟩ rfl hl.1 rfl (Nat.le_of_ble_eq_true rfl) dX5_lane_82 ⟨Nat.zero_le _, Nat.zero_le _⟩) ?_
                  refine lv_iconst (v := 2) hx hb dX5_lane_85 jci_2 ?_
                  refine lv_icmp_gt (tgt := 92) hx hb dX5_lane_86 rfl (fun c86 => ?_) (fun c86 => ?_)
                  · replace h := jh_t h c86
                    refine lv_iinc (v := (v3_4 + 1)) (lv' := [(3, .int (v3_4 + 1)), (4, .int t0_4), (0, .ref (jO X 0)), (1, .int v1_4), (2, .int v2_2)]) hx hb dX5_lane_92 hl (k := 4) rfl (congrArg _ jci_1) (Nat.le_of_ble_eq_true rfl) rfl (fun ls hl => ?_)
                    refine lv_goto (tgt := 19) hx hb dX5_lane_95 rfl ?_
                    exact ih19 v1_4 (v3_4 + 1) _ h (lv_sub hl [2, 3, 4, 0] rfl)
                  · replace h := jh_f h c86
                    refine lv_iinc (v := (v1_4 + 1)) (lv' := [(1, .int (v1_4 + 1)), (4, .int t0_4), (0, .ref (jO X 0)), (2, .int v2_2), (3, .int v3_4)]) hx hb dX5_lane_89 hl (k := 2) rfl (congrArg _ jci_1) (Nat.le_of_ble_eq_true rfl) rfl (fun ls hl => ?_)
                    refine lv_iinc (v := (v3_4 + 1)) (lv' := [(3, .int (v3_4 + 1)), (1, .int (v1_4 + 1)), (4, .int t0_4), (0, .ref (jO X 0)), (2, .int v2_2)]) hx hb dX5_lane_92 hl (k := 4) rfl (congrArg _ jci_1) (Nat.le_of_ble_eq_true rfl) rfl (fun ls hl => ?_)
                    refine lv_goto (tgt := 19) hx hb dX5_lane_95 rfl ?_
                    exact ih19 (v1_4 + 1) (v3_4 + 1) _ h (lv_sub hl [3, 1, 4, 0] rfl)
              have J56 : ∀ (v1_6 : Int32) (v3_6 : Int32) (ls : Array Slot), f_X5_lane_j56 M (f_X5_lane_l4 M k_1) (f_X5_lane_l19 M (f_X5_lane_l4 M k_1) v2_2 k_2) v1_6 v2_2 v3_6 = some r → lv_has ls 5 [(0, .ref (jO X 0)), (1, .int v1_6), (2, .int v2_2), (3, .int v3_6)] → W p l e (jrm 2 42) s m args below meth c s.heap [] 0 0 (MQ below (jQ (.int r)) args s 0 0 (fun _ => False)) (F0 m 56 ls []) := by
                intro v1_6 v3_6 ls h hl
                refine lv_iconst (v := 0) hx hb dX5_lane_56 jci_0 ?_
                exact J57 v1_6 v3_6 0 _ h hl
              refine lv_if_eq (tgt := 56) hx hb dX5_lane_38 rfl (fun c38 => ?_) (fun c38 => ?_)
              · replace h := jh_t h c38
                exact J56 v1_2 v3_2 _ h hl
              · replace h := jh_f h c38
                refine lv_aload_n hx hb dX5_lane_41 rfl (lv_at hl 0 rfl) ?_
                refine jr_get (k := 0) hx hb hts hown hK hP jb_0 (Nat.le_of_ble_eq_true rfl) jlX5_12 rfl dX5_lane_42 ?_
                refine lv_iload_n hx hb dX5_lane_45 rfl (lv_at hl 3 rfl) ?_
                refine jr_kp (jr_rv (As := [.int v3_2]) (rest := []) S hK hP jb_1 rfl (m_X4_isLit l X M jb_1 v3_2 _ rfl) jw_X4_isLit ji_X4_isLit jmX5_103 rfl rfl ⟨(Nat.le_of_ble_eq_true rfl), (Nat.le_of_ble_eq_true rfl)⟩ rfl hl.1 rfl (Nat.le_of_ble_eq_true rfl) dX5_lane_46 ⟨Nat.zero_le _, Nat.zero_le _⟩) ?_
                refine lv_if_eq (tgt := 56) hx hb dX5_lane_49 rfl (fun c49 => ?_) (fun c49 => ?_)
                · replace h := jh_t h c49
                  exact J56 v1_2 v3_2 _ h hl
                · replace h := jh_f h c49
                  refine lv_iconst (v := 1) hx hb dX5_lane_52 jci_1 ?_
                  refine lv_goto (tgt := 57) hx hb dX5_lane_53 rfl ?_
                  exact J57 v1_2 v3_2 1 _ h hl
        exact L19 v2_1 10000 v1_1 (v2_1 + 1) _ h (lv_sub hl [1, 2, 3, 0] rfl)
  exact L4 10000 0 0 _ h (lv_sub hl [2, 1, 0] rfl)
def f_X5_oldest (M : jm) (v1 : Int32) : Option (Int32 × jm) := (if v1 = 0 then (jb (f_X5_highestAge M) fun r1 => (some ((if 0 < r1 then r1 else 0), M))) else (if v1 = 1 then (jb (f_X5_longestOwing M) fun r2 => (some (r2, M))) else (if v1 = 2 then (jb (f_X5_lane M) fun r3 => (some (r3, M))) else (if v1 = 3 then (some (((((1 : Int32) <<< ((M 1 0 0) &&& 31)) - 1) &&& ((M 1 4 0) ^^^ (-1))), M)) else (jb2 (f_X5_refuse M (-2)) fun r4 M_4 => (some (r4, M_4)))))))
set_option maxRecDepth 100000 in
theorem m_X5_oldest (l : Launch) (X : jX) (A : Nat → Prop) (hs : jst X A) (M : jm) (v1 : Int32) (r : Int32) (N : jm) (h : f_X5_oldest M v1 = some (r, N)) : Met l yX5_oldest (jws yX5_oldest cX5_oldest 2 (some .int)) (jrm 4 88) (va_Pc [.ref (jO X 0), .int v1] (jB X M)) (jQm X A (some (.int r)) N) 0 0 A := by
  refine jm_of (by decide) (Nat.le_of_ble_eq_true rfl) ?_
  intro p e s m args below meth c ls S hr hlocks hB hl
  have S : CallFix p m c cX5_oldest 2 s args jtb RX5 := S
  obtain ⟨hx, hb, hml, hown, hts⟩ := id S
  obtain ⟨hP, hK⟩ := hB
  have hN := hK.2
  have hS : va_S A s.heap s.heap [] := va_S.rf
  have hl : lv_has ls 2 [(0, .ref (jO X 0)), (1, .int v1)] := hl
  refine lv_iload_n hx hb dX5_oldest_0 rfl (lv_at hl 1 rfl) ?_
  by_cases c1_0 : v1 = 0
  · replace h := jh_t h c1_0
    refine lv_tableIn (off := 31) (tgt := 32) hx hb dX5_oldest_1 (by rw [c1_0]; decide) (by rw [c1_0]; decide) (by rw [c1_0]; rfl) rfl ?_
    refine lv_iconst (v := 0) hx hb dX5_oldest_32 jci_0 ?_
    refine lv_aload_n hx hb dX5_oldest_33 rfl (lv_at hl 0 rfl) ?_
    obtain ⟨r1, e1, h⟩ := jh_b h
    refine jr_kp (jr_rv (As := []) (rest := [.int 0]) S hK hP jb_0 rfl (m_X5_highestAge l X M  r1 e1) jw_X5_highestAge ji_X5_highestAge jmX5_272 rfl rfl ⟨(Nat.le_of_ble_eq_true rfl), (Nat.le_of_ble_eq_true rfl)⟩ rfl hl.1 rfl (Nat.le_of_ble_eq_true rfl) dX5_oldest_34 ⟨Nat.zero_le _, Nat.zero_le _⟩) ?_
    refine va_mmax hx hb (hml.trans hl.1.symm) hown (hts _ jmX5_275) (hts _ jstM_max) (hts _ jinM) (hts _ jcoM_max) (Nat.le_of_ble_eq_true rfl) (Nat.le_of_ble_eq_true rfl) (Nat.zero_le _) (Nat.zero_le _) dX5_oldest_37 ?_
    exact je_mi hx hb hr hlocks hK hP hS h dX5_oldest_40
  replace h := jh_f h c1_0
  by_cases c1_1 : v1 = 1
  · replace h := jh_t h c1_1
    refine lv_tableIn (off := 40) (tgt := 41) hx hb dX5_oldest_1 (by rw [c1_1]; decide) (by rw [c1_1]; decide) (by rw [c1_1]; rfl) rfl ?_
    refine lv_aload_n hx hb dX5_oldest_41 rfl (lv_at hl 0 rfl) ?_
    obtain ⟨r2, e2, h⟩ := jh_b h
    refine jr_kp (jr_rv (As := []) (rest := []) S hK hP jb_0 rfl (m_X5_longestOwing l X M  r2 e2) jw_X5_longestOwing ji_X5_longestOwing jmX5_280 rfl rfl ⟨(Nat.le_of_ble_eq_true rfl), (Nat.le_of_ble_eq_true rfl)⟩ rfl hl.1 rfl (Nat.le_of_ble_eq_true rfl) dX5_oldest_42 ⟨Nat.zero_le _, Nat.zero_le _⟩) ?_
    exact je_mi hx hb hr hlocks hK hP hS h dX5_oldest_45
  replace h := jh_f h c1_1
  by_cases c1_2 : v1 = 2
  · replace h := jh_t h c1_2
    refine lv_tableIn (off := 45) (tgt := 46) hx hb dX5_oldest_1 (by rw [c1_2]; decide) (by rw [c1_2]; decide) (by rw [c1_2]; rfl) rfl ?_
    refine lv_aload_n hx hb dX5_oldest_46 rfl (lv_at hl 0 rfl) ?_
    obtain ⟨r3, e3, h⟩ := jh_b h
    refine jr_kp (jr_rv (As := []) (rest := []) S hK hP jb_0 rfl (m_X5_lane l X M  r3 e3) jw_X5_lane ji_X5_lane jmX5_283 rfl rfl ⟨(Nat.le_of_ble_eq_true rfl), (Nat.le_of_ble_eq_true rfl)⟩ rfl hl.1 rfl (Nat.le_of_ble_eq_true rfl) dX5_oldest_47 ⟨Nat.zero_le _, Nat.zero_le _⟩) ?_
    exact je_mi hx hb hr hlocks hK hP hS h dX5_oldest_50
  replace h := jh_f h c1_2
  by_cases c1_3 : v1 = 3
  · replace h := jh_t h c1_3
    refine lv_tableIn (off := 50) (tgt := 51) hx hb dX5_oldest_1 (by rw [c1_3]; decide) (by rw [c1_3]; decide) (by rw [c1_3]; rfl) rfl ?_
    refine lv_iconst (v := 1) hx hb dX5_oldest_51 jci_1 ?_
    refine lv_aload_n hx hb dX5_oldest_52 rfl (lv_at hl 0 rfl) ?_
    refine jr_get (k := 0) hx hb hts hown hK hP jb_0 (Nat.le_of_ble_eq_true rfl) jlX5_12 rfl dX5_oldest_53 ?_
    refine jr_get (k := 0) hx hb hts hown hK hP jb_1 (Nat.le_of_ble_eq_true rfl) jlX5_148 rfl dX5_oldest_56 ?_
    refine lv_ishl hx hb dX5_oldest_59 ?_
    refine lv_iconst (v := 1) hx hb dX5_oldest_60 jci_1 ?_
    refine lv_isub hx hb dX5_oldest_61 ?_
    refine lv_aload_n hx hb dX5_oldest_62 rfl (lv_at hl 0 rfl) ?_
    refine jr_get (k := 0) hx hb hts hown hK hP jb_0 (Nat.le_of_ble_eq_true rfl) jlX5_12 rfl dX5_oldest_63 ?_
    refine jr_get (k := 4) hx hb hts hown hK hP jb_1 (Nat.le_of_ble_eq_true rfl) jlX5_286 rfl dX5_oldest_66 ?_
    refine lv_iconst (v := (-1)) hx hb dX5_oldest_69 jci_m1 ?_
    refine lv_ixor hx hb dX5_oldest_70 ?_
    refine lv_iand hx hb dX5_oldest_71 ?_
    exact je_mi hx hb hr hlocks hK hP hS h dX5_oldest_72
  replace h := jh_f h c1_3
  refine jr_tdef (ks := [0, 1, 2, 3]) (tgt := 73) hx hb dX5_oldest_1 (jsw_cons (jsw_ne c1_0 rfl) (jsw_cons (jsw_ne c1_1 rfl) (jsw_cons (jsw_ne c1_2 rfl) (jsw_cons (jsw_ne c1_3 rfl) (jsw_nil))))) (by decide) rfl ?_
  refine lv_aload_n hx hb dX5_oldest_73 rfl (lv_at hl 0 rfl) ?_
  refine lv_bipush (v := (-2)) hx hb dX5_oldest_74 jcb_m2 ?_
  obtain ⟨r4, M_4, e4, h⟩ := jh_b2 h
  refine jr_km (jr_rv (As := [.int (-2)]) (rest := []) S hK hP jb_0 rfl (m_X5_refuse l X A hs M (-2) r4 M_4 e4) jw_X5_refuse ji_X5_refuse jmX5_65 rfl rfl ⟨(Nat.le_of_ble_eq_true rfl), (Nat.le_of_ble_eq_true rfl)⟩ rfl hl.1 rfl (Nat.le_of_ble_eq_true rfl) dX5_oldest_76 ⟨Nat.zero_le _, Nat.zero_le _⟩) hS (fun H locs hP hS => ?_)
  exact je_mi hx hb hr hlocks hK hP hS h dX5_oldest_79
def f_X5_mean_l30 (v1_3 : Int32) (v2_3 : Int32) : Nat → jm → Int32 → Int32 → Option (Int64 × jm)
  | 0, _, _, _ => none
  | k_3 + 1, M_3, v3_3, v4_3 => (if (M_3 1 5 0) < v4_3 then (if v1_3 = 0 then (jgz v3_3 (some ((Int32.toInt64 (v2_3 / v3_3)), M_3))) else (jgz v3_3 (some ((Int32.toInt64 ((if 1 < (M_3 1 5 0) then (M_3 1 5 0) else 1) / v3_3)), M_3)))) else (jgz v4_3 (if (v2_3 - v2_3 / v4_3 * v4_3) = 0 then (jgz v4_3 (if ((M_3 1 5 0) - (M_3 1 5 0) / v4_3 * v4_3) = 0 then ((f_X5_mean_l30 v1_3 v2_3 k_3) M_3 v4_3 (v4_3 + 1)) else ((f_X5_mean_l30 v1_3 v2_3 k_3) M_3 v3_3 (v4_3 + 1)))) else ((f_X5_mean_l30 v1_3 v2_3 k_3) M_3 v3_3 (v4_3 + 1)))))
def f_X5_mean_j16 (M_1 : jm) (v1_1 : Int32) : Option (Int64 × jm) := (jb (f_X4_pricesBehind M_1 1 0) fun r2 => (f_X5_mean_l30 v1_1 r2 10000 M_1 1 2))
def f_X5_mean (M : jm) (v1 : Int32) : Option (Int64 × jm) := (if v1 = 0 then (f_X5_mean_j16 M v1) else (if v1 = 1 then (f_X5_mean_j16 M v1) else (jb2 (f_X5_refuseLong M (-2)) fun r4 M_4 => (some (r4, M_4)))))
set_option maxRecDepth 100000 in
theorem m_X5_mean (l : Launch) (X : jX) (A : Nat → Prop) (hs : jst X A) (M : jm) (v1 : Int32) (r : Int64) (N : jm) (h : f_X5_mean M v1 = some (r, N)) : Met l yX5_mean (jws yX5_mean cX5_mean 5 (some .long)) (jrm 6 143) (va_Pc [.ref (jO X 0), .int v1] (jB X M)) (jQm X A (some (.long r)) N) 0 0 A := by
  refine jm_of (by decide) (Nat.le_of_ble_eq_true rfl) ?_
  intro p e s m args below meth c ls S hr hlocks hB hl
  have S : CallFix p m c cX5_mean 5 s args jtb RX5 := S
  obtain ⟨hx, hb, hml, hown, hts⟩ := id S
  obtain ⟨hP, hK⟩ := hB
  have hN := hK.2
  have hS : va_S A s.heap s.heap [] := va_S.rf
  have hl : lv_has ls 5 [(0, .ref (jO X 0)), (1, .int v1)] := hl
  refine lv_iload_n hx hb dX5_mean_0 rfl (lv_at hl 1 rfl) ?_
  have J16 : ∀ (M_1 : jm) (H : Heap) (locs : List Loc) (v1_1 : Int32) (ls : Array Slot), f_X5_mean_j16 M_1 v1_1 = some (r, N) → jrp X M_1 H → va_S A s.heap H locs → lv_has ls 5 [(0, .ref (jO X 0)), (1, .int v1_1)] → W p l e (jrm 6 143) s m args below meth c H locs 0 0 (MQ below (jQm X A (some (.long r)) N) args s 0 0 A) (F0 m 16 ls []) := by
    intro M_1 H locs v1_1 ls h hP hS hl
    refine lv_aload_n hx hb dX5_mean_16 rfl (lv_at hl 0 rfl) ?_
    refine jr_get (k := 0) hx hb hts hown hK hP jb_0 (Nat.le_of_ble_eq_true rfl) jlX5_12 rfl dX5_mean_17 ?_
    refine lv_iconst (v := 0) hx hb dX5_mean_20 jci_0 ?_
    obtain ⟨r2, e2, h⟩ := jh_b h
    refine jr_kp (jr_rv (As := [.int 0]) (rest := []) S hK hP jb_1 rfl (m_X4_pricesBehind l X M_1 jb_1 0 r2 e2) jw_X4_pricesBehind ji_X4_pricesBehind jmX5_198 rfl rfl ⟨(Nat.le_of_ble_eq_true rfl), (Nat.le_of_ble_eq_true rfl)⟩ rfl hl.1 rfl (Nat.le_of_ble_eq_true rfl) dX5_mean_21 ⟨Nat.zero_le _, Nat.zero_le _⟩) ?_
    refine lv_istore_n (lv' := [(2, .int r2), (0, .ref (jO X 0)), (1, .int v1_1)]) hx hb dX5_mean_24 rfl hl (Nat.le_of_ble_eq_true rfl) rfl (fun ls hl => ?_)
    refine lv_iconst (v := 1) hx hb dX5_mean_25 jci_1 ?_
    refine lv_istore_n (lv' := [(3, .int 1), (2, .int r2), (0, .ref (jO X 0)), (1, .int v1_1)]) hx hb dX5_mean_26 rfl hl (Nat.le_of_ble_eq_true rfl) rfl (fun ls hl => ?_)
    refine lv_iconst (v := 2) hx hb dX5_mean_27 jci_2 ?_
    refine lv_istore (lv' := [(4, .int 2), (3, .int 1), (2, .int r2), (0, .ref (jO X 0)), (1, .int v1_1)]) hx hb dX5_mean_28 hl (Nat.le_of_ble_eq_true rfl) rfl (fun ls hl => ?_)
    have L30 : ∀ (v1_3 : Int32) (v2_3 : Int32) (k_3 : Nat) (M_3 : jm) (H : Heap) (locs : List Loc) (v3_3 : Int32) (v4_3 : Int32) (ls : Array Slot), f_X5_mean_l30 v1_3 v2_3 k_3 M_3 v3_3 v4_3 = some (r, N) → jrp X M_3 H → va_S A s.heap H locs → lv_has ls 5 [(0, .ref (jO X 0)), (1, .int v1_3), (2, .int v2_3), (3, .int v3_3), (4, .int v4_3)] → W p l e (jrm 6 143) s m args below meth c H locs 0 0 (MQ below (jQm X A (some (.long r)) N) args s 0 0 A) (F0 m 30 ls []) := by
      intro v1_3 v2_3 k_3
      induction k_3 with
      | zero => intro M_3 H locs v3_3 v4_3 ls h; exact jh_0 h
      | succ k_3 ih30 =>
        intro M_3 H locs v3_3 v4_3 ls h hP hS hl
        refine lv_iload hx hb dX5_mean_30 (lv_at hl 4 rfl) ?_
        refine lv_aload_n hx hb dX5_mean_32 rfl (lv_at hl 0 rfl) ?_
        refine jr_get (k := 0) hx hb hts hown hK hP jb_0 (Nat.le_of_ble_eq_true rfl) jlX5_12 rfl dX5_mean_33 ?_
        refine jr_get (k := 5) hx hb hts hown hK hP jb_1 (Nat.le_of_ble_eq_true rfl) jlX5_158 rfl dX5_mean_36 ?_
        refine lv_icmp_gt (tgt := 71) hx hb dX5_mean_39 rfl (fun c39 => ?_) (fun c39 => ?_)
        · replace h := jh_t h c39
          refine lv_iload_n hx hb dX5_mean_71 rfl (lv_at hl 1 rfl) ?_
          refine lv_if_ne (tgt := 82) hx hb dX5_mean_72 rfl (fun c72 => ?_) (fun c72 => ?_)
          · replace h := jh_f h c72
            refine lv_iconst (v := 1) hx hb dX5_mean_82 jci_1 ?_
            refine lv_aload_n hx hb dX5_mean_83 rfl (lv_at hl 0 rfl) ?_
            refine jr_get (k := 0) hx hb hts hown hK hP jb_0 (Nat.le_of_ble_eq_true rfl) jlX5_12 rfl dX5_mean_84 ?_
            refine jr_get (k := 5) hx hb hts hown hK hP jb_1 (Nat.le_of_ble_eq_true rfl) jlX5_158 rfl dX5_mean_87 ?_
            refine va_mmax hx hb (hml.trans hl.1.symm) hown (hts _ jmX5_275) (hts _ jstM_max) (hts _ jinM) (hts _ jcoM_max) (Nat.le_of_ble_eq_true rfl) (Nat.le_of_ble_eq_true rfl) (Nat.zero_le _) (Nat.zero_le _) dX5_mean_90 ?_
            refine lv_iload_n hx hb dX5_mean_93 rfl (lv_at hl 3 rfl) ?_
            obtain ⟨gz94, h⟩ := jh_gz h
            refine lv_idiv hx hb dX5_mean_94 gz94 ?_
            refine lv_i2l hx hb dX5_mean_95 rfl ?_
            exact je_ml hx hb hr hlocks hK hP hS h dX5_mean_96
          · replace h := jh_t h c72
            refine lv_iload_n hx hb dX5_mean_75 rfl (lv_at hl 2 rfl) ?_
            refine lv_iload_n hx hb dX5_mean_76 rfl (lv_at hl 3 rfl) ?_
            obtain ⟨gz77, h⟩ := jh_gz h
            refine lv_idiv hx hb dX5_mean_77 gz77 ?_
            refine lv_i2l hx hb dX5_mean_78 rfl ?_
            refine lv_goto (tgt := 96) hx hb dX5_mean_79 rfl ?_
            exact je_ml hx hb hr hlocks hK hP hS h dX5_mean_96
        · replace h := jh_f h c39
          refine lv_iload_n hx hb dX5_mean_42 rfl (lv_at hl 2 rfl) ?_
          refine lv_iload hx hb dX5_mean_43 (lv_at hl 4 rfl) ?_
          obtain ⟨gz45, h⟩ := jh_gz h
          refine lv_irem hx hb dX5_mean_45 gz45 ?_
          refine lv_if_ne (tgt := 65) hx hb dX5_mean_46 rfl (fun c46 => ?_) (fun c46 => ?_)
          · replace h := jh_f h c46
            refine lv_iinc (v := (v4_3 + 1)) (lv' := [(4, .int (v4_3 + 1)), (0, .ref (jO X 0)), (1, .int v1_3), (2, .int v2_3), (3, .int v3_3)]) hx hb dX5_mean_65 hl (k := 4) rfl (congrArg _ jci_1) (Nat.le_of_ble_eq_true rfl) rfl (fun ls hl => ?_)
            refine lv_goto (tgt := 30) hx hb dX5_mean_68 rfl ?_
            exact ih30 M_3 _ _ v3_3 (v4_3 + 1) _ h hP hS (lv_sub hl [1, 2, 3, 4, 0] rfl)
          · replace h := jh_t h c46
            refine lv_aload_n hx hb dX5_mean_49 rfl (lv_at hl 0 rfl) ?_
            refine jr_get (k := 0) hx hb hts hown hK hP jb_0 (Nat.le_of_ble_eq_true rfl) jlX5_12 rfl dX5_mean_50 ?_
            refine jr_get (k := 5) hx hb hts hown hK hP jb_1 (Nat.le_of_ble_eq_true rfl) jlX5_158 rfl dX5_mean_53 ?_
            refine lv_iload hx hb dX5_mean_56 (lv_at hl 4 rfl) ?_
            obtain ⟨gz58, h⟩ := jh_gz h
            refine lv_irem hx hb dX5_mean_58 gz58 ?_
            refine lv_if_ne (tgt := 65) hx hb dX5_mean_59 rfl (fun c59 => ?_) (fun c59 => ?_)
            · replace h := jh_f h c59
              refine lv_iinc (v := (v4_3 + 1)) (lv' := [(4, .int (v4_3 + 1)), (0, .ref (jO X 0)), (1, .int v1_3), (2, .int v2_3), (3, .int v3_3)]) hx hb dX5_mean_65 hl (k := 4) rfl (congrArg _ jci_1) (Nat.le_of_ble_eq_true rfl) rfl (fun ls hl => ?_)
              refine lv_goto (tgt := 30) hx hb dX5_mean_68 rfl ?_
              exact ih30 M_3 _ _ v3_3 (v4_3 + 1) _ h hP hS (lv_sub hl [1, 2, 3, 4, 0] rfl)
            · replace h := jh_t h c59
              refine lv_iload hx hb dX5_mean_62 (lv_at hl 4 rfl) ?_
              refine lv_istore_n (lv' := [(3, .int v4_3), (0, .ref (jO X 0)), (1, .int v1_3), (2, .int v2_3), (4, .int v4_3)]) hx hb dX5_mean_64 rfl hl (Nat.le_of_ble_eq_true rfl) rfl (fun ls hl => ?_)
              refine lv_iinc (v := (v4_3 + 1)) (lv' := [(4, .int (v4_3 + 1)), (3, .int v4_3), (0, .ref (jO X 0)), (1, .int v1_3), (2, .int v2_3)]) hx hb dX5_mean_65 hl (k := 4) rfl (congrArg _ jci_1) (Nat.le_of_ble_eq_true rfl) rfl (fun ls hl => ?_)
              refine lv_goto (tgt := 30) hx hb dX5_mean_68 rfl ?_
              exact ih30 M_3 _ _ v4_3 (v4_3 + 1) _ h hP hS (lv_sub hl [2, 3, 4, 1, 0] rfl)
    exact L30 v1_1 r2 10000 M_1 _ _ 1 2 _ h hP hS (lv_sub hl [3, 4, 2, 1, 0] rfl)
  refine lv_if_eq (tgt := 16) hx hb dX5_mean_1 rfl (fun c1 => ?_) (fun c1 => ?_)
  · replace h := jh_t h c1
    exact J16 M _ _ v1 _ h hP hS hl
  · replace h := jh_f h c1
    refine lv_iload_n hx hb dX5_mean_4 rfl (lv_at hl 1 rfl) ?_
    refine lv_iconst (v := 1) hx hb dX5_mean_5 jci_1 ?_
    refine lv_icmp_eq (tgt := 16) hx hb dX5_mean_6 rfl (fun c6 => ?_) (fun c6 => ?_)
    · replace h := jh_t h c6
      exact J16 M _ _ v1 _ h hP hS hl
    · replace h := jh_f h c6
      refine lv_aload_n hx hb dX5_mean_9 rfl (lv_at hl 0 rfl) ?_
      refine lv_bipush (v := (-2)) hx hb dX5_mean_10 jcb_m2 ?_
      obtain ⟨r4, M_4, e4, h⟩ := jh_b2 h
      refine jr_km (jr_rv (As := [.int (-2)]) (rest := []) S hK hP jb_0 rfl (m_X5_refuseLong l X A hs M (-2) r4 M_4 e4) jw_X5_refuseLong ji_X5_refuseLong jmX5_265 rfl rfl ⟨(Nat.le_of_ble_eq_true rfl), (Nat.le_of_ble_eq_true rfl)⟩ rfl hl.1 rfl (Nat.le_of_ble_eq_true rfl) dX5_mean_12 ⟨Nat.zero_le _, Nat.zero_le _⟩) hS (fun H locs hP hS => ?_)
      exact je_ml hx hb hr hlocks hK hP hS h dX5_mean_15
def f_X5_forgiven_l17 (M : jm) (K4_2 : Int32 → Int32 → Option Int32) (v2_2 : Int32) : Nat → Int32 → Int32 → Option Int32
  | 0, _, _ => none
  | k_2 + 1, v1_2, v3_2 => (if (M 1 0 0) ≤ v3_2 then (K4_2 v1_2 (v2_2 + 1)) else (jb (f_X4_owes M 1 v2_2 v3_2) fun r3 => (if r3 = 0 then ((f_X5_forgiven_l17 M K4_2 v2_2 k_2) v1_2 (v3_2 + 1)) else (jb (f_X4_minutesBehind M 1 v2_2 v3_2 0) fun r4 => (jb (f_X4_minutesOf M 1 v3_2 0) fun r5 => ((f_X5_forgiven_l17 M K4_2 v2_2 k_2) (v1_2 + (r4 - r5)) (v3_2 + 1)))))))
def f_X5_forgiven_l4 (M : jm) : Nat → Int32 → Int32 → Option Int32
  | 0, _, _ => none
  | k_1 + 1, v1_1, v2_1 => (if (M 1 5 0) ≤ v2_1 then (some v1_1) else (f_X5_forgiven_l17 M (f_X5_forgiven_l4 M k_1) v2_1 10000 v1_1 0))
def f_X5_forgiven (M : jm) : Option Int32 := (f_X5_forgiven_l4 M 10000 0 0)
set_option maxRecDepth 100000 in
theorem m_X5_forgiven (l : Launch) (X : jX) (M : jm) (r : Int32) (h : f_X5_forgiven M = some r) : Met l yX5_forgiven (jws yX5_forgiven cX5_forgiven 4 (some .int)) (jrm 5 119) (va_Pc [.ref (jO X 0)] (jB X M)) (jQ (.int r)) 0 0 (fun _ => False) := by
  refine jm_of (by decide) (Nat.le_of_ble_eq_true rfl) ?_
  intro p e s m args below meth c ls S hr hlocks hB hl
  have S : CallFix p m c cX5_forgiven 4 s args jtb RX5 := S
  obtain ⟨hx, hb, hml, hown, hts⟩ := id S
  obtain ⟨hP, hK⟩ := hB
  have hN := hK.2
  have hl : lv_has ls 4 [(0, .ref (jO X 0))] := hl
  refine lv_iconst (v := 0) hx hb dX5_forgiven_0 jci_0 ?_
  refine lv_istore_n (lv' := [(1, .int 0), (0, .ref (jO X 0))]) hx hb dX5_forgiven_1 rfl hl (Nat.le_of_ble_eq_true rfl) rfl (fun ls hl => ?_)
  refine lv_iconst (v := 0) hx hb dX5_forgiven_2 jci_0 ?_
  refine lv_istore_n (lv' := [(2, .int 0), (1, .int 0), (0, .ref (jO X 0))]) hx hb dX5_forgiven_3 rfl hl (Nat.le_of_ble_eq_true rfl) rfl (fun ls hl => ?_)
  have L4 : ∀ (k_1 : Nat) (v1_1 : Int32) (v2_1 : Int32) (ls : Array Slot), f_X5_forgiven_l4 M k_1 v1_1 v2_1 = some r → lv_has ls 4 [(0, .ref (jO X 0)), (1, .int v1_1), (2, .int v2_1)] → W p l e (jrm 5 119) s m args below meth c s.heap [] 0 0 (MQ below (jQ (.int r)) args s 0 0 (fun _ => False)) (F0 m 4 ls []) := by
    intro k_1
    induction k_1 with
    | zero => intro v1_1 v2_1 ls h; exact jh_0 h
    | succ k_1 ih4 =>
      intro v1_1 v2_1 ls h hl
      refine lv_iload_n hx hb dX5_forgiven_4 rfl (lv_at hl 2 rfl) ?_
      refine lv_aload_n hx hb dX5_forgiven_5 rfl (lv_at hl 0 rfl) ?_
      refine jr_get (k := 0) hx hb hts hown hK hP jb_0 (Nat.le_of_ble_eq_true rfl) jlX5_12 rfl dX5_forgiven_6 ?_
      refine jr_get (k := 5) hx hb hts hown hK hP jb_1 (Nat.le_of_ble_eq_true rfl) jlX5_158 rfl dX5_forgiven_9 ?_
      refine lv_icmp_ge (tgt := 78) hx hb dX5_forgiven_12 rfl (fun c12 => ?_) (fun c12 => ?_)
      · replace h := jh_t h c12
        refine lv_iload_n hx hb dX5_forgiven_78 rfl (lv_at hl 1 rfl) ?_
        exact je_i hx hb hr hlocks (Option.some.inj h) dX5_forgiven_79
      · replace h := jh_f h c12
        refine lv_iconst (v := 0) hx hb dX5_forgiven_15 jci_0 ?_
        refine lv_istore_n (lv' := [(3, .int 0), (0, .ref (jO X 0)), (1, .int v1_1), (2, .int v2_1)]) hx hb dX5_forgiven_16 rfl hl (Nat.le_of_ble_eq_true rfl) rfl (fun ls hl => ?_)
        have L17 : ∀ (v2_2 : Int32) (k_2 : Nat) (v1_2 : Int32) (v3_2 : Int32) (ls : Array Slot), f_X5_forgiven_l17 M (f_X5_forgiven_l4 M k_1) v2_2 k_2 v1_2 v3_2 = some r → lv_has ls 4 [(0, .ref (jO X 0)), (1, .int v1_2), (2, .int v2_2), (3, .int v3_2)] → W p l e (jrm 5 119) s m args below meth c s.heap [] 0 0 (MQ below (jQ (.int r)) args s 0 0 (fun _ => False)) (F0 m 17 ls []) := by
          intro v2_2 k_2
          induction k_2 with
          | zero => intro v1_2 v3_2 ls h; exact jh_0 h
          | succ k_2 ih17 =>
            intro v1_2 v3_2 ls h hl
            refine lv_iload_n hx hb dX5_forgiven_17 rfl (lv_at hl 3 rfl) ?_
            refine lv_aload_n hx hb dX5_forgiven_18 rfl (lv_at hl 0 rfl) ?_
            refine jr_get (k := 0) hx hb hts hown hK hP jb_0 (Nat.le_of_ble_eq_true rfl) jlX5_12 rfl dX5_forgiven_19 ?_
            refine jr_get (k := 0) hx hb hts hown hK hP jb_1 (Nat.le_of_ble_eq_true rfl) jlX5_148 rfl dX5_forgiven_22 ?_
            refine lv_icmp_ge (tgt := 72) hx hb dX5_forgiven_25 rfl (fun c25 => ?_) (fun c25 => ?_)
            · replace h := jh_t h c25
              refine lv_iinc (v := (v2_2 + 1)) (lv' := [(2, .int (v2_2 + 1)), (0, .ref (jO X 0)), (1, .int v1_2), (3, .int v3_2)]) hx hb dX5_forgiven_72 hl (k := 2) rfl (congrArg _ jci_1) (Nat.le_of_ble_eq_true rfl) rfl (fun ls hl => ?_)
              refine lv_goto (tgt := 4) hx hb dX5_forgiven_75 rfl ?_
              exact ih4 v1_2 (v2_2 + 1) _ h (lv_sub hl [1, 2, 0] rfl)
            · replace h := jh_f h c25
              refine lv_aload_n hx hb dX5_forgiven_28 rfl (lv_at hl 0 rfl) ?_
              refine jr_get (k := 0) hx hb hts hown hK hP jb_0 (Nat.le_of_ble_eq_true rfl) jlX5_12 rfl dX5_forgiven_29 ?_
              refine lv_iload_n hx hb dX5_forgiven_32 rfl (lv_at hl 2 rfl) ?_
              refine lv_iload_n hx hb dX5_forgiven_33 rfl (lv_at hl 3 rfl) ?_
              obtain ⟨r3, e3, h⟩ := jh_b h
              refine jr_kp (jr_rv (As := [.int v2_2, .int v3_2]) (rest := []) S hK hP jb_1 rfl (m_X4_owes l X M jb_1 v2_2 v3_2 r3 e3) jw_X4_owes ji_X4_owes jmX5_140 rfl rfl ⟨(Nat.le_of_ble_eq_true rfl), (Nat.le_of_ble_eq_true rfl)⟩ rfl hl.1 rfl (Nat.le_of_ble_eq_true rfl) dX5_forgiven_34 ⟨Nat.zero_le _, Nat.zero_le _⟩) ?_
              refine lv_if_ne (tgt := 43) hx hb dX5_forgiven_37 rfl (fun c37 => ?_) (fun c37 => ?_)
              · replace h := jh_f h c37
                refine lv_iload_n hx hb dX5_forgiven_43 rfl (lv_at hl 1 rfl) ?_
                refine lv_aload_n hx hb dX5_forgiven_44 rfl (lv_at hl 0 rfl) ?_
                refine jr_get (k := 0) hx hb hts hown hK hP jb_0 (Nat.le_of_ble_eq_true rfl) jlX5_12 rfl dX5_forgiven_45 ?_
                refine lv_iload_n hx hb dX5_forgiven_48 rfl (lv_at hl 2 rfl) ?_
                refine lv_iload_n hx hb dX5_forgiven_49 rfl (lv_at hl 3 rfl) ?_
                refine lv_iconst (v := 0) hx hb dX5_forgiven_50 jci_0 ?_
                obtain ⟨r4, e4, h⟩ := jh_b h
                refine jr_kp (jr_rv (As := [.int v2_2, .int v3_2, .int 0]) (rest := [.int v1_2]) S hK hP jb_1 rfl (m_X4_minutesBehind l X M jb_1 v2_2 v3_2 0 r4 e4) jw_X4_minutesBehind ji_X4_minutesBehind jmX5_173 rfl rfl ⟨(Nat.le_of_ble_eq_true rfl), (Nat.le_of_ble_eq_true rfl)⟩ rfl hl.1 rfl (Nat.le_of_ble_eq_true rfl) dX5_forgiven_51 ⟨Nat.zero_le _, Nat.zero_le _⟩) ?_
                refine lv_aload_n hx hb dX5_forgiven_54 rfl (lv_at hl 0 rfl) ?_
                refine jr_get (k := 0) hx hb hts hown hK hP jb_0 (Nat.le_of_ble_eq_true rfl) jlX5_12 rfl dX5_forgiven_55 ?_
                refine lv_iload_n hx hb dX5_forgiven_58 rfl (lv_at hl 3 rfl) ?_
                refine lv_iconst (v := 0) hx hb dX5_forgiven_59 jci_0 ?_
                obtain ⟨r5, e5, h⟩ := jh_b h
                refine jr_kp (jr_rv (As := [.int v3_2, .int 0]) (rest := [.int r4, .int v1_2]) S hK hP jb_1 rfl (m_X4_minutesOf l X M jb_1 v3_2 0 r5 e5) jw_X4_minutesOf ji_X4_minutesOf jmX5_110 rfl rfl ⟨(Nat.le_of_ble_eq_true rfl), (Nat.le_of_ble_eq_true rfl)⟩ rfl hl.1 rfl (Nat.le_of_ble_eq_true rfl) dX5_forgiven_60 ⟨Nat.zero_le _, Nat.zero_le _⟩) ?_
                refine lv_isub hx hb dX5_forgiven_63 ?_
                refine lv_iadd hx hb dX5_forgiven_64 ?_
                refine lv_istore_n (lv' := [(1, .int (v1_2 + (r4 - r5))), (0, .ref (jO X 0)), (2, .int v2_2), (3, .int v3_2)]) hx hb dX5_forgiven_65 rfl hl (Nat.le_of_ble_eq_true rfl) rfl (fun ls hl => ?_)
                refine lv_iinc (v := (v3_2 + 1)) (lv' := [(3, .int (v3_2 + 1)), (1, .int (v1_2 + (r4 - r5))), (0, .ref (jO X 0)), (2, .int v2_2)]) hx hb dX5_forgiven_66 hl (k := 3) rfl (congrArg _ jci_1) (Nat.le_of_ble_eq_true rfl) rfl (fun ls hl => ?_)
                refine lv_goto (tgt := 17) hx hb dX5_forgiven_69 rfl ?_
                exact ih17 (v1_2 + (r4 - r5)) (v3_2 + 1) _ h (lv_sub hl [2, 1, 3, 0] rfl)
              · replace h := jh_t h c37
                refine lv_goto (tgt := 66) hx hb dX5_forgiven_40 rfl ?_
                refine lv_iinc (v := (v3_2 + 1)) (lv' := [(3, .int (v3_2 + 1)), (0, .ref (jO X 0)), (1, .int v1_2), (2, .int v2_2)]) hx hb dX5_forgiven_66 hl (k := 3) rfl (congrArg _ jci_1) (Nat.le_of_ble_eq_true rfl) rfl (fun ls hl => ?_)
                refine lv_goto (tgt := 17) hx hb dX5_forgiven_69 rfl ?_
                exact ih17 v1_2 (v3_2 + 1) _ h (lv_sub hl [1, 2, 3, 0] rfl)
        exact L17 v2_1 10000 v1_1 0 _ h (lv_sub hl [1, 2, 3, 0] rfl)
  exact L4 10000 0 0 _ h (lv_sub hl [2, 1, 0] rfl)
def f_X5_nearest_l26 (v1_2 : Int32) : Nat → jm → Int32 → Int32 → Int32 → Option (Int32 × jm)
  | 0, _, _, _, _ => none
  | k_2 + 1, M_2, v2_2, v3_2, v4_2 => (if (M_2 1 0 0) ≤ v4_2 then (some (v2_2, M_2)) else (jgd v1_2 6 (jgd v4_2 8 (jb (f_X4_owes M_2 1 v1_2 v4_2) fun r4 => (if r4 = 0 then ((f_X5_nearest_l26 v1_2 k_2) M_2 v2_2 v3_2 (v4_2 + 1)) else (if v3_2 ≤ (f_X5_steps (M_2 1 6 (Int32.toNatClampNeg v1_2)) (M_2 1 3 (Int32.toNatClampNeg v4_2))) then ((f_X5_nearest_l26 v1_2 k_2) M_2 v2_2 v3_2 (v4_2 + 1)) else ((f_X5_nearest_l26 v1_2 k_2) M_2 v4_2 (f_X5_steps (M_2 1 6 (Int32.toNatClampNeg v1_2)) (M_2 1 3 (Int32.toNatClampNeg v4_2))) (v4_2 + 1))))))))
def f_X5_nearest (M : jm) (v1 : Int32) : Option (Int32 × jm) := (if (f_X4_hasWalker M 1 v1) = 0 then (jb2 (f_X5_refuse M (-1)) fun r5 M_5 => (some (r5, M_5))) else (f_X5_nearest_l26 v1 10000 M (-9) 49 0))
set_option maxRecDepth 100000 in
theorem m_X5_nearest (l : Launch) (X : jX) (A : Nat → Prop) (hs : jst X A) (M : jm) (v1 : Int32) (r : Int32) (N : jm) (h : f_X5_nearest M v1 = some (r, N)) : Met l yX5_nearest (jws yX5_nearest cX5_nearest 6 (some .int)) (jrm 2 42) (va_Pc [.ref (jO X 0), .int v1] (jB X M)) (jQm X A (some (.int r)) N) 0 0 A := by
  refine jm_of (by decide) (Nat.le_of_ble_eq_true rfl) ?_
  intro p e s m args below meth c ls S hr hlocks hB hl
  have S : CallFix p m c cX5_nearest 6 s args jtb RX5 := S
  obtain ⟨hx, hb, hml, hown, hts⟩ := id S
  obtain ⟨hP, hK⟩ := hB
  have hN := hK.2
  have hS : va_S A s.heap s.heap [] := va_S.rf
  have hl : lv_has ls 6 [(0, .ref (jO X 0)), (1, .int v1)] := hl
  refine lv_aload_n hx hb dX5_nearest_0 rfl (lv_at hl 0 rfl) ?_
  refine jr_get (k := 0) hx hb hts hown hK hP jb_0 (Nat.le_of_ble_eq_true rfl) jlX5_12 rfl dX5_nearest_1 ?_
  refine lv_iload_n hx hb dX5_nearest_4 rfl (lv_at hl 1 rfl) ?_
  refine jr_kp (jr_rv (As := [.int v1]) (rest := []) S hK hP jb_1 rfl (m_X4_hasWalker l X M jb_1 v1 _ rfl) jw_X4_hasWalker ji_X4_hasWalker jmX5_119 rfl rfl ⟨(Nat.le_of_ble_eq_true rfl), (Nat.le_of_ble_eq_true rfl)⟩ rfl hl.1 rfl (Nat.le_of_ble_eq_true rfl) dX5_nearest_5 ⟨Nat.zero_le _, Nat.zero_le _⟩) ?_
  refine lv_if_ne (tgt := 17) hx hb dX5_nearest_8 rfl (fun c8 => ?_) (fun c8 => ?_)
  · replace h := jh_f h c8
    refine lv_bipush (v := (-9)) hx hb dX5_nearest_17 jcb_m9 ?_
    refine lv_istore_n (lv' := [(2, .int (-9)), (0, .ref (jO X 0)), (1, .int v1)]) hx hb dX5_nearest_19 rfl hl (Nat.le_of_ble_eq_true rfl) rfl (fun ls hl => ?_)
    refine lv_bipush (v := 49) hx hb dX5_nearest_20 jcb_49 ?_
    refine lv_istore_n (lv' := [(3, .int 49), (2, .int (-9)), (0, .ref (jO X 0)), (1, .int v1)]) hx hb dX5_nearest_22 rfl hl (Nat.le_of_ble_eq_true rfl) rfl (fun ls hl => ?_)
    refine lv_iconst (v := 0) hx hb dX5_nearest_23 jci_0 ?_
    refine lv_istore (lv' := [(4, .int 0), (3, .int 49), (2, .int (-9)), (0, .ref (jO X 0)), (1, .int v1)]) hx hb dX5_nearest_24 hl (Nat.le_of_ble_eq_true rfl) rfl (fun ls hl => ?_)
    have L26 : ∀ (v1_2 : Int32) (k_2 : Nat) (M_2 : jm) (H : Heap) (locs : List Loc) (v2_2 : Int32) (v3_2 : Int32) (v4_2 : Int32) (ls : Array Slot), f_X5_nearest_l26 v1_2 k_2 M_2 v2_2 v3_2 v4_2 = some (r, N) → jrp X M_2 H → va_S A s.heap H locs → lv_has ls 6 [(0, .ref (jO X 0)), (1, .int v1_2), (2, .int v2_2), (3, .int v3_2), (4, .int v4_2)] → W p l e (jrm 2 42) s m args below meth c H locs 0 0 (MQ below (jQm X A (some (.int r)) N) args s 0 0 A) (F0 m 26 ls []) := by
      intro v1_2 k_2
      induction k_2 with
      | zero => intro M_2 H locs v2_2 v3_2 v4_2 ls h; exact jh_0 h
      | succ k_2 ih26 =>
        intro M_2 H locs v2_2 v3_2 v4_2 ls h hP hS hl
        refine lv_iload hx hb dX5_nearest_26 (lv_at hl 4 rfl) ?_
        refine lv_aload_n hx hb dX5_nearest_28 rfl (lv_at hl 0 rfl) ?_
        refine jr_get (k := 0) hx hb hts hown hK hP jb_0 (Nat.le_of_ble_eq_true rfl) jlX5_12 rfl dX5_nearest_29 ?_
        refine jr_get (k := 0) hx hb hts hown hK hP jb_1 (Nat.le_of_ble_eq_true rfl) jlX5_148 rfl dX5_nearest_32 ?_
        refine lv_icmp_ge (tgt := 93) hx hb dX5_nearest_35 rfl (fun c35 => ?_) (fun c35 => ?_)
        · replace h := jh_t h c35
          refine lv_iload_n hx hb dX5_nearest_93 rfl (lv_at hl 2 rfl) ?_
          exact je_mi hx hb hr hlocks hK hP hS h dX5_nearest_94
        · replace h := jh_f h c35
          refine lv_aload_n hx hb dX5_nearest_38 rfl (lv_at hl 0 rfl) ?_
          refine jr_get (k := 0) hx hb hts hown hK hP jb_0 (Nat.le_of_ble_eq_true rfl) jlX5_12 rfl dX5_nearest_39 ?_
          refine jr_get (k := 6) hx hb hts hown hK hP jb_1 (Nat.le_of_ble_eq_true rfl) jlX5_122 rfl dX5_nearest_42 ?_
          refine lv_iload_n hx hb dX5_nearest_45 rfl (lv_at hl 1 rfl) ?_
          obtain ⟨g46, h⟩ := jh_gd h
          refine jr_ald (n := 6) hx hb hK hP jb_1 rfl g46 dX5_nearest_46 ?_
          refine lv_aload_n hx hb dX5_nearest_47 rfl (lv_at hl 0 rfl) ?_
          refine jr_get (k := 0) hx hb hts hown hK hP jb_0 (Nat.le_of_ble_eq_true rfl) jlX5_12 rfl dX5_nearest_48 ?_
          refine jr_get (k := 3) hx hb hts hown hK hP jb_1 (Nat.le_of_ble_eq_true rfl) jlX5_100 rfl dX5_nearest_51 ?_
          refine lv_iload hx hb dX5_nearest_54 (lv_at hl 4 rfl) ?_
          obtain ⟨g56, h⟩ := jh_gd h
          refine jr_ald (n := 8) hx hb hK hP jb_1 rfl g56 dX5_nearest_56 ?_
          refine jr_kp (jr_rs (As := [.int (M_2 1 6 (Int32.toNatClampNeg v1_2)), .int (M_2 1 3 (Int32.toNatClampNeg v4_2))]) (rest := []) S hN (m_X5_steps l (M_2 1 6 (Int32.toNatClampNeg v1_2)) (M_2 1 3 (Int32.toNatClampNeg v4_2)) _ rfl) jw_X5_steps js_X5_steps jmX5_204 rfl rfl ⟨(Nat.le_of_ble_eq_true rfl), (Nat.le_of_ble_eq_true rfl)⟩ rfl hl.1 rfl (Nat.le_of_ble_eq_true rfl) dX5_nearest_57 ⟨Nat.zero_le _, Nat.zero_le _⟩) ?_
          refine lv_istore (lv' := [(5, .int (f_X5_steps (M_2 1 6 (Int32.toNatClampNeg v1_2)) (M_2 1 3 (Int32.toNatClampNeg v4_2)))), (0, .ref (jO X 0)), (1, .int v1_2), (2, .int v2_2), (3, .int v3_2), (4, .int v4_2)]) hx hb dX5_nearest_60 hl (Nat.le_of_ble_eq_true rfl) rfl (fun ls hl => ?_)
          refine lv_aload_n hx hb dX5_nearest_62 rfl (lv_at hl 1 rfl) ?_
          refine jr_get (k := 0) hx hb hts hown hK hP jb_0 (Nat.le_of_ble_eq_true rfl) jlX5_12 rfl dX5_nearest_63 ?_
          refine lv_iload_n hx hb dX5_nearest_66 rfl (lv_at hl 2 rfl) ?_
          refine lv_iload hx hb dX5_nearest_67 (lv_at hl 5 rfl) ?_
          obtain ⟨r4, e4, h⟩ := jh_b h
          refine jr_kp (jr_rv (As := [.int v1_2, .int v4_2]) (rest := []) S hK hP jb_1 rfl (m_X4_owes l X M_2 jb_1 v1_2 v4_2 r4 e4) jw_X4_owes ji_X4_owes jmX5_140 rfl rfl ⟨(Nat.le_of_ble_eq_true rfl), (Nat.le_of_ble_eq_true rfl)⟩ rfl hl.1 rfl (Nat.le_of_ble_eq_true rfl) dX5_nearest_69 ⟨Nat.zero_le _, Nat.zero_le _⟩) ?_
          refine lv_if_eq (tgt := 87) hx hb dX5_nearest_72 rfl (fun c72 => ?_) (fun c72 => ?_)
          · replace h := jh_t h c72
            refine lv_iinc (v := (v4_2 + 1)) (lv' := [(4, .int (v4_2 + 1)), (5, .int (f_X5_steps (M_2 1 6 (Int32.toNatClampNeg v1_2)) (M_2 1 3 (Int32.toNatClampNeg v4_2)))), (0, .ref (jO X 0)), (1, .int v1_2), (2, .int v2_2), (3, .int v3_2)]) hx hb dX5_nearest_87 hl (k := 5) rfl (congrArg _ jci_1) (Nat.le_of_ble_eq_true rfl) rfl (fun ls hl => ?_)
            refine lv_goto (tgt := 26) hx hb dX5_nearest_90 rfl ?_
            exact ih26 M_2 _ _ v2_2 v3_2 (v4_2 + 1) _ h hP hS (lv_sub hl [2, 3, 4, 5, 0] rfl)
          · replace h := jh_f h c72
            refine lv_iload hx hb dX5_nearest_75 (lv_at hl 0 rfl) ?_
            refine lv_iload_n hx hb dX5_nearest_77 rfl (lv_at hl 4 rfl) ?_
            refine lv_icmp_ge (tgt := 87) hx hb dX5_nearest_78 rfl (fun c78 => ?_) (fun c78 => ?_)
            · replace h := jh_t h c78
              refine lv_iinc (v := (v4_2 + 1)) (lv' := [(4, .int (v4_2 + 1)), (5, .int (f_X5_steps (M_2 1 6 (Int32.toNatClampNeg v1_2)) (M_2 1 3 (Int32.toNatClampNeg v4_2)))), (0, .ref (jO X 0)), (1, .int v1_2), (2, .int v2_2), (3, .int v3_2)]) hx hb dX5_nearest_87 hl (k := 5) rfl (congrArg _ jci_1) (Nat.le_of_ble_eq_true rfl) rfl (fun ls hl => ?_)
              refine lv_goto (tgt := 26) hx hb dX5_nearest_90 rfl ?_
              exact ih26 M_2 _ _ v2_2 v3_2 (v4_2 + 1) _ h hP hS (lv_sub hl [2, 3, 4, 5, 0] rfl)
            · replace h := jh_f h c78
              refine lv_iload hx hb dX5_nearest_81 (lv_at hl 0 rfl) ?_
              refine lv_istore_n (lv' := [(3, .int (f_X5_steps (M_2 1 6 (Int32.toNatClampNeg v1_2)) (M_2 1 3 (Int32.toNatClampNeg v4_2)))), (5, .int (f_X5_steps (M_2 1 6 (Int32.toNatClampNeg v1_2)) (M_2 1 3 (Int32.toNatClampNeg v4_2)))), (0, .ref (jO X 0)), (1, .int v1_2), (2, .int v2_2), (4, .int v4_2)]) hx hb dX5_nearest_83 rfl hl (Nat.le_of_ble_eq_true rfl) rfl (fun ls hl => ?_)
              refine lv_iload hx hb dX5_nearest_84 (lv_at hl 5 rfl) ?_
              refine lv_istore_n (lv' := [(2, .int v4_2), (3, .int (f_X5_steps (M_2 1 6 (Int32.toNatClampNeg v1_2)) (M_2 1 3 (Int32.toNatClampNeg v4_2)))), (5, .int (f_X5_steps (M_2 1 6 (Int32.toNatClampNeg v1_2)) (M_2 1 3 (Int32.toNatClampNeg v4_2)))), (0, .ref (jO X 0)), (1, .int v1_2), (4, .int v4_2)]) hx hb dX5_nearest_86 rfl hl (Nat.le_of_ble_eq_true rfl) rfl (fun ls hl => ?_)
              refine lv_iinc (v := (v4_2 + 1)) (lv' := [(4, .int (v4_2 + 1)), (2, .int v4_2), (3, .int (f_X5_steps (M_2 1 6 (Int32.toNatClampNeg v1_2)) (M_2 1 3 (Int32.toNatClampNeg v4_2)))), (5, .int (f_X5_steps (M_2 1 6 (Int32.toNatClampNeg v1_2)) (M_2 1 3 (Int32.toNatClampNeg v4_2)))), (0, .ref (jO X 0)), (1, .int v1_2)]) hx hb dX5_nearest_87 hl (k := 5) rfl (congrArg _ jci_1) (Nat.le_of_ble_eq_true rfl) rfl (fun ls hl => ?_)
              refine lv_goto (tgt := 26) hx hb dX5_nearest_90 rfl ?_
              exact ih26 M_2 _ _ v4_2 (f_X5_steps (M_2 1 6 (Int32.toNatClampNeg v1_2)) (M_2 1 3 (Int32.toNatClampNeg v4_2))) (v4_2 + 1) _ h hP hS (lv_sub hl [4, 5, 1, 2, 0] rfl)
    exact L26 v1 10000 M _ _ (-9) 49 0 _ h hP hS (lv_sub hl [3, 4, 2, 1, 0] rfl)
  · replace h := jh_t h c8
    refine lv_aload_n hx hb dX5_nearest_11 rfl (lv_at hl 0 rfl) ?_
    refine lv_iconst (v := (-1)) hx hb dX5_nearest_12 jci_m1 ?_
    obtain ⟨r5, M_5, e5, h⟩ := jh_b2 h
    refine jr_km (jr_rv (As := [.int (-1)]) (rest := []) S hK hP jb_0 rfl (m_X5_refuse l X A hs M (-1) r5 M_5 e5) jw_X5_refuse ji_X5_refuse jmX5_65 rfl rfl ⟨(Nat.le_of_ble_eq_true rfl), (Nat.le_of_ble_eq_true rfl)⟩ rfl hl.1 rfl (Nat.le_of_ble_eq_true rfl) dX5_nearest_13 ⟨Nat.zero_le _, Nat.zero_le _⟩) hS (fun H locs hP hS => ?_)
    exact je_mi hx hb hr hlocks hK hP hS h dX5_nearest_16
def f_X5_allSeen_l44 (v1_3 : Int32) (v2_3 : Int32) : Nat → jm → Int32 → Int32 → Option (Int32 × jm)
  | 0, _, _, _ => none
  | k_3 + 1, M_3, v3_3, v4_3 => (if 49 ≤ v4_3 then (some (v3_3, M_3)) else (jgd v1_3 8 (if v2_3 < (f_X5_steps v4_3 (M_3 1 3 (Int32.toNatClampNeg v1_3))) then ((f_X5_allSeen_l44 v1_3 v2_3 k_3) M_3 v3_3 (v4_3 + 1)) else ((f_X5_allSeen_l44 v1_3 v2_3 k_3) M_3 (v3_3 + 1) (v4_3 + 1)))))
def f_X5_allSeen (M : jm) (v1 : Int32) : Option (Int32 × jm) := (if (f_X4_hasHouse M 1 v1) = 0 then (jb2 (f_X5_refuse M (-1)) fun r5 M_5 => (some (r5, M_5))) else (jgd v1 8 (jgd v1 8 (f_X5_allSeen_l44 v1 (f_X5_reach (M 1 1 (Int32.toNatClampNeg v1)) (M 1 2 (Int32.toNatClampNeg v1))) 10000 M 0 0))))
set_option maxRecDepth 100000 in
theorem m_X5_allSeen (l : Launch) (X : jX) (A : Nat → Prop) (hs : jst X A) (M : jm) (v1 : Int32) (r : Int32) (N : jm) (h : f_X5_allSeen M v1 = some (r, N)) : Met l yX5_allSeen (jws yX5_allSeen cX5_allSeen 5 (some .int)) (jrm 2 42) (va_Pc [.ref (jO X 0), .int v1] (jB X M)) (jQm X A (some (.int r)) N) 0 0 A := by
  refine jm_of (by decide) (Nat.le_of_ble_eq_true rfl) ?_
  intro p e s m args below meth c ls S hr hlocks hB hl
  have S : CallFix p m c cX5_allSeen 5 s args jtb RX5 := S
  obtain ⟨hx, hb, hml, hown, hts⟩ := id S
  obtain ⟨hP, hK⟩ := hB
  have hN := hK.2
  have hS : va_S A s.heap s.heap [] := va_S.rf
  have hl : lv_has ls 5 [(0, .ref (jO X 0)), (1, .int v1)] := hl
  refine lv_aload_n hx hb dX5_allSeen_0 rfl (lv_at hl 0 rfl) ?_
  refine jr_get (k := 0) hx hb hts hown hK hP jb_0 (Nat.le_of_ble_eq_true rfl) jlX5_12 rfl dX5_allSeen_1 ?_
  refine lv_iload_n hx hb dX5_allSeen_4 rfl (lv_at hl 1 rfl) ?_
  refine jr_kp (jr_rv (As := [.int v1]) (rest := []) S hK hP jb_1 rfl (m_X4_hasHouse l X M jb_1 v1 _ rfl) jw_X4_hasHouse ji_X4_hasHouse jmX5_90 rfl rfl ⟨(Nat.le_of_ble_eq_true rfl), (Nat.le_of_ble_eq_true rfl)⟩ rfl hl.1 rfl (Nat.le_of_ble_eq_true rfl) dX5_allSeen_5 ⟨Nat.zero_le _, Nat.zero_le _⟩) ?_
  refine lv_if_ne (tgt := 17) hx hb dX5_allSeen_8 rfl (fun c8 => ?_) (fun c8 => ?_)
  · replace h := jh_f h c8
    refine lv_aload_n hx hb dX5_allSeen_17 rfl (lv_at hl 0 rfl) ?_
    refine jr_get (k := 0) hx hb hts hown hK hP jb_0 (Nat.le_of_ble_eq_true rfl) jlX5_12 rfl dX5_allSeen_18 ?_
    refine jr_get (k := 1) hx hb hts hown hK hP jb_1 (Nat.le_of_ble_eq_true rfl) jlX5_94 rfl dX5_allSeen_21 ?_
    refine lv_iload_n hx hb dX5_allSeen_24 rfl (lv_at hl 1 rfl) ?_
    obtain ⟨g25, h⟩ := jh_gd h
    refine jr_ald (n := 8) hx hb hK hP jb_1 rfl g25 dX5_allSeen_25 ?_
    refine lv_aload_n hx hb dX5_allSeen_26 rfl (lv_at hl 0 rfl) ?_
    refine jr_get (k := 0) hx hb hts hown hK hP jb_0 (Nat.le_of_ble_eq_true rfl) jlX5_12 rfl dX5_allSeen_27 ?_
    refine jr_get (k := 2) hx hb hts hown hK hP jb_1 (Nat.le_of_ble_eq_true rfl) jlX5_97 rfl dX5_allSeen_30 ?_
    refine lv_iload_n hx hb dX5_allSeen_33 rfl (lv_at hl 1 rfl) ?_
    obtain ⟨g34, h⟩ := jh_gd h
    refine jr_ald (n := 8) hx hb hK hP jb_1 rfl g34 dX5_allSeen_34 ?_
    refine jr_kp (jr_rs (As := [.int (M 1 1 (Int32.toNatClampNeg v1)), .int (M 1 2 (Int32.toNatClampNeg v1))]) (rest := []) S hN (m_X5_reach l (M 1 1 (Int32.toNatClampNeg v1)) (M 1 2 (Int32.toNatClampNeg v1)) _ rfl) jw_X5_reach js_X5_reach jmX5_106 rfl rfl ⟨(Nat.le_of_ble_eq_true rfl), (Nat.le_of_ble_eq_true rfl)⟩ rfl hl.1 rfl (Nat.le_of_ble_eq_true rfl) dX5_allSeen_35 ⟨Nat.zero_le _, Nat.zero_le _⟩) ?_
    refine lv_istore_n (lv' := [(2, .int (f_X5_reach (M 1 1 (Int32.toNatClampNeg v1)) (M 1 2 (Int32.toNatClampNeg v1)))), (0, .ref (jO X 0)), (1, .int v1)]) hx hb dX5_allSeen_38 rfl hl (Nat.le_of_ble_eq_true rfl) rfl (fun ls hl => ?_)
    refine lv_iconst (v := 0) hx hb dX5_allSeen_39 jci_0 ?_
    refine lv_istore_n (lv' := [(3, .int 0), (2, .int (f_X5_reach (M 1 1 (Int32.toNatClampNeg v1)) (M 1 2 (Int32.toNatClampNeg v1)))), (0, .ref (jO X 0)), (1, .int v1)]) hx hb dX5_allSeen_40 rfl hl (Nat.le_of_ble_eq_true rfl) rfl (fun ls hl => ?_)
    refine lv_iconst (v := 0) hx hb dX5_allSeen_41 jci_0 ?_
    refine lv_istore (lv' := [(4, .int 0), (3, .int 0), (2, .int (f_X5_reach (M 1 1 (Int32.toNatClampNeg v1)) (M 1 2 (Int32.toNatClampNeg v1)))), (0, .ref (jO X 0)), (1, .int v1)]) hx hb dX5_allSeen_42 hl (Nat.le_of_ble_eq_true rfl) rfl (fun ls hl => ?_)
    have L44 : ∀ (v1_3 : Int32) (v2_3 : Int32) (k_3 : Nat) (M_3 : jm) (H : Heap) (locs : List Loc) (v3_3 : Int32) (v4_3 : Int32) (ls : Array Slot), f_X5_allSeen_l44 v1_3 v2_3 k_3 M_3 v3_3 v4_3 = some (r, N) → jrp X M_3 H → va_S A s.heap H locs → lv_has ls 5 [(0, .ref (jO X 0)), (1, .int v1_3), (2, .int v2_3), (3, .int v3_3), (4, .int v4_3)] → W p l e (jrm 2 42) s m args below meth c H locs 0 0 (MQ below (jQm X A (some (.int r)) N) args s 0 0 A) (F0 m 44 ls []) := by
      intro v1_3 v2_3 k_3
      induction k_3 with
      | zero => intro M_3 H locs v3_3 v4_3 ls h; exact jh_0 h
      | succ k_3 ih44 =>
        intro M_3 H locs v3_3 v4_3 ls h hP hS hl
        refine lv_iload hx hb dX5_allSeen_44 (lv_at hl 4 rfl) ?_
        refine lv_bipush (v := 49) hx hb dX5_allSeen_46 jcb_49 ?_
        refine lv_icmp_ge (tgt := 78) hx hb dX5_allSeen_48 rfl (fun c48 => ?_) (fun c48 => ?_)
        · replace h := jh_t h c48
          refine lv_iload_n hx hb dX5_allSeen_78 rfl (lv_at hl 3 rfl) ?_
          exact je_mi hx hb hr hlocks hK hP hS h dX5_allSeen_79
        · replace h := jh_f h c48
          refine lv_iload hx hb dX5_allSeen_51 (lv_at hl 4 rfl) ?_
          refine lv_aload_n hx hb dX5_allSeen_53 rfl (lv_at hl 0 rfl) ?_
          refine jr_get (k := 0) hx hb hts hown hK hP jb_0 (Nat.le_of_ble_eq_true rfl) jlX5_12 rfl dX5_allSeen_54 ?_
          refine jr_get (k := 3) hx hb hts hown hK hP jb_1 (Nat.le_of_ble_eq_true rfl) jlX5_100 rfl dX5_allSeen_57 ?_
          refine lv_iload_n hx hb dX5_allSeen_60 rfl (lv_at hl 1 rfl) ?_
          obtain ⟨g61, h⟩ := jh_gd h
          refine jr_ald (n := 8) hx hb hK hP jb_1 rfl g61 dX5_allSeen_61 ?_
          refine jr_kp (jr_rs (As := [.int v4_3, .int (M_3 1 3 (Int32.toNatClampNeg v1_3))]) (rest := []) S hN (m_X5_steps l v4_3 (M_3 1 3 (Int32.toNatClampNeg v1_3)) _ rfl) jw_X5_steps js_X5_steps jmX5_204 rfl rfl ⟨(Nat.le_of_ble_eq_true rfl), (Nat.le_of_ble_eq_true rfl)⟩ rfl hl.1 rfl (Nat.le_of_ble_eq_true rfl) dX5_allSeen_62 ⟨Nat.zero_le _, Nat.zero_le _⟩) ?_
          refine lv_iload_n hx hb dX5_allSeen_65 rfl (lv_at hl 2 rfl) ?_
          refine lv_icmp_gt (tgt := 72) hx hb dX5_allSeen_66 rfl (fun c66 => ?_) (fun c66 => ?_)
          · replace h := jh_t h c66
            refine lv_iinc (v := (v4_3 + 1)) (lv' := [(4, .int (v4_3 + 1)), (0, .ref (jO X 0)), (1, .int v1_3), (2, .int v2_3), (3, .int v3_3)]) hx hb dX5_allSeen_72 hl (k := 4) rfl (congrArg _ jci_1) (Nat.le_of_ble_eq_true rfl) rfl (fun ls hl => ?_)
            refine lv_goto (tgt := 44) hx hb dX5_allSeen_75 rfl ?_
            exact ih44 M_3 _ _ v3_3 (v4_3 + 1) _ h hP hS (lv_sub hl [1, 2, 3, 4, 0] rfl)
          · replace h := jh_f h c66
            refine lv_iinc (v := (v3_3 + 1)) (lv' := [(3, .int (v3_3 + 1)), (0, .ref (jO X 0)), (1, .int v1_3), (2, .int v2_3), (4, .int v4_3)]) hx hb dX5_allSeen_69 hl (k := 3) rfl (congrArg _ jci_1) (Nat.le_of_ble_eq_true rfl) rfl (fun ls hl => ?_)
            refine lv_iinc (v := (v4_3 + 1)) (lv' := [(4, .int (v4_3 + 1)), (3, .int (v3_3 + 1)), (0, .ref (jO X 0)), (1, .int v1_3), (2, .int v2_3)]) hx hb dX5_allSeen_72 hl (k := 4) rfl (congrArg _ jci_1) (Nat.le_of_ble_eq_true rfl) rfl (fun ls hl => ?_)
            refine lv_goto (tgt := 44) hx hb dX5_allSeen_75 rfl ?_
            exact ih44 M_3 _ _ (v3_3 + 1) (v4_3 + 1) _ h hP hS (lv_sub hl [2, 3, 4, 1, 0] rfl)
    exact L44 v1 (f_X5_reach (M 1 1 (Int32.toNatClampNeg v1)) (M 1 2 (Int32.toNatClampNeg v1))) 10000 M _ _ 0 0 _ h hP hS (lv_sub hl [3, 4, 2, 1, 0] rfl)
  · replace h := jh_t h c8
    refine lv_aload_n hx hb dX5_allSeen_11 rfl (lv_at hl 0 rfl) ?_
    refine lv_iconst (v := (-1)) hx hb dX5_allSeen_12 jci_m1 ?_
    obtain ⟨r5, M_5, e5, h⟩ := jh_b2 h
    refine jr_km (jr_rv (As := [.int (-1)]) (rest := []) S hK hP jb_0 rfl (m_X5_refuse l X A hs M (-1) r5 M_5 e5) jw_X5_refuse ji_X5_refuse jmX5_65 rfl rfl ⟨(Nat.le_of_ble_eq_true rfl), (Nat.le_of_ble_eq_true rfl)⟩ rfl hl.1 rfl (Nat.le_of_ble_eq_true rfl) dX5_allSeen_13 ⟨Nat.zero_le _, Nat.zero_le _⟩) hS (fun H locs hP hS => ?_)
    exact je_mi hx hb hr hlocks hK hP hS h dX5_allSeen_16
def f_X5_eveningsOfNewDebts_l18 (M : jm) (K4_2 : Int64 → Int32 → Option Int64) (v3_2 : Int32) : Nat → Int64 → Int32 → Option Int64
  | 0, _, _ => none
  | k_2 + 1, v1_2, v4_2 => (if (M 1 0 0) ≤ v4_2 then (K4_2 v1_2 (v3_2 + 1)) else (jb (f_X4_owes M 1 v3_2 v4_2) fun r3 => (if r3 = 0 then (jb (f_X4_firstSighting M 1 v3_2 v4_2 61) fun r4 => (if r4 ≤ 0 then ((f_X5_eveningsOfNewDebts_l18 M K4_2 v3_2 k_2) v1_2 (v4_2 + 1)) else ((f_X5_eveningsOfNewDebts_l18 M K4_2 v3_2 k_2) (v1_2 ||| ((1 : Int64) <<< (Int32.toInt64 r4 &&& 63))) (v4_2 + 1)))) else ((f_X5_eveningsOfNewDebts_l18 M K4_2 v3_2 k_2) v1_2 (v4_2 + 1)))))
def f_X5_eveningsOfNewDebts_l4 (M : jm) : Nat → Int64 → Int32 → Option Int64
  | 0, _, _ => none
  | k_1 + 1, v1_1, v3_1 => (if (M 1 5 0) ≤ v3_1 then (some v1_1) else (f_X5_eveningsOfNewDebts_l18 M (f_X5_eveningsOfNewDebts_l4 M k_1) v3_1 10000 v1_1 0))
def f_X5_eveningsOfNewDebts (M : jm) : Option Int64 := (f_X5_eveningsOfNewDebts_l4 M 10000 0 0)
set_option maxRecDepth 100000 in
theorem m_X5_eveningsOfNewDebts (l : Launch) (X : jX) (M : jm) (r : Int64) (h : f_X5_eveningsOfNewDebts M = some r) : Met l yX5_eveningsOfNewDebts (jws yX5_eveningsOfNewDebts cX5_eveningsOfNewDebts 6 (some .long)) (jrm 3 70) (va_Pc [.ref (jO X 0)] (jB X M)) (jQ (.long r)) 0 0 (fun _ => False) := by
  refine jm_of (by decide) (Nat.le_of_ble_eq_true rfl) ?_
  intro p e s m args below meth c ls S hr hlocks hB hl
  have S : CallFix p m c cX5_eveningsOfNewDebts 6 s args jtb RX5 := S
  obtain ⟨hx, hb, hml, hown, hts⟩ := id S
  obtain ⟨hP, hK⟩ := hB
  have hN := hK.2
  have hl : lv_has ls 6 [(0, .ref (jO X 0))] := hl
  refine lv_lconst (v := 0) hx hb dX5_eveningsOfNewDebts_0 rfl ?_
  refine lv_lstore_n (lv' := [(1, .long 0), (0, .ref (jO X 0))]) hx hb dX5_eveningsOfNewDebts_1 rfl hl (Nat.le_of_ble_eq_true rfl) rfl (fun ls hl => ?_)
  refine lv_iconst (v := 0) hx hb dX5_eveningsOfNewDebts_2 jci_0 ?_
  refine lv_istore_n (lv' := [(3, .int 0), (1, .long 0), (0, .ref (jO X 0))]) hx hb dX5_eveningsOfNewDebts_3 rfl hl (Nat.le_of_ble_eq_true rfl) rfl (fun ls hl => ?_)
  have L4 : ∀ (k_1 : Nat) (v1_1 : Int64) (v3_1 : Int32) (ls : Array Slot), f_X5_eveningsOfNewDebts_l4 M k_1 v1_1 v3_1 = some r → lv_has ls 6 [(0, .ref (jO X 0)), (1, .long v1_1), (3, .int v3_1)] → W p l e (jrm 3 70) s m args below meth c s.heap [] 0 0 (MQ below (jQ (.long r)) args s 0 0 (fun _ => False)) (F0 m 4 ls []) := by
    intro k_1
    induction k_1 with
    | zero => intro v1_1 v3_1 ls h; exact jh_0 h
    | succ k_1 ih4 =>
      intro v1_1 v3_1 ls h hl
      refine lv_iload_n hx hb dX5_eveningsOfNewDebts_4 rfl (lv_at hl 2 rfl) ?_
      refine lv_aload_n hx hb dX5_eveningsOfNewDebts_5 rfl (lv_at hl 0 rfl) ?_
      refine jr_get (k := 0) hx hb hts hown hK hP jb_0 (Nat.le_of_ble_eq_true rfl) jlX5_12 rfl dX5_eveningsOfNewDebts_6 ?_
      refine jr_get (k := 5) hx hb hts hown hK hP jb_1 (Nat.le_of_ble_eq_true rfl) jlX5_158 rfl dX5_eveningsOfNewDebts_9 ?_
      refine lv_icmp_ge (tgt := 84) hx hb dX5_eveningsOfNewDebts_12 rfl (fun c12 => ?_) (fun c12 => ?_)
      · replace h := jh_t h c12
        refine lv_lload_n hx hb dX5_eveningsOfNewDebts_84 rfl (lv_at hl 1 rfl) ?_
        exact je_l hx hb hr hlocks (Option.some.inj h) dX5_eveningsOfNewDebts_85
      · replace h := jh_f h c12
        refine lv_iconst (v := 0) hx hb dX5_eveningsOfNewDebts_15 jci_0 ?_
        refine lv_istore (lv' := [(4, .int 0), (0, .ref (jO X 0)), (1, .long v1_1), (3, .int v3_1)]) hx hb dX5_eveningsOfNewDebts_16 hl (Nat.le_of_ble_eq_true rfl) rfl (fun ls hl => ?_)
        have L18 : ∀ (v3_2 : Int32) (k_2 : Nat) (v1_2 : Int64) (v4_2 : Int32) (ls : Array Slot), f_X5_eveningsOfNewDebts_l18 M (f_X5_eveningsOfNewDebts_l4 M k_1) v3_2 k_2 v1_2 v4_2 = some r → lv_has ls 6 [(0, .ref (jO X 0)), (1, .long v1_2), (3, .int v3_2), (4, .int v4_2)] → W p l e (jrm 3 70) s m args below meth c s.heap [] 0 0 (MQ below (jQ (.long r)) args s 0 0 (fun _ => False)) (F0 m 18 ls []) := by
          intro v3_2 k_2
          induction k_2 with
          | zero => intro v1_2 v4_2 ls h; exact jh_0 h
          | succ k_2 ih18 =>
            intro v1_2 v4_2 ls h hl
            refine lv_iload hx hb dX5_eveningsOfNewDebts_18 (lv_at hl 3 rfl) ?_
            refine lv_aload_n hx hb dX5_eveningsOfNewDebts_20 rfl (lv_at hl 0 rfl) ?_
            refine jr_get (k := 0) hx hb hts hown hK hP jb_0 (Nat.le_of_ble_eq_true rfl) jlX5_12 rfl dX5_eveningsOfNewDebts_21 ?_
            refine jr_get (k := 0) hx hb hts hown hK hP jb_1 (Nat.le_of_ble_eq_true rfl) jlX5_148 rfl dX5_eveningsOfNewDebts_24 ?_
            refine lv_icmp_ge (tgt := 78) hx hb dX5_eveningsOfNewDebts_27 rfl (fun c27 => ?_) (fun c27 => ?_)
            · replace h := jh_t h c27
              refine lv_iinc (v := (v3_2 + 1)) (lv' := [(3, .int (v3_2 + 1)), (0, .ref (jO X 0)), (1, .long v1_2), (4, .int v4_2)]) hx hb dX5_eveningsOfNewDebts_78 hl (k := 2) rfl (congrArg _ jci_1) (Nat.le_of_ble_eq_true rfl) rfl (fun ls hl => ?_)
              refine lv_goto (tgt := 4) hx hb dX5_eveningsOfNewDebts_81 rfl ?_
              exact ih4 v1_2 (v3_2 + 1) _ h (lv_sub hl [1, 2, 0] rfl)
            · replace h := jh_f h c27
              refine lv_aload_n hx hb dX5_eveningsOfNewDebts_30 rfl (lv_at hl 0 rfl) ?_
              refine jr_get (k := 0) hx hb hts hown hK hP jb_0 (Nat.le_of_ble_eq_true rfl) jlX5_12 rfl dX5_eveningsOfNewDebts_31 ?_
              refine lv_iload_n hx hb dX5_eveningsOfNewDebts_34 rfl (lv_at hl 2 rfl) ?_
              refine lv_iload hx hb dX5_eveningsOfNewDebts_35 (lv_at hl 3 rfl) ?_
              obtain ⟨r3, e3, h⟩ := jh_b h
              refine jr_kp (jr_rv (As := [.int v3_2, .int v4_2]) (rest := []) S hK hP jb_1 rfl (m_X4_owes l X M jb_1 v3_2 v4_2 r3 e3) jw_X4_owes ji_X4_owes jmX5_140 rfl rfl ⟨(Nat.le_of_ble_eq_true rfl), (Nat.le_of_ble_eq_true rfl)⟩ rfl hl.1 rfl (Nat.le_of_ble_eq_true rfl) dX5_eveningsOfNewDebts_37 ⟨Nat.zero_le _, Nat.zero_le _⟩) ?_
              refine lv_if_eq (tgt := 46) hx hb dX5_eveningsOfNewDebts_40 rfl (fun c40 => ?_) (fun c40 => ?_)
              · replace h := jh_t h c40
                refine lv_aload_n hx hb dX5_eveningsOfNewDebts_46 rfl (lv_at hl 0 rfl) ?_
                refine jr_get (k := 0) hx hb hts hown hK hP jb_0 (Nat.le_of_ble_eq_true rfl) jlX5_12 rfl dX5_eveningsOfNewDebts_47 ?_
                refine lv_iload_n hx hb dX5_eveningsOfNewDebts_50 rfl (lv_at hl 2 rfl) ?_
                refine lv_iload hx hb dX5_eveningsOfNewDebts_51 (lv_at hl 3 rfl) ?_
                refine lv_bipush (v := 61) hx hb dX5_eveningsOfNewDebts_53 jcb_61 ?_
                obtain ⟨r4, e4, h⟩ := jh_b h
                refine jr_kp (jr_rv (As := [.int v3_2, .int v4_2, .int 61]) (rest := []) S hK hP jb_1 rfl (m_X4_firstSighting l X M jb_1 v3_2 v4_2 61 r4 e4) jw_X4_firstSighting ji_X4_firstSighting jmX5_201 rfl rfl ⟨(Nat.le_of_ble_eq_true rfl), (Nat.le_of_ble_eq_true rfl)⟩ rfl hl.1 rfl (Nat.le_of_ble_eq_true rfl) dX5_eveningsOfNewDebts_55 ⟨Nat.zero_le _, Nat.zero_le _⟩) ?_
                refine lv_istore (lv' := [(5, .int r4), (0, .ref (jO X 0)), (1, .long v1_2), (3, .int v3_2), (4, .int v4_2)]) hx hb dX5_eveningsOfNewDebts_58 hl (Nat.le_of_ble_eq_true rfl) rfl (fun ls hl => ?_)
                refine lv_iload hx hb dX5_eveningsOfNewDebts_60 (lv_at hl 0 rfl) ?_
                refine lv_if_le (tgt := 72) hx hb dX5_eveningsOfNewDebts_62 rfl (fun c62 => ?_) (fun c62 => ?_)
                · replace h := jh_t h c62
                  refine lv_iinc (v := (v4_2 + 1)) (lv' := [(4, .int (v4_2 + 1)), (5, .int r4), (0, .ref (jO X 0)), (1, .long v1_2), (3, .int v3_2)]) hx hb dX5_eveningsOfNewDebts_72 hl (k := 4) rfl (congrArg _ jci_1) (Nat.le_of_ble_eq_true rfl) rfl (fun ls hl => ?_)
                  refine lv_goto (tgt := 18) hx hb dX5_eveningsOfNewDebts_75 rfl ?_
                  exact ih18 v1_2 (v4_2 + 1) _ h (lv_sub hl [2, 3, 4, 0] rfl)
                · replace h := jh_f h c62
                  refine lv_lload_n hx hb dX5_eveningsOfNewDebts_65 rfl (lv_at hl 2 rfl) ?_
                  refine lv_lconst (v := 1) hx hb dX5_eveningsOfNewDebts_66 rfl ?_
                  refine lv_iload hx hb dX5_eveningsOfNewDebts_67 (lv_at hl 0 rfl) ?_
                  refine lv_lshl hx hb dX5_eveningsOfNewDebts_69 rfl ?_
                  refine lv_lor hx hb dX5_eveningsOfNewDebts_70 ?_
                  refine lv_lstore_n (lv' := [(1, .long (v1_2 ||| ((1 : Int64) <<< (Int32.toInt64 r4 &&& 63)))), (5, .int r4), (0, .ref (jO X 0)), (3, .int v3_2), (4, .int v4_2)]) hx hb dX5_eveningsOfNewDebts_71 rfl hl (Nat.le_of_ble_eq_true rfl) rfl (fun ls hl => ?_)
                  refine lv_iinc (v := (v4_2 + 1)) (lv' := [(4, .int (v4_2 + 1)), (1, .long (v1_2 ||| ((1 : Int64) <<< (Int32.toInt64 r4 &&& 63)))), (5, .int r4), (0, .ref (jO X 0)), (3, .int v3_2)]) hx hb dX5_eveningsOfNewDebts_72 hl (k := 4) rfl (congrArg _ jci_1) (Nat.le_of_ble_eq_true rfl) rfl (fun ls hl => ?_)
                  refine lv_goto (tgt := 18) hx hb dX5_eveningsOfNewDebts_75 rfl ?_
                  exact ih18 (v1_2 ||| ((1 : Int64) <<< (Int32.toInt64 r4 &&& 63))) (v4_2 + 1) _ h (lv_sub hl [3, 1, 4, 0] rfl)
              · replace h := jh_f h c40
                refine lv_goto (tgt := 72) hx hb dX5_eveningsOfNewDebts_43 rfl ?_
                refine lv_iinc (v := (v4_2 + 1)) (lv' := [(4, .int (v4_2 + 1)), (0, .ref (jO X 0)), (1, .long v1_2), (3, .int v3_2)]) hx hb dX5_eveningsOfNewDebts_72 hl (k := 3) rfl (congrArg _ jci_1) (Nat.le_of_ble_eq_true rfl) rfl (fun ls hl => ?_)
                refine lv_goto (tgt := 18) hx hb dX5_eveningsOfNewDebts_75 rfl ?_
                exact ih18 v1_2 (v4_2 + 1) _ h (lv_sub hl [1, 2, 3, 0] rfl)
        exact L18 v3_1 10000 v1_1 0 _ h (lv_sub hl [1, 2, 3, 0] rfl)
  exact L4 10000 0 0 _ h (lv_sub hl [2, 1, 0] rfl)
def f_X5_gaps_l7 (M : jm) (v1_2 : Int64) : Nat → Int32 → Option Int32
  | 0, _ => none
  | k_2 + 1, v3_2 => (if 60 < v3_2 then (some (-9)) else (if (lg_cmp ((v1_2 >>> (Int32.toInt64 (v3_2 + 1) &&& 63)) &&& 1) 0) = 0 then (some v3_2) else ((f_X5_gaps_l7 M v1_2 k_2) (v3_2 + 1))))
def f_X5_gaps (M : jm) : Option Int32 := (jb (f_X5_eveningsOfNewDebts M) fun r1 => (f_X5_gaps_l7 M r1 10000 0))
set_option maxRecDepth 100000 in
theorem m_X5_gaps (l : Launch) (X : jX) (M : jm) (r : Int32) (h : f_X5_gaps M = some r) : Met l yX5_gaps (jws yX5_gaps cX5_gaps 4 (some .int)) (jrm 4 95) (va_Pc [.ref (jO X 0)] (jB X M)) (jQ (.int r)) 0 0 (fun _ => False) := by
  refine jm_of (by decide) (Nat.le_of_ble_eq_true rfl) ?_
  intro p e s m args below meth c ls S hr hlocks hB hl
  have S : CallFix p m c cX5_gaps 4 s args jtb RX5 := S
  obtain ⟨hx, hb, hml, hown, hts⟩ := id S
  obtain ⟨hP, hK⟩ := hB
  have hN := hK.2
  have hl : lv_has ls 4 [(0, .ref (jO X 0))] := hl
  refine lv_aload_n hx hb dX5_gaps_0 rfl (lv_at hl 0 rfl) ?_
  obtain ⟨r1, e1, h⟩ := jh_b h
  refine jr_kp (jr_rv (As := []) (rest := []) S hK hP jb_0 rfl (m_X5_eveningsOfNewDebts l X M  r1 e1) jw_X5_eveningsOfNewDebts ji_X5_eveningsOfNewDebts jmX5_289 rfl rfl ⟨(Nat.le_of_ble_eq_true rfl), (Nat.le_of_ble_eq_true rfl)⟩ rfl hl.1 rfl (Nat.le_of_ble_eq_true rfl) dX5_gaps_1 ⟨Nat.zero_le _, Nat.zero_le _⟩) ?_
  refine lv_lstore_n (lv' := [(1, .long r1), (0, .ref (jO X 0))]) hx hb dX5_gaps_4 rfl hl (Nat.le_of_ble_eq_true rfl) rfl (fun ls hl => ?_)
  refine lv_iconst (v := 0) hx hb dX5_gaps_5 jci_0 ?_
  refine lv_istore_n (lv' := [(3, .int 0), (1, .long r1), (0, .ref (jO X 0))]) hx hb dX5_gaps_6 rfl hl (Nat.le_of_ble_eq_true rfl) rfl (fun ls hl => ?_)
  have L7 : ∀ (v1_2 : Int64) (k_2 : Nat) (v3_2 : Int32) (ls : Array Slot), f_X5_gaps_l7 M v1_2 k_2 v3_2 = some r → lv_has ls 4 [(1, .long v1_2), (3, .int v3_2)] → W p l e (jrm 4 95) s m args below meth c s.heap [] 0 0 (MQ below (jQ (.int r)) args s 0 0 (fun _ => False)) (F0 m 7 ls []) := by
    intro v1_2 k_2
    induction k_2 with
    | zero => intro v3_2 ls h; exact jh_0 h
    | succ k_2 ih7 =>
      intro v3_2 ls h hl
      refine lv_iload_n hx hb dX5_gaps_7 rfl (lv_at hl 1 rfl) ?_
      refine lv_bipush (v := 60) hx hb dX5_gaps_8 jcb_60 ?_
      refine lv_icmp_gt (tgt := 33) hx hb dX5_gaps_10 rfl (fun c10 => ?_) (fun c10 => ?_)
      · replace h := jh_t h c10
        refine lv_bipush (v := (-9)) hx hb dX5_gaps_33 jcb_m9 ?_
        exact je_i hx hb hr hlocks (Option.some.inj h) dX5_gaps_35
      · replace h := jh_f h c10
        refine lv_lload_n hx hb dX5_gaps_13 rfl (lv_at hl 0 rfl) ?_
        refine lv_iload_n hx hb dX5_gaps_14 rfl (lv_at hl 1 rfl) ?_
        refine lv_iconst (v := 1) hx hb dX5_gaps_15 jci_1 ?_
        refine lv_iadd hx hb dX5_gaps_16 ?_
        refine lv_lshr hx hb dX5_gaps_17 rfl ?_
        refine lv_lconst (v := 1) hx hb dX5_gaps_18 rfl ?_
        refine lv_land hx hb dX5_gaps_19 ?_
        refine lv_lconst (v := 0) hx hb dX5_gaps_20 rfl ?_
        refine W.lcmp hx hb dX5_gaps_21 ?_
        refine lv_if_ne (tgt := 27) hx hb dX5_gaps_22 rfl (fun c22 => ?_) (fun c22 => ?_)
        · replace h := jh_f h c22
          refine lv_iinc (v := (v3_2 + 1)) (lv' := [(3, .int (v3_2 + 1)), (1, .long v1_2)]) hx hb dX5_gaps_27 hl (k := 1) rfl (congrArg _ jci_1) (Nat.le_of_ble_eq_true rfl) rfl (fun ls hl => ?_)
          refine lv_goto (tgt := 7) hx hb dX5_gaps_30 rfl ?_
          exact ih7 (v3_2 + 1) _ h (lv_sub hl [1, 0] rfl)
        · replace h := jh_t h c22
          refine lv_iload_n hx hb dX5_gaps_25 rfl (lv_at hl 1 rfl) ?_
          exact je_i hx hb hr hlocks (Option.some.inj h) dX5_gaps_26
  exact L7 r1 10000 0 _ h (lv_sub hl [1, 0] rfl)
def f_X5_blind_l4 (M : jm) : Nat → Int32 → Int32 → Option Int32
  | 0, _, _ => none
  | k_1 + 1, v1_1, v2_1 => (if (M 1 5 0) ≤ v2_1 then (some v1_1) else (jgd v2_1 6 (jb (f_X4_seesFrom M 1 v2_1 (M 1 6 (Int32.toNatClampNeg v2_1))) fun r2 => (if r2 = 0 then ((f_X5_blind_l4 M k_1) (v1_1 ||| ((1 : Int32) <<< (v2_1 &&& 31))) (v2_1 + 1)) else ((f_X5_blind_l4 M k_1) v1_1 (v2_1 + 1))))))
def f_X5_blind (M : jm) : Option Int32 := (f_X5_blind_l4 M 10000 0 0)
set_option maxRecDepth 100000 in
theorem m_X5_blind (l : Launch) (X : jX) (M : jm) (r : Int32) (h : f_X5_blind M = some r) : Met l yX5_blind (jws yX5_blind cX5_blind 3 (some .int)) (jrm 3 68) (va_Pc [.ref (jO X 0)] (jB X M)) (jQ (.int r)) 0 0 (fun _ => False) := by
  refine jm_of (by decide) (Nat.le_of_ble_eq_true rfl) ?_
  intro p e s m args below meth c ls S hr hlocks hB hl
  have S : CallFix p m c cX5_blind 3 s args jtb RX5 := S
  obtain ⟨hx, hb, hml, hown, hts⟩ := id S
  obtain ⟨hP, hK⟩ := hB
  have hN := hK.2
  have hl : lv_has ls 3 [(0, .ref (jO X 0))] := hl
  refine lv_iconst (v := 0) hx hb dX5_blind_0 jci_0 ?_
  refine lv_istore_n (lv' := [(1, .int 0), (0, .ref (jO X 0))]) hx hb dX5_blind_1 rfl hl (Nat.le_of_ble_eq_true rfl) rfl (fun ls hl => ?_)
  refine lv_iconst (v := 0) hx hb dX5_blind_2 jci_0 ?_
  refine lv_istore_n (lv' := [(2, .int 0), (1, .int 0), (0, .ref (jO X 0))]) hx hb dX5_blind_3 rfl hl (Nat.le_of_ble_eq_true rfl) rfl (fun ls hl => ?_)
  have L4 : ∀ (k_1 : Nat) (v1_1 : Int32) (v2_1 : Int32) (ls : Array Slot), f_X5_blind_l4 M k_1 v1_1 v2_1 = some r → lv_has ls 3 [(0, .ref (jO X 0)), (1, .int v1_1), (2, .int v2_1)] → W p l e (jrm 3 68) s m args below meth c s.heap [] 0 0 (MQ below (jQ (.int r)) args s 0 0 (fun _ => False)) (F0 m 4 ls []) := by
    intro k_1
    induction k_1 with
    | zero => intro v1_1 v2_1 ls h; exact jh_0 h
    | succ k_1 ih4 =>
      intro v1_1 v2_1 ls h hl
      refine lv_iload_n hx hb dX5_blind_4 rfl (lv_at hl 2 rfl) ?_
      refine lv_aload_n hx hb dX5_blind_5 rfl (lv_at hl 0 rfl) ?_
      refine jr_get (k := 0) hx hb hts hown hK hP jb_0 (Nat.le_of_ble_eq_true rfl) jlX5_12 rfl dX5_blind_6 ?_
      refine jr_get (k := 5) hx hb hts hown hK hP jb_1 (Nat.le_of_ble_eq_true rfl) jlX5_158 rfl dX5_blind_9 ?_
      refine lv_icmp_ge (tgt := 47) hx hb dX5_blind_12 rfl (fun c12 => ?_) (fun c12 => ?_)
      · replace h := jh_t h c12
        refine lv_iload_n hx hb dX5_blind_47 rfl (lv_at hl 1 rfl) ?_
        exact je_i hx hb hr hlocks (Option.some.inj h) dX5_blind_48
      · replace h := jh_f h c12
        refine lv_aload_n hx hb dX5_blind_15 rfl (lv_at hl 0 rfl) ?_
        refine jr_get (k := 0) hx hb hts hown hK hP jb_0 (Nat.le_of_ble_eq_true rfl) jlX5_12 rfl dX5_blind_16 ?_
        refine lv_iload_n hx hb dX5_blind_19 rfl (lv_at hl 2 rfl) ?_
        refine lv_aload_n hx hb dX5_blind_20 rfl (lv_at hl 0 rfl) ?_
        refine jr_get (k := 0) hx hb hts hown hK hP jb_0 (Nat.le_of_ble_eq_true rfl) jlX5_12 rfl dX5_blind_21 ?_
        refine jr_get (k := 6) hx hb hts hown hK hP jb_1 (Nat.le_of_ble_eq_true rfl) jlX5_122 rfl dX5_blind_24 ?_
        refine lv_iload_n hx hb dX5_blind_27 rfl (lv_at hl 2 rfl) ?_
        obtain ⟨g28, h⟩ := jh_gd h
        refine jr_ald (n := 6) hx hb hK hP jb_1 rfl g28 dX5_blind_28 ?_
        obtain ⟨r2, e2, h⟩ := jh_b h
        refine jr_kp (jr_rv (As := [.int v2_1, .int (M 1 6 (Int32.toNatClampNeg v2_1))]) (rest := []) S hK hP jb_1 rfl (m_X4_seesFrom l X M jb_1 v2_1 (M 1 6 (Int32.toNatClampNeg v2_1)) r2 e2) jw_X4_seesFrom ji_X4_seesFrom jmX5_134 rfl rfl ⟨(Nat.le_of_ble_eq_true rfl), (Nat.le_of_ble_eq_true rfl)⟩ rfl hl.1 rfl (Nat.le_of_ble_eq_true rfl) dX5_blind_29 ⟨Nat.zero_le _, Nat.zero_le _⟩) ?_
        refine lv_if_ne (tgt := 41) hx hb dX5_blind_32 rfl (fun c32 => ?_) (fun c32 => ?_)
        · replace h := jh_f h c32
          refine lv_iinc (v := (v2_1 + 1)) (lv' := [(2, .int (v2_1 + 1)), (0, .ref (jO X 0)), (1, .int v1_1)]) hx hb dX5_blind_41 hl (k := 2) rfl (congrArg _ jci_1) (Nat.le_of_ble_eq_true rfl) rfl (fun ls hl => ?_)
          refine lv_goto (tgt := 4) hx hb dX5_blind_44 rfl ?_
          exact ih4 v1_1 (v2_1 + 1) _ h (lv_sub hl [1, 2, 0] rfl)
        · replace h := jh_t h c32
          refine lv_iload_n hx hb dX5_blind_35 rfl (lv_at hl 1 rfl) ?_
          refine lv_iconst (v := 1) hx hb dX5_blind_36 jci_1 ?_
          refine lv_iload_n hx hb dX5_blind_37 rfl (lv_at hl 2 rfl) ?_
          refine lv_ishl hx hb dX5_blind_38 ?_
          refine lv_ior hx hb dX5_blind_39 ?_
          refine lv_istore_n (lv' := [(1, .int (v1_1 ||| ((1 : Int32) <<< (v2_1 &&& 31)))), (0, .ref (jO X 0)), (2, .int v2_1)]) hx hb dX5_blind_40 rfl hl (Nat.le_of_ble_eq_true rfl) rfl (fun ls hl => ?_)
          refine lv_iinc (v := (v2_1 + 1)) (lv' := [(2, .int (v2_1 + 1)), (1, .int (v1_1 ||| ((1 : Int32) <<< (v2_1 &&& 31)))), (0, .ref (jO X 0))]) hx hb dX5_blind_41 hl (k := 2) rfl (congrArg _ jci_1) (Nat.le_of_ble_eq_true rfl) rfl (fun ls hl => ?_)
          refine lv_goto (tgt := 4) hx hb dX5_blind_44 rfl ?_
          exact ih4 (v1_1 ||| ((1 : Int32) <<< (v2_1 &&& 31))) (v2_1 + 1) _ h (lv_sub hl [2, 1, 0] rfl)
  exact L4 10000 0 0 _ h (lv_sub hl [2, 1, 0] rfl)
def f_X5_moved (M : jm) (v1 : Int32) (v2 : Int32) (v3 : Int32) : Option (Int32 × jm) := (if (f_X4_hasWalker M 1 v1) = 0 then (jb2 (f_X5_refuse M (-1)) fun r2 M_2 => (some ((1000000000 - r2), M_2))) else (if (f_X5_isCell v2) = 0 then (jb2 (f_X5_refuse M (-1)) fun r10 M_10 => (some ((1000000000 - r10), M_10))) else (if 0 ≤ v3 then (if v3 ≤ 60 then (jb (f_X4_become M 2 1) fun M_4 => (jb2 (f_X4_aim M_4 2 v1 v2) fun r5 M_5 => (jb (f_X4_priceBehind M_5 2 v1 v3) fun r6 => (jb (f_X4_priceBehind M_5 1 v1 v3) fun r7 => (some ((r6 - r7), M_5)))))) else (jb2 (f_X5_refuse M (-6)) fun r8 M_8 => (some ((1000000000 - r8), M_8)))) else (jb2 (f_X5_refuse M (-4)) fun r9 M_9 => (some ((1000000000 - r9), M_9))))))
set_option maxRecDepth 100000 in
theorem m_X5_moved (l : Launch) (X : jX) (A : Nat → Prop) (hs : jst X A) (M : jm) (v1 : Int32) (v2 : Int32) (v3 : Int32) (r : Int32) (N : jm) (h : f_X5_moved M v1 v2 v3 = some (r, N)) : Met l yX5_moved (jws yX5_moved cX5_moved 4 (some .int)) (jrm 6 143) (va_Pc [.ref (jO X 0), .int v1, .int v2, .int v3] (jB X M)) (jQm X A (some (.int r)) N) 0 0 A := by
  refine jm_of (by decide) (Nat.le_of_ble_eq_true rfl) ?_
  intro p e s m args below meth c ls S hr hlocks hB hl
  have S : CallFix p m c cX5_moved 4 s args jtb RX5 := S
  obtain ⟨hx, hb, hml, hown, hts⟩ := id S
  obtain ⟨hP, hK⟩ := hB
  have hN := hK.2
  have hS : va_S A s.heap s.heap [] := va_S.rf
  have hl : lv_has ls 4 [(0, .ref (jO X 0)), (1, .int v1), (2, .int v2), (3, .int v3)] := hl
  refine lv_aload_n hx hb dX5_moved_0 rfl (lv_at hl 0 rfl) ?_
  refine jr_get (k := 0) hx hb hts hown hK hP jb_0 (Nat.le_of_ble_eq_true rfl) jlX5_12 rfl dX5_moved_1 ?_
  refine lv_iload_n hx hb dX5_moved_4 rfl (lv_at hl 1 rfl) ?_
  refine jr_kp (jr_rv (As := [.int v1]) (rest := []) S hK hP jb_1 rfl (m_X4_hasWalker l X M jb_1 v1 _ rfl) jw_X4_hasWalker ji_X4_hasWalker jmX5_119 rfl rfl ⟨(Nat.le_of_ble_eq_true rfl), (Nat.le_of_ble_eq_true rfl)⟩ rfl hl.1 rfl (Nat.le_of_ble_eq_true rfl) dX5_moved_5 ⟨Nat.zero_le _, Nat.zero_le _⟩) ?_
  refine lv_if_eq (tgt := 18) hx hb dX5_moved_8 rfl (fun c8 => ?_) (fun c8 => ?_)
  · replace h := jh_t h c8
    refine lv_ldc hx hb hown (hts _ jkX5_238) dX5_moved_18 ?_
    refine lv_aload_n hx hb dX5_moved_20 rfl (lv_at hl 0 rfl) ?_
    refine lv_iconst (v := (-1)) hx hb dX5_moved_21 jci_m1 ?_
    obtain ⟨r2, M_2, e2, h⟩ := jh_b2 h
    refine jr_km (jr_rv (As := [.int (-1)]) (rest := [.int 1000000000]) S hK hP jb_0 rfl (m_X5_refuse l X A hs M (-1) r2 M_2 e2) jw_X5_refuse ji_X5_refuse jmX5_65 rfl rfl ⟨(Nat.le_of_ble_eq_true rfl), (Nat.le_of_ble_eq_true rfl)⟩ rfl hl.1 rfl (Nat.le_of_ble_eq_true rfl) dX5_moved_22 ⟨Nat.zero_le _, Nat.zero_le _⟩) hS (fun H locs hP hS => ?_)
    refine lv_isub hx hb dX5_moved_25 ?_
    exact je_mi hx hb hr hlocks hK hP hS h dX5_moved_26
  · replace h := jh_f h c8
    refine lv_iload_n hx hb dX5_moved_11 rfl (lv_at hl 2 rfl) ?_
    refine jr_kp (jr_rs (As := [.int v2]) (rest := []) S hN (m_X5_isCell l v2 _ rfl) jw_X5_isCell js_X5_isCell jmX5_151 rfl rfl ⟨(Nat.le_of_ble_eq_true rfl), (Nat.le_of_ble_eq_true rfl)⟩ rfl hl.1 rfl (Nat.le_of_ble_eq_true rfl) dX5_moved_12 ⟨Nat.zero_le _, Nat.zero_le _⟩) ?_
    refine lv_if_ne (tgt := 27) hx hb dX5_moved_15 rfl (fun c15 => ?_) (fun c15 => ?_)
    · replace h := jh_f h c15
      refine lv_iload_n hx hb dX5_moved_27 rfl (lv_at hl 3 rfl) ?_
      refine lv_if_ge (tgt := 41) hx hb dX5_moved_28 rfl (fun c28 => ?_) (fun c28 => ?_)
      · replace h := jh_t h c28
        refine lv_iload_n hx hb dX5_moved_41 rfl (lv_at hl 3 rfl) ?_
        refine lv_bipush (v := 60) hx hb dX5_moved_42 jcb_60 ?_
        refine lv_icmp_le (tgt := 57) hx hb dX5_moved_44 rfl (fun c44 => ?_) (fun c44 => ?_)
        · replace h := jh_t h c44
          refine lv_aload_n hx hb dX5_moved_57 rfl (lv_at hl 0 rfl) ?_
          refine jr_get (k := 1) hx hb hts hown hK hP jb_0 (Nat.le_of_ble_eq_true rfl) jlX5_16 rfl dX5_moved_58 ?_
          refine lv_aload_n hx hb dX5_moved_61 rfl (lv_at hl 0 rfl) ?_
          refine jr_get (k := 0) hx hb hts hown hK hP jb_0 (Nat.le_of_ble_eq_true rfl) jlX5_12 rfl dX5_moved_62 ?_
          obtain ⟨M_4, e4, h⟩ := jh_b h
          refine jr_kv (jr_rv (As := [.ref (jO X 1)]) (rest := []) S hK hP jb_2 rfl (m_X4_become l X A hs M jb_2 jb_1 M_4 e4) jw_X4_become ji_X4_become jmX5_76 rfl rfl ⟨(Nat.le_of_ble_eq_true rfl), (Nat.le_of_ble_eq_true rfl)⟩ rfl hl.1 rfl (Nat.le_of_ble_eq_true rfl) dX5_moved_65 ⟨Nat.zero_le _, Nat.zero_le _⟩) hS (fun H locs hP hS => ?_)
          refine lv_aload_n hx hb dX5_moved_68 rfl (lv_at hl 0 rfl) ?_
          refine jr_get (k := 1) hx hb hts hown hK hP jb_0 (Nat.le_of_ble_eq_true rfl) jlX5_16 rfl dX5_moved_69 ?_
          refine lv_iload_n hx hb dX5_moved_72 rfl (lv_at hl 1 rfl) ?_
          refine lv_iload_n hx hb dX5_moved_73 rfl (lv_at hl 2 rfl) ?_
          obtain ⟨r5, M_5, e5, h⟩ := jh_b2 h
          refine jr_km (jr_rv (As := [.int v1, .int v2]) (rest := []) S hK hP jb_2 rfl (m_X4_aim l X A hs M_4 jb_2 v1 v2 r5 M_5 e5) jw_X4_aim ji_X4_aim jmX5_170 rfl rfl ⟨(Nat.le_of_ble_eq_true rfl), (Nat.le_of_ble_eq_true rfl)⟩ rfl hl.1 rfl (Nat.le_of_ble_eq_true rfl) dX5_moved_74 ⟨Nat.zero_le _, Nat.zero_le _⟩) hS (fun H locs hP hS => ?_)
          refine lv_pop hx hb dX5_moved_77 rfl ?_
          refine lv_aload_n hx hb dX5_moved_78 rfl (lv_at hl 0 rfl) ?_
          refine jr_get (k := 1) hx hb hts hown hK hP jb_0 (Nat.le_of_ble_eq_true rfl) jlX5_16 rfl dX5_moved_79 ?_
          refine lv_iload_n hx hb dX5_moved_82 rfl (lv_at hl 1 rfl) ?_
          refine lv_iload_n hx hb dX5_moved_83 rfl (lv_at hl 3 rfl) ?_
          obtain ⟨r6, e6, h⟩ := jh_b h
          refine jr_kp (jr_rv (As := [.int v1, .int v3]) (rest := []) S hK hP jb_2 rfl (m_X4_priceBehind l X M_5 jb_2 v1 v3 r6 e6) jw_X4_priceBehind ji_X4_priceBehind jmX5_137 rfl rfl ⟨(Nat.le_of_ble_eq_true rfl), (Nat.le_of_ble_eq_true rfl)⟩ rfl hl.1 rfl (Nat.le_of_ble_eq_true rfl) dX5_moved_84 ⟨Nat.zero_le _, Nat.zero_le _⟩) ?_
          refine lv_aload_n hx hb dX5_moved_87 rfl (lv_at hl 0 rfl) ?_
          refine jr_get (k := 0) hx hb hts hown hK hP jb_0 (Nat.le_of_ble_eq_true rfl) jlX5_12 rfl dX5_moved_88 ?_
          refine lv_iload_n hx hb dX5_moved_91 rfl (lv_at hl 1 rfl) ?_
          refine lv_iload_n hx hb dX5_moved_92 rfl (lv_at hl 3 rfl) ?_
          obtain ⟨r7, e7, h⟩ := jh_b h
          refine jr_kp (jr_rv (As := [.int v1, .int v3]) (rest := [.int r6]) S hK hP jb_1 rfl (m_X4_priceBehind l X M_5 jb_1 v1 v3 r7 e7) jw_X4_priceBehind ji_X4_priceBehind jmX5_137 rfl rfl ⟨(Nat.le_of_ble_eq_true rfl), (Nat.le_of_ble_eq_true rfl)⟩ rfl hl.1 rfl (Nat.le_of_ble_eq_true rfl) dX5_moved_93 ⟨Nat.zero_le _, Nat.zero_le _⟩) ?_
          refine lv_isub hx hb dX5_moved_96 ?_
          exact je_mi hx hb hr hlocks hK hP hS h dX5_moved_97
        · replace h := jh_f h c44
          refine lv_ldc hx hb hown (hts _ jkX5_238) dX5_moved_47 ?_
          refine lv_aload_n hx hb dX5_moved_49 rfl (lv_at hl 0 rfl) ?_
          refine lv_bipush (v := (-6)) hx hb dX5_moved_50 jcb_m6 ?_
          obtain ⟨r8, M_8, e8, h⟩ := jh_b2 h
          refine jr_km (jr_rv (As := [.int (-6)]) (rest := [.int 1000000000]) S hK hP jb_0 rfl (m_X5_refuse l X A hs M (-6) r8 M_8 e8) jw_X5_refuse ji_X5_refuse jmX5_65 rfl rfl ⟨(Nat.le_of_ble_eq_true rfl), (Nat.le_of_ble_eq_true rfl)⟩ rfl hl.1 rfl (Nat.le_of_ble_eq_true rfl) dX5_moved_52 ⟨Nat.zero_le _, Nat.zero_le _⟩) hS (fun H locs hP hS => ?_)
          refine lv_isub hx hb dX5_moved_55 ?_
          exact je_mi hx hb hr hlocks hK hP hS h dX5_moved_56
      · replace h := jh_f h c28
        refine lv_ldc hx hb hown (hts _ jkX5_238) dX5_moved_31 ?_
        refine lv_aload_n hx hb dX5_moved_33 rfl (lv_at hl 0 rfl) ?_
        refine lv_bipush (v := (-4)) hx hb dX5_moved_34 jcb_m4 ?_
        obtain ⟨r9, M_9, e9, h⟩ := jh_b2 h
        refine jr_km (jr_rv (As := [.int (-4)]) (rest := [.int 1000000000]) S hK hP jb_0 rfl (m_X5_refuse l X A hs M (-4) r9 M_9 e9) jw_X5_refuse ji_X5_refuse jmX5_65 rfl rfl ⟨(Nat.le_of_ble_eq_true rfl), (Nat.le_of_ble_eq_true rfl)⟩ rfl hl.1 rfl (Nat.le_of_ble_eq_true rfl) dX5_moved_36 ⟨Nat.zero_le _, Nat.zero_le _⟩) hS (fun H locs hP hS => ?_)
        refine lv_isub hx hb dX5_moved_39 ?_
        exact je_mi hx hb hr hlocks hK hP hS h dX5_moved_40
    · replace h := jh_t h c15
      refine lv_ldc hx hb hown (hts _ jkX5_238) dX5_moved_18 ?_
      refine lv_aload_n hx hb dX5_moved_20 rfl (lv_at hl 0 rfl) ?_
      refine lv_iconst (v := (-1)) hx hb dX5_moved_21 jci_m1 ?_
      obtain ⟨r10, M_10, e10, h⟩ := jh_b2 h
      refine jr_km (jr_rv (As := [.int (-1)]) (rest := [.int 1000000000]) S hK hP jb_0 rfl (m_X5_refuse l X A hs M (-1) r10 M_10 e10) jw_X5_refuse ji_X5_refuse jmX5_65 rfl rfl ⟨(Nat.le_of_ble_eq_true rfl), (Nat.le_of_ble_eq_true rfl)⟩ rfl hl.1 rfl (Nat.le_of_ble_eq_true rfl) dX5_moved_22 ⟨Nat.zero_le _, Nat.zero_le _⟩) hS (fun H locs hP hS => ?_)
      refine lv_isub hx hb dX5_moved_25 ?_
      exact je_mi hx hb hr hlocks hK hP hS h dX5_moved_26
def f_X5_street_l53 (K20_3 : jm → Int32 → Int32 → Option (Int32 × jm)) (v1_2 : Int32) (v3_3 : Int32) : Nat → jm → Int32 → Int32 → Option (Int32 × jm)
  | 0, _, _, _ => none
  | k_3 + 1, M_3, v2_3, v4_3 => (if (M_3 1 5 0) ≤ v4_3 then (K20_3 M_3 v2_3 (v3_3 + 1)) else (jb (f_X4_minutesBehind M_3 1 v4_3 v3_3 0) fun r4 => ((f_X5_street_l53 K20_3 v1_2 v3_3 k_3) M_3 (v2_3 + r4) (v4_3 + 1))))
def f_X5_street_l20 (v1_2 : Int32) : Nat → jm → Int32 → Int32 → Option (Int32 × jm)
  | 0, _, _, _ => none
  | k_2 + 1, M_2, v2_2, v3_2 => (if (M_2 1 0 0) ≤ v3_2 then (some (v2_2, M_2)) else (jgd v3_2 8 (if ((M_2 1 3 (Int32.toNatClampNeg v3_2)) / 7) = v1_2 then (f_X5_street_l53 (f_X5_street_l20 v1_2 k_2) v1_2 v3_2 10000 M_2 v2_2 0) else ((f_X5_street_l20 v1_2 k_2) M_2 v2_2 (v3_2 + 1)))))
def f_X5_street (M : jm) (v1 : Int32) : Option (Int32 × jm) := (if v1 < 0 then (jb2 (f_X5_refuse M (-1)) fun r1 M_1 => (some (r1, M_1))) else (if v1 < 7 then (f_X5_street_l20 v1 10000 M 0 0) else (jb2 (f_X5_refuse M (-1)) fun r5 M_5 => (some (r5, M_5)))))
set_option maxRecDepth 100000 in
theorem m_X5_street (l : Launch) (X : jX) (A : Nat → Prop) (hs : jst X A) (M : jm) (v1 : Int32) (r : Int32) (N : jm) (h : f_X5_street M v1 = some (r, N)) : Met l yX5_street (jws yX5_street cX5_street 5 (some .int)) (jrm 5 119) (va_Pc [.ref (jO X 0), .int v1] (jB X M)) (jQm X A (some (.int r)) N) 0 0 A := by
  refine jm_of (by decide) (Nat.le_of_ble_eq_true rfl) ?_
  intro p e s m args below meth c ls S hr hlocks hB hl
  have S : CallFix p m c cX5_street 5 s args jtb RX5 := S
  obtain ⟨hx, hb, hml, hown, hts⟩ := id S
  obtain ⟨hP, hK⟩ := hB
  have hN := hK.2
  have hS : va_S A s.heap s.heap [] := va_S.rf
  have hl : lv_has ls 5 [(0, .ref (jO X 0)), (1, .int v1)] := hl
  refine lv_iload_n hx hb dX5_street_0 rfl (lv_at hl 1 rfl) ?_
  refine lv_if_lt (tgt := 10) hx hb dX5_street_1 rfl (fun c1 => ?_) (fun c1 => ?_)
  · replace h := jh_t h c1
    refine lv_aload_n hx hb dX5_street_10 rfl (lv_at hl 0 rfl) ?_
    refine lv_iconst (v := (-1)) hx hb dX5_street_11 jci_m1 ?_
    obtain ⟨r1, M_1, e1, h⟩ := jh_b2 h
    refine jr_km (jr_rv (As := [.int (-1)]) (rest := []) S hK hP jb_0 rfl (m_X5_refuse l X A hs M (-1) r1 M_1 e1) jw_X5_refuse ji_X5_refuse jmX5_65 rfl rfl ⟨(Nat.le_of_ble_eq_true rfl), (Nat.le_of_ble_eq_true rfl)⟩ rfl hl.1 rfl (Nat.le_of_ble_eq_true rfl) dX5_street_12 ⟨Nat.zero_le _, Nat.zero_le _⟩) hS (fun H locs hP hS => ?_)
    exact je_mi hx hb hr hlocks hK hP hS h dX5_street_15
  · replace h := jh_f h c1
    refine lv_iload_n hx hb dX5_street_4 rfl (lv_at hl 1 rfl) ?_
    refine lv_bipush (v := 7) hx hb dX5_street_5 jcb_7 ?_
    refine lv_icmp_lt (tgt := 16) hx hb dX5_street_7 rfl (fun c7 => ?_) (fun c7 => ?_)
    · replace h := jh_t h c7
      refine lv_iconst (v := 0) hx hb dX5_street_16 jci_0 ?_
      refine lv_istore_n (lv' := [(2, .int 0), (0, .ref (jO X 0)), (1, .int v1)]) hx hb dX5_street_17 rfl hl (Nat.le_of_ble_eq_true rfl) rfl (fun ls hl => ?_)
      refine lv_iconst (v := 0) hx hb dX5_street_18 jci_0 ?_
      refine lv_istore_n (lv' := [(3, .int 0), (2, .int 0), (0, .ref (jO X 0)), (1, .int v1)]) hx hb dX5_street_19 rfl hl (Nat.le_of_ble_eq_true rfl) rfl (fun ls hl => ?_)
      have L20 : ∀ (v1_2 : Int32) (k_2 : Nat) (M_2 : jm) (H : Heap) (locs : List Loc) (v2_2 : Int32) (v3_2 : Int32) (ls : Array Slot), f_X5_street_l20 v1_2 k_2 M_2 v2_2 v3_2 = some (r, N) → jrp X M_2 H → va_S A s.heap H locs → lv_has ls 5 [(0, .ref (jO X 0)), (1, .int v1_2), (2, .int v2_2), (3, .int v3_2)] → W p l e (jrm 5 119) s m args below meth c H locs 0 0 (MQ below (jQm X A (some (.int r)) N) args s 0 0 A) (F0 m 20 ls []) := by
        intro v1_2 k_2
        induction k_2 with
        | zero => intro M_2 H locs v2_2 v3_2 ls h; exact jh_0 h
        | succ k_2 ih20 =>
          intro M_2 H locs v2_2 v3_2 ls h hP hS hl
          refine lv_iload_n hx hb dX5_street_20 rfl (lv_at hl 3 rfl) ?_
          refine lv_aload_n hx hb dX5_street_21 rfl (lv_at hl 0 rfl) ?_
          refine jr_get (k := 0) hx hb hts hown hK hP jb_0 (Nat.le_of_ble_eq_true rfl) jlX5_12 rfl dX5_street_22 ?_
          refine jr_get (k := 0) hx hb hts hown hK hP jb_1 (Nat.le_of_ble_eq_true rfl) jlX5_148 rfl dX5_street_25 ?_
          refine lv_icmp_ge (tgt := 91) hx hb dX5_street_28 rfl (fun c28 => ?_) (fun c28 => ?_)
          · replace h := jh_t h c28
            refine lv_iload_n hx hb dX5_street_91 rfl (lv_at hl 2 rfl) ?_
            exact je_mi hx hb hr hlocks hK hP hS h dX5_street_92
          · replace h := jh_f h c28
            refine lv_aload_n hx hb dX5_street_31 rfl (lv_at hl 0 rfl) ?_
            refine jr_get (k := 0) hx hb hts hown hK hP jb_0 (Nat.le_of_ble_eq_true rfl) jlX5_12 rfl dX5_street_32 ?_
            refine jr_get (k := 3) hx hb hts hown hK hP jb_1 (Nat.le_of_ble_eq_true rfl) jlX5_100 rfl dX5_street_35 ?_
            refine lv_iload_n hx hb dX5_street_38 rfl (lv_at hl 3 rfl) ?_
            obtain ⟨g39, h⟩ := jh_gd h
            refine jr_ald (n := 8) hx hb hK hP jb_1 rfl g39 dX5_street_39 ?_
            refine lv_bipush (v := 7) hx hb dX5_street_40 jcb_7 ?_
            refine lv_idiv hx hb dX5_street_42 (by decide) ?_
            refine lv_iload_n hx hb dX5_street_43 rfl (lv_at hl 1 rfl) ?_
            refine lv_icmp_eq (tgt := 50) hx hb dX5_street_44 rfl (fun c44 => ?_) (fun c44 => ?_)
            · replace h := jh_t h c44
              refine lv_iconst (v := 0) hx hb dX5_street_50 jci_0 ?_
              refine lv_istore (lv' := [(4, .int 0), (0, .ref (jO X 0)), (1, .int v1_2), (2, .int v2_2), (3, .int v3_2)]) hx hb dX5_street_51 hl (Nat.le_of_ble_eq_true rfl) rfl (fun ls hl => ?_)
              have L53 : ∀ (v3_3 : Int32) (k_3 : Nat) (M_3 : jm) (H : Heap) (locs : List Loc) (v2_3 : Int32) (v4_3 : Int32) (ls : Array Slot), f_X5_street_l53 (f_X5_street_l20 v1_2 k_2) v1_2 v3_3 k_3 M_3 v2_3 v4_3 = some (r, N) → jrp X M_3 H → va_S A s.heap H locs → lv_has ls 5 [(0, .ref (jO X 0)), (1, .int v1_2), (2, .int v2_3), (3, .int v3_3), (4, .int v4_3)] → W p l e (jrm 5 119) s m args below meth c H locs 0 0 (MQ below (jQm X A (some (.int r)) N) args s 0 0 A) (F0 m 53 ls []) := by
                intro v3_3 k_3
                induction k_3 with
                | zero => intro M_3 H locs v2_3 v4_3 ls h; exact jh_0 h
                | succ k_3 ih53 =>
                  intro M_3 H locs v2_3 v4_3 ls h hP hS hl
                  refine lv_iload hx hb dX5_street_53 (lv_at hl 4 rfl) ?_
                  refine lv_aload_n hx hb dX5_street_55 rfl (lv_at hl 0 rfl) ?_
                  refine jr_get (k := 0) hx hb hts hown hK hP jb_0 (Nat.le_of_ble_eq_true rfl) jlX5_12 rfl dX5_street_56 ?_
                  refine jr_get (k := 5) hx hb hts hown hK hP jb_1 (Nat.le_of_ble_eq_true rfl) jlX5_158 rfl dX5_street_59 ?_
                  refine lv_icmp_ge (tgt := 85) hx hb dX5_street_62 rfl (fun c62 => ?_) (fun c62 => ?_)
                  · replace h := jh_t h c62
                    refine lv_iinc (v := (v3_3 + 1)) (lv' := [(3, .int (v3_3 + 1)), (0, .ref (jO X 0)), (1, .int v1_2), (2, .int v2_3), (4, .int v4_3)]) hx hb dX5_street_85 hl (k := 3) rfl (congrArg _ jci_1) (Nat.le_of_ble_eq_true rfl) rfl (fun ls hl => ?_)
                    refine lv_goto (tgt := 20) hx hb dX5_street_88 rfl ?_
                    exact ih20 M_3 _ _ v2_3 (v3_3 + 1) _ h hP hS (lv_sub hl [1, 2, 3, 0] rfl)
                  · replace h := jh_f h c62
                    refine lv_iload_n hx hb dX5_street_65 rfl (lv_at hl 2 rfl) ?_
                    refine lv_aload_n hx hb dX5_street_66 rfl (lv_at hl 0 rfl) ?_
                    refine jr_get (k := 0) hx hb hts hown hK hP jb_0 (Nat.le_of_ble_eq_true rfl) jlX5_12 rfl dX5_street_67 ?_
                    refine lv_iload hx hb dX5_street_70 (lv_at hl 4 rfl) ?_
                    refine lv_iload_n hx hb dX5_street_72 rfl (lv_at hl 3 rfl) ?_
                    refine lv_iconst (v := 0) hx hb dX5_street_73 jci_0 ?_
                    obtain ⟨r4, e4, h⟩ := jh_b h
                    refine jr_kp (jr_rv (As := [.int v4_3, .int v3_3, .int 0]) (rest := [.int v2_3]) S hK hP jb_1 rfl (m_X4_minutesBehind l X M_3 jb_1 v4_3 v3_3 0 r4 e4) jw_X4_minutesBehind ji_X4_minutesBehind jmX5_173 rfl rfl ⟨(Nat.le_of_ble_eq_true rfl), (Nat.le_of_ble_eq_true rfl)⟩ rfl hl.1 rfl (Nat.le_of_ble_eq_true rfl) dX5_street_74 ⟨Nat.zero_le _, Nat.zero_le _⟩) ?_
                    refine lv_iadd hx hb dX5_street_77 ?_
                    refine lv_istore_n (lv' := [(2, .int (v2_3 + r4)), (0, .ref (jO X 0)), (1, .int v1_2), (3, .int v3_3), (4, .int v4_3)]) hx hb dX5_street_78 rfl hl (Nat.le_of_ble_eq_true rfl) rfl (fun ls hl => ?_)
                    refine lv_iinc (v := (v4_3 + 1)) (lv' := [(4, .int (v4_3 + 1)), (2, .int (v2_3 + r4)), (0, .ref (jO X 0)), (1, .int v1_2), (3, .int v3_3)]) hx hb dX5_street_79 hl (k := 4) rfl (congrArg _ jci_1) (Nat.le_of_ble_eq_true rfl) rfl (fun ls hl => ?_)
                    refine lv_goto (tgt := 53) hx hb dX5_street_82 rfl ?_
                    exact ih53 M_3 _ _ (v2_3 + r4) (v4_3 + 1) _ h hP hS (lv_sub hl [2, 3, 1, 4, 0] rfl)
              exact L53 v3_2 10000 M_2 _ _ v2_2 0 _ h hP hS (lv_sub hl [1, 2, 3, 4, 0] rfl)
            · replace h := jh_f h c44
              refine lv_goto (tgt := 85) hx hb dX5_street_47 rfl ?_
              refine lv_iinc (v := (v3_2 + 1)) (lv' := [(3, .int (v3_2 + 1)), (0, .ref (jO X 0)), (1, .int v1_2), (2, .int v2_2)]) hx hb dX5_street_85 hl (k := 3) rfl (congrArg _ jci_1) (Nat.le_of_ble_eq_true rfl) rfl (fun ls hl => ?_)
              refine lv_goto (tgt := 20) hx hb dX5_street_88 rfl ?_
              exact ih20 M_2 _ _ v2_2 (v3_2 + 1) _ h hP hS (lv_sub hl [1, 2, 3, 0] rfl)
      exact L20 v1 10000 M _ _ 0 0 _ h hP hS (lv_sub hl [2, 3, 1, 0] rfl)
    · replace h := jh_f h c7
      refine lv_aload_n hx hb dX5_street_10 rfl (lv_at hl 0 rfl) ?_
      refine lv_iconst (v := (-1)) hx hb dX5_street_11 jci_m1 ?_
      obtain ⟨r5, M_5, e5, h⟩ := jh_b2 h
      refine jr_km (jr_rv (As := [.int (-1)]) (rest := []) S hK hP jb_0 rfl (m_X5_refuse l X A hs M (-1) r5 M_5 e5) jw_X5_refuse ji_X5_refuse jmX5_65 rfl rfl ⟨(Nat.le_of_ble_eq_true rfl), (Nat.le_of_ble_eq_true rfl)⟩ rfl hl.1 rfl (Nat.le_of_ble_eq_true rfl) dX5_street_12 ⟨Nat.zero_le _, Nat.zero_le _⟩) hS (fun H locs hP hS => ?_)
      exact je_mi hx hb hr hlocks hK hP hS h dX5_street_15
def f_X5_row (M : jm) (v1 : Int32) : Option (Int32 × jm) := (if 0 ≤ v1 then (if 99 < v1 then (jb2 (f_X5_refuse M (-6)) fun r1 M_1 => (some (r1, M_1))) else (if (M 0 9 0) < 12 then (jgd (M 0 9 0) 12 (some (((ju (ju M 0 8 (Int32.toNatClampNeg (M 0 9 0)) v1) 0 9 0 (((ju M 0 8 (Int32.toNatClampNeg (M 0 9 0)) v1) 0 9 0) + 1)) 0 9 0), (ju (ju M 0 8 (Int32.toNatClampNeg (M 0 9 0)) v1) 0 9 0 (((ju M 0 8 (Int32.toNatClampNeg (M 0 9 0)) v1) 0 9 0) + 1))))) else (jb2 (f_X5_refuse M (-6)) fun r2 M_2 => (some (r2, M_2))))) else (jb2 (f_X5_refuse M (-4)) fun r3 M_3 => (some (r3, M_3))))
set_option maxRecDepth 100000 in
theorem m_X5_row (l : Launch) (X : jX) (A : Nat → Prop) (hs : jst X A) (M : jm) (v1 : Int32) (r : Int32) (N : jm) (h : f_X5_row M v1 = some (r, N)) : Met l yX5_row (jws yX5_row cX5_row 2 (some .int)) (jrm 1 21) (va_Pc [.ref (jO X 0), .int v1] (jB X M)) (jQm X A (some (.int r)) N) 0 0 A := by
  refine jm_of (by decide) (Nat.le_of_ble_eq_true rfl) ?_
  intro p e s m args below meth c ls S hr hlocks hB hl
  have S : CallFix p m c cX5_row 2 s args jtb RX5 := S
  obtain ⟨hx, hb, hml, hown, hts⟩ := id S
  obtain ⟨hP, hK⟩ := hB
  have hN := hK.2
  have hS : va_S A s.heap s.heap [] := va_S.rf
  have hl : lv_has ls 2 [(0, .ref (jO X 0)), (1, .int v1)] := hl
  refine lv_iload_n hx hb dX5_row_0 rfl (lv_at hl 1 rfl) ?_
  refine lv_if_ge (tgt := 11) hx hb dX5_row_1 rfl (fun c1 => ?_) (fun c1 => ?_)
  · replace h := jh_t h c1
    refine lv_iload_n hx hb dX5_row_11 rfl (lv_at hl 1 rfl) ?_
    refine lv_bipush (v := 99) hx hb dX5_row_12 jcb_99 ?_
    refine lv_icmp_gt (tgt := 26) hx hb dX5_row_14 rfl (fun c14 => ?_) (fun c14 => ?_)
    · replace h := jh_t h c14
      refine lv_aload_n hx hb dX5_row_26 rfl (lv_at hl 0 rfl) ?_
      refine lv_bipush (v := (-6)) hx hb dX5_row_27 jcb_m6 ?_
      obtain ⟨r1, M_1, e1, h⟩ := jh_b2 h
      refine jr_km (jr_rv (As := [.int (-6)]) (rest := []) S hK hP jb_0 rfl (m_X5_refuse l X A hs M (-6) r1 M_1 e1) jw_X5_refuse ji_X5_refuse jmX5_65 rfl rfl ⟨(Nat.le_of_ble_eq_true rfl), (Nat.le_of_ble_eq_true rfl)⟩ rfl hl.1 rfl (Nat.le_of_ble_eq_true rfl) dX5_row_29 ⟨Nat.zero_le _, Nat.zero_le _⟩) hS (fun H locs hP hS => ?_)
      exact je_mi hx hb hr hlocks hK hP hS h dX5_row_32
    · replace h := jh_f h c14
      refine lv_aload_n hx hb dX5_row_17 rfl (lv_at hl 0 rfl) ?_
      refine jr_get (k := 9) hx hb hts hown hK hP jb_0 (Nat.le_of_ble_eq_true rfl) jlX5_58 rfl dX5_row_18 ?_
      refine lv_bipush (v := 12) hx hb dX5_row_21 jcb_12 ?_
      refine lv_icmp_lt (tgt := 33) hx hb dX5_row_23 rfl (fun c23 => ?_) (fun c23 => ?_)
      · replace h := jh_t h c23
        refine lv_aload_n hx hb dX5_row_33 rfl (lv_at hl 0 rfl) ?_
        refine jr_get (k := 8) hx hb hts hown hK hP jb_0 (Nat.le_of_ble_eq_true rfl) jlX5_54 rfl dX5_row_34 ?_
        refine lv_aload_n hx hb dX5_row_37 rfl (lv_at hl 0 rfl) ?_
        refine jr_get (k := 9) hx hb hts hown hK hP jb_0 (Nat.le_of_ble_eq_true rfl) jlX5_58 rfl dX5_row_38 ?_
        refine lv_iload_n hx hb dX5_row_41 rfl (lv_at hl 1 rfl) ?_
        obtain ⟨g42, h⟩ := jh_gd h
        refine jr_ast (n := 12) hx hb hK hP hs hS jb_0 rfl g42 dX5_row_42 (fun H locs hP hS => ?_)
        refine lv_aload_n hx hb dX5_row_43 rfl (lv_at hl 0 rfl) ?_
        refine lv_dup hx hb dX5_row_44 rfl ?_
        refine jr_get (k := 9) hx hb hts hown hK hP jb_0 (Nat.le_of_ble_eq_true rfl) jlX5_58 rfl dX5_row_45 ?_
        refine lv_iconst (v := 1) hx hb dX5_row_48 jci_1 ?_
        refine lv_iadd hx hb dX5_row_49 ?_
        refine jr_put (k := 9) (z := (((ju M 0 8 (Int32.toNatClampNeg (M 0 9 0)) v1) 0 9 0) + 1)) hx hb hts hown hK hP hs hS jb_0 (Nat.le_of_ble_eq_true rfl) jlX5_58 rfl (Or.inl rfl) rfl rfl rfl dX5_row_50 (fun H locs hP hS => ?_)
        refine lv_aload_n hx hb dX5_row_53 rfl (lv_at hl 0 rfl) ?_
        refine jr_get (k := 9) hx hb hts hown hK hP jb_0 (Nat.le_of_ble_eq_true rfl) jlX5_58 rfl dX5_row_54 ?_
        exact je_mi hx hb hr hlocks hK hP hS h dX5_row_57
      · replace h := jh_f h c23
        refine lv_aload_n hx hb dX5_row_26 rfl (lv_at hl 0 rfl) ?_
        refine lv_bipush (v := (-6)) hx hb dX5_row_27 jcb_m6 ?_
        obtain ⟨r2, M_2, e2, h⟩ := jh_b2 h
        refine jr_km (jr_rv (As := [.int (-6)]) (rest := []) S hK hP jb_0 rfl (m_X5_refuse l X A hs M (-6) r2 M_2 e2) jw_X5_refuse ji_X5_refuse jmX5_65 rfl rfl ⟨(Nat.le_of_ble_eq_true rfl), (Nat.le_of_ble_eq_true rfl)⟩ rfl hl.1 rfl (Nat.le_of_ble_eq_true rfl) dX5_row_29 ⟨Nat.zero_le _, Nat.zero_le _⟩) hS (fun H locs hP hS => ?_)
        exact je_mi hx hb hr hlocks hK hP hS h dX5_row_32
  · replace h := jh_f h c1
    refine lv_aload_n hx hb dX5_row_4 rfl (lv_at hl 0 rfl) ?_
    refine lv_bipush (v := (-4)) hx hb dX5_row_5 jcb_m4 ?_
    obtain ⟨r3, M_3, e3, h⟩ := jh_b2 h
    refine jr_km (jr_rv (As := [.int (-4)]) (rest := []) S hK hP jb_0 rfl (m_X5_refuse l X A hs M (-4) r3 M_3 e3) jw_X5_refuse ji_X5_refuse jmX5_65 rfl rfl ⟨(Nat.le_of_ble_eq_true rfl), (Nat.le_of_ble_eq_true rfl)⟩ rfl hl.1 rfl (Nat.le_of_ble_eq_true rfl) dX5_row_7 ⟨Nat.zero_le _, Nat.zero_le _⟩) hS (fun H locs hP hS => ?_)
    exact je_mi hx hb hr hlocks hK hP hS h dX5_row_10
def f_X5_judge_l12 (v1_1 : Int32) : Nat → jm → Int32 → Option (Int32 × jm)
  | 0, _, _ => none
  | k_1 + 1, M_1, v2_1 => (if v1_1 ≤ v2_1 then (some ((-9), M_1)) else (if (f_X4_hasHouse M_1 1 v2_1) = 0 then (some (v2_1, M_1)) else (jb (f_X4_owersBehind M_1 1 v2_1 0) fun r3 => (jgd v2_1 12 (if (f_J6_bitCount_0f7a4 r3) = (M_1 0 8 (Int32.toNatClampNeg v2_1)) then ((f_X5_judge_l12 v1_1 k_1) M_1 (v2_1 + 1)) else (some (v2_1, M_1)))))))
def f_X5_judge (M : jm) : Option (Int32 × jm) := (f_X5_judge_l12 (M 0 9 0) 10000 (ju M 0 9 0 0) 0)
set_option maxRecDepth 100000 in
theorem m_X5_judge (l : Launch) (X : jX) (A : Nat → Prop) (hs : jst X A) (M : jm) (r : Int32) (N : jm) (h : f_X5_judge M = some (r, N)) : Met l yX5_judge (jws yX5_judge cX5_judge 3 (some .int)) (jrm 5 119) (va_Pc [.ref (jO X 0)] (jB X M)) (jQm X A (some (.int r)) N) 0 0 A := by
  refine jm_of (by decide) (Nat.le_of_ble_eq_true rfl) ?_
  intro p e s m args below meth c ls S hr hlocks hB hl
  have S : CallFix p m c cX5_judge 3 s args jtb RX5 := S
  obtain ⟨hx, hb, hml, hown, hts⟩ := id S
  obtain ⟨hP, hK⟩ := hB
  have hN := hK.2
  have hS : va_S A s.heap s.heap [] := va_S.rf
  have hl : lv_has ls 3 [(0, .ref (jO X 0))] := hl
  refine lv_aload_n hx hb dX5_judge_0 rfl (lv_at hl 0 rfl) ?_
  refine jr_get (k := 9) hx hb hts hown hK hP jb_0 (Nat.le_of_ble_eq_true rfl) jlX5_58 rfl dX5_judge_1 ?_
  refine lv_istore_n (lv' := [(1, .int (M 0 9 0)), (0, .ref (jO X 0))]) hx hb dX5_judge_4 rfl hl (Nat.le_of_ble_eq_true rfl) rfl (fun ls hl => ?_)
  refine lv_aload_n hx hb dX5_judge_5 rfl (lv_at hl 1 rfl) ?_
  refine lv_iconst (v := 0) hx hb dX5_judge_6 jci_0 ?_
  refine jr_put (k := 9) (z := 0) hx hb hts hown hK hP hs hS jb_0 (Nat.le_of_ble_eq_true rfl) jlX5_58 rfl (Or.inl rfl) rfl rfl rfl dX5_judge_7 (fun H locs hP hS => ?_)
  refine lv_iconst (v := 0) hx hb dX5_judge_10 jci_0 ?_
  refine lv_istore_n (lv' := [(2, .int 0), (1, .int (M 0 9 0)), (0, .ref (jO X 0))]) hx hb dX5_judge_11 rfl hl (Nat.le_of_ble_eq_true rfl) rfl (fun ls hl => ?_)
  have L12 : ∀ (v1_1 : Int32) (k_1 : Nat) (M_1 : jm) (H : Heap) (locs : List Loc) (v2_1 : Int32) (ls : Array Slot), f_X5_judge_l12 v1_1 k_1 M_1 v2_1 = some (r, N) → jrp X M_1 H → va_S A s.heap H locs → lv_has ls 3 [(0, .ref (jO X 0)), (1, .int v1_1), (2, .int v2_1)] → W p l e (jrm 5 119) s m args below meth c H locs 0 0 (MQ below (jQm X A (some (.int r)) N) args s 0 0 A) (F0 m 12 ls []) := by
    intro v1_1 k_1
    induction k_1 with
    | zero => intro M_1 H locs v2_1 ls h; exact jh_0 h
    | succ k_1 ih12 =>
      intro M_1 H locs v2_1 ls h hP hS hl
      refine lv_iload_n hx hb dX5_judge_12 rfl (lv_at hl 2 rfl) ?_
      refine lv_iload_n hx hb dX5_judge_13 rfl (lv_at hl 1 rfl) ?_
      refine lv_icmp_ge (tgt := 59) hx hb dX5_judge_14 rfl (fun c14 => ?_) (fun c14 => ?_)
      · replace h := jh_t h c14
        refine lv_bipush (v := (-9)) hx hb dX5_judge_59 jcb_m9 ?_
        exact je_mi hx hb hr hlocks hK hP hS h dX5_judge_61
      · replace h := jh_f h c14
        refine lv_aload_n hx hb dX5_judge_17 rfl (lv_at hl 0 rfl) ?_
        refine jr_get (k := 0) hx hb hts hown hK hP jb_0 (Nat.le_of_ble_eq_true rfl) jlX5_12 rfl dX5_judge_18 ?_
        refine lv_iload_n hx hb dX5_judge_21 rfl (lv_at hl 2 rfl) ?_
        refine jr_kp (jr_rv (As := [.int v2_1]) (rest := []) S hK hP jb_1 rfl (m_X4_hasHouse l X M_1 jb_1 v2_1 _ rfl) jw_X4_hasHouse ji_X4_hasHouse jmX5_90 rfl rfl ⟨(Nat.le_of_ble_eq_true rfl), (Nat.le_of_ble_eq_true rfl)⟩ rfl hl.1 rfl (Nat.le_of_ble_eq_true rfl) dX5_judge_22 ⟨Nat.zero_le _, Nat.zero_le _⟩) ?_
        refine lv_if_ne (tgt := 30) hx hb dX5_judge_25 rfl (fun c25 => ?_) (fun c25 => ?_)
        · replace h := jh_f h c25
          refine lv_aload_n hx hb dX5_judge_30 rfl (lv_at hl 0 rfl) ?_
          refine jr_get (k := 0) hx hb hts hown hK hP jb_0 (Nat.le_of_ble_eq_true rfl) jlX5_12 rfl dX5_judge_31 ?_
          refine lv_iload_n hx hb dX5_judge_34 rfl (lv_at hl 2 rfl) ?_
          refine lv_iconst (v := 0) hx hb dX5_judge_35 jci_0 ?_
          obtain ⟨r3, e3, h⟩ := jh_b h
          refine jr_kp (jr_rv (As := [.int v2_1, .int 0]) (rest := []) S hK hP jb_1 rfl (m_X4_owersBehind l X M_1 jb_1 v2_1 0 r3 e3) jw_X4_owersBehind ji_X4_owersBehind jmX5_113 rfl rfl ⟨(Nat.le_of_ble_eq_true rfl), (Nat.le_of_ble_eq_true rfl)⟩ rfl hl.1 rfl (Nat.le_of_ble_eq_true rfl) dX5_judge_36 ⟨Nat.zero_le _, Nat.zero_le _⟩) ?_
          refine jr_kp (jr_rs (As := [.int r3]) (rest := []) S hN (m_J6_bitCount_0f7a4 l r3 _ rfl) jw_J6_bitCount_0f7a4 js_J6_bitCount_0f7a4 jmX5_239 rfl rfl ⟨(Nat.le_of_ble_eq_true rfl), (Nat.le_of_ble_eq_true rfl)⟩ rfl hl.1 rfl (Nat.le_of_ble_eq_true rfl) dX5_judge_39 ⟨Nat.zero_le _, Nat.zero_le _⟩) ?_
          refine lv_aload_n hx hb dX5_judge_42 rfl (lv_at hl 0 rfl) ?_
          refine jr_get (k := 8) hx hb hts hown hK hP jb_0 (Nat.le_of_ble_eq_true rfl) jlX5_54 rfl dX5_judge_43 ?_
          refine lv_iload_n hx hb dX5_judge_46 rfl (lv_at hl 2 rfl) ?_
          obtain ⟨g47, h⟩ := jh_gd h
          refine jr_ald (n := 12) hx hb hK hP jb_0 rfl g47 dX5_judge_47 ?_
          refine lv_icmp_eq (tgt := 53) hx hb dX5_judge_48 rfl (fun c48 => ?_) (fun c48 => ?_)
          · replace h := jh_t h c48
            refine lv_iinc (v := (v2_1 + 1)) (lv' := [(2, .int (v2_1 + 1)), (0, .ref (jO X 0)), (1, .int v1_1)]) hx hb dX5_judge_53 hl (k := 2) rfl (congrArg _ jci_1) (Nat.le_of_ble_eq_true rfl) rfl (fun ls hl => ?_)
            refine lv_goto (tgt := 12) hx hb dX5_judge_56 rfl ?_
            exact ih12 M_1 _ _ (v2_1 + 1) _ h hP hS (lv_sub hl [1, 2, 0] rfl)
          · replace h := jh_f h c48
            refine lv_iload_n hx hb dX5_judge_51 rfl (lv_at hl 2 rfl) ?_
            exact je_mi hx hb hr hlocks hK hP hS h dX5_judge_52
        · replace h := jh_t h c25
          refine lv_iload_n hx hb dX5_judge_28 rfl (lv_at hl 2 rfl) ?_
          exact je_mi hx hb hr hlocks hK hP hS h dX5_judge_29
  exact L12 (M 0 9 0) 10000 (ju M 0 9 0 0) _ _ 0 _ h hP hS (lv_sub hl [2, 1, 0] rfl)
def f_X5_empties (M : jm) : Option (Int32 × jm) := (some ((M 0 9 0), (ju M 0 9 0 0)))
set_option maxRecDepth 100000 in
theorem m_X5_empties (l : Launch) (X : jX) (A : Nat → Prop) (hs : jst X A) (M : jm) (r : Int32) (N : jm) (h : f_X5_empties M = some (r, N)) : Met l yX5_empties (jws yX5_empties cX5_empties 2 (some .int)) (jrm 0 0) (va_Pc [.ref (jO X 0)] (jB X M)) (jQm X A (some (.int r)) N) 0 0 A := by
  refine jm_of (by decide) (Nat.le_of_ble_eq_true rfl) ?_
  intro p e s m args below meth c ls S hr hlocks hB hl
  have S : CallFix p m c cX5_empties 2 s args jtb RX5 := S
  obtain ⟨hx, hb, hml, hown, hts⟩ := id S
  obtain ⟨hP, hK⟩ := hB
  have hN := hK.2
  have hS : va_S A s.heap s.heap [] := va_S.rf
  have hl : lv_has ls 2 [(0, .ref (jO X 0))] := hl
  refine lv_aload_n hx hb dX5_empties_0 rfl (lv_at hl 0 rfl) ?_
  refine jr_get (k := 9) hx hb hts hown hK hP jb_0 (Nat.le_of_ble_eq_true rfl) jlX5_58 rfl dX5_empties_1 ?_
  refine lv_istore_n (lv' := [(1, .int (M 0 9 0)), (0, .ref (jO X 0))]) hx hb dX5_empties_4 rfl hl (Nat.le_of_ble_eq_true rfl) rfl (fun ls hl => ?_)
  refine lv_aload_n hx hb dX5_empties_5 rfl (lv_at hl 1 rfl) ?_
  refine lv_iconst (v := 0) hx hb dX5_empties_6 jci_0 ?_
  refine jr_put (k := 9) (z := 0) hx hb hts hown hK hP hs hS jb_0 (Nat.le_of_ble_eq_true rfl) jlX5_58 rfl (Or.inl rfl) rfl rfl rfl dX5_empties_7 (fun H locs hP hS => ?_)
  refine lv_iload_n hx hb dX5_empties_10 rfl (lv_at hl 0 rfl) ?_
  exact je_mi hx hb hr hlocks hK hP hS h dX5_empties_11
def f_X5_lots_l70 (K61_4 : jm → Int32 → Int32 → Int32 → Option (Int32 × jm)) (v1_3 : Int32) (v3_3 : Int32) (v4_4 : Int32) (v6_4 : Int32) : Nat → jm → Int32 → Int32 → Option (Int32 × jm)
  | 0, _, _, _ => none
  | k_4 + 1, M_4, v5_4, v7_4 => (if (M_4 2 5 0) ≤ v7_4 then (if v3_3 = 0 then (jb (f_X4_debtsBehind M_4 2 12) fun r6 => (K61_4 M_4 (v4_4 + r6) v5_4 (v6_4 + 1))) else (jb (f_X4_pricesBehind M_4 2 12) fun r5 => (K61_4 M_4 (v4_4 + r5) v5_4 (v6_4 + 1)))) else (jgd v7_4 6 (jgd v7_4 6 ((f_X5_lots_l70 K61_4 v1_3 v3_3 v4_4 v6_4 k_4) (ju (ju M_4 2 6 (Int32.toNatClampNeg v7_4) (f_X5_drawnCell (f_X5_nextSeed v5_4))) 2 7 (Int32.toNatClampNeg v7_4) (f_X5_drawnCell (f_X5_nextSeed (f_X5_nextSeed v5_4)))) (f_X5_nextSeed (f_X5_nextSeed v5_4)) (v7_4 + 1)))))
def f_X5_lots_l61 (v1_3 : Int32) (v3_3 : Int32) : Nat → jm → Int32 → Int32 → Int32 → Option (Int32 × jm)
  | 0, _, _, _, _ => none
  | k_3 + 1, M_3, v4_3, v5_3, v6_3 => (if v1_3 ≤ v6_3 then (some (v4_3, M_3)) else (f_X5_lots_l70 (f_X5_lots_l61 v1_3 v3_3 k_3) v1_3 v3_3 v4_3 v6_3 10000 M_3 v5_3 0))
def f_X5_lots_j41 (M_1 : jm) (v1_1 : Int32) (v2_1 : Int32) (v3_1 : Int32) : Option (Int32 × jm) := (jb (f_X4_become M_1 2 1) fun M_2 => (f_X5_lots_l61 v1_1 v3_1 10000 M_2 0 v2_1 0))
def f_X5_lots (M : jm) (v1 : Int32) (v2 : Int32) (v3 : Int32) : Option (Int32 × jm) := (if 1 ≤ v1 then (if v1 ≤ 20 then (if v3 = 0 then (f_X5_lots_j41 M v1 v2 v3) else (if v3 = 1 then (f_X5_lots_j41 M v1 v2 v3) else (jb2 (f_X5_refuse M (-2)) fun r11 M_11 => (some (r11, M_11))))) else (jb2 (f_X5_refuse M (-6)) fun r12 M_12 => (some (r12, M_12)))) else (jb2 (f_X5_refuse M (-4)) fun r13 M_13 => (some (r13, M_13))))
set_option maxRecDepth 100000 in
theorem m_X5_lots (l : Launch) (X : jX) (A : Nat → Prop) (hs : jst X A) (M : jm) (v1 : Int32) (v2 : Int32) (v3 : Int32) (r : Int32) (N : jm) (h : f_X5_lots M v1 v2 v3 = some (r, N)) : Met l yX5_lots (jws yX5_lots cX5_lots 8 (some .int)) (jrm 6 143) (va_Pc [.ref (jO X 0), .int v1, .int v2, .int v3] (jB X M)) (jQm X A (some (.int r)) N) 0 0 A := by
  refine jm_of (by decide) (Nat.le_of_ble_eq_true rfl) ?_
  intro p e s m args below meth c ls S hr hlocks hB hl
  have S : CallFix p m c cX5_lots 8 s args jtb RX5 := S
  obtain ⟨hx, hb, hml, hown, hts⟩ := id S
  obtain ⟨hP, hK⟩ := hB
  have hN := hK.2
  have hS : va_S A s.heap s.heap [] := va_S.rf
  have hl : lv_has ls 8 [(0, .ref (jO X 0)), (1, .int v1), (2, .int v2), (3, .int v3)] := hl
  refine lv_iload_n hx hb dX5_lots_0 rfl (lv_at hl 1 rfl) ?_
  refine lv_iconst (v := 1) hx hb dX5_lots_1 jci_1 ?_
  refine lv_icmp_ge (tgt := 12) hx hb dX5_lots_2 rfl (fun c2 => ?_) (fun c2 => ?_)
  · replace h := jh_t h c2
    refine lv_iload_n hx hb dX5_lots_12 rfl (lv_at hl 1 rfl) ?_
    refine lv_bipush (v := 20) hx hb dX5_lots_13 jcb_20 ?_
    refine lv_icmp_le (tgt := 25) hx hb dX5_lots_15 rfl (fun c15 => ?_) (fun c15 => ?_)
    · replace h := jh_t h c15
      refine lv_iload_n hx hb dX5_lots_25 rfl (lv_at hl 3 rfl) ?_
      have J41 : ∀ (M_1 : jm) (H : Heap) (locs : List Loc) (v1_1 : Int32) (v2_1 : Int32) (v3_1 : Int32) (ls : Array Slot), f_X5_lots_j41 M_1 v1_1 v2_1 v3_1 = some (r, N) → jrp X M_1 H → va_S A s.heap H locs → lv_has ls 8 [(0, .ref (jO X 0)), (1, .int v1_1), (2, .int v2_1), (3, .int v3_1)] → W p l e (jrm 6 143) s m args below meth c H locs 0 0 (MQ below (jQm X A (some (.int r)) N) args s 0 0 A) (F0 m 41 ls []) := by
        intro M_1 H locs v1_1 v2_1 v3_1 ls h hP hS hl
        refine lv_iconst (v := 0) hx hb dX5_lots_41 jci_0 ?_
        refine lv_istore (lv' := [(4, .int 0), (0, .ref (jO X 0)), (1, .int v1_1), (2, .int v2_1), (3, .int v3_1)]) hx hb dX5_lots_42 hl (Nat.le_of_ble_eq_true rfl) rfl (fun ls hl => ?_)
        refine lv_iload_n hx hb dX5_lots_44 rfl (lv_at hl 3 rfl) ?_
        refine lv_istore (lv' := [(5, .int v2_1), (4, .int 0), (0, .ref (jO X 0)), (1, .int v1_1), (2, .int v2_1), (3, .int v3_1)]) hx hb dX5_lots_45 hl (Nat.le_of_ble_eq_true rfl) rfl (fun ls hl => ?_)
        refine lv_aload_n hx hb dX5_lots_47 rfl (lv_at hl 2 rfl) ?_
        refine jr_get (k := 1) hx hb hts hown hK hP jb_0 (Nat.le_of_ble_eq_true rfl) jlX5_16 rfl dX5_lots_48 ?_
        refine lv_aload_n hx hb dX5_lots_51 rfl (lv_at hl 2 rfl) ?_
        refine jr_get (k := 0) hx hb hts hown hK hP jb_0 (Nat.le_of_ble_eq_true rfl) jlX5_12 rfl dX5_lots_52 ?_
        obtain ⟨M_2, e2, h⟩ := jh_b h
        refine jr_kv (jr_rv (As := [.ref (jO X 1)]) (rest := []) S hK hP jb_2 rfl (m_X4_become l X A hs M_1 jb_2 jb_1 M_2 e2) jw_X4_become ji_X4_become jmX5_76 rfl rfl ⟨(Nat.le_of_ble_eq_true rfl), (Nat.le_of_ble_eq_true rfl)⟩ rfl hl.1 rfl (Nat.le_of_ble_eq_true rfl) dX5_lots_55 ⟨Nat.zero_le _, Nat.zero_le _⟩) hS (fun H locs hP hS => ?_)
        refine lv_iconst (v := 0) hx hb dX5_lots_58 jci_0 ?_
        refine lv_istore (lv' := [(6, .int 0), (5, .int v2_1), (4, .int 0), (0, .ref (jO X 0)), (1, .int v1_1), (2, .int v2_1), (3, .int v3_1)]) hx hb dX5_lots_59 hl (Nat.le_of_ble_eq_true rfl) rfl (fun ls hl => ?_)
        have L61 : ∀ (v1_3 : Int32) (v3_3 : Int32) (k_3 : Nat) (M_3 : jm) (H : Heap) (locs : List Loc) (v4_3 : Int32) (v5_3 : Int32) (v6_3 : Int32) (ls : Array Slot), f_X5_lots_l61 v1_3 v3_3 k_3 M_3 v4_3 v5_3 v6_3 = some (r, N) → jrp X M_3 H → va_S A s.heap H locs → lv_has ls 8 [(0, .ref (jO X 0)), (1, .int v1_3), (3, .int v3_3), (4, .int v4_3), (5, .int v5_3), (6, .int v6_3)] → W p l e (jrm 6 143) s m args below meth c H locs 0 0 (MQ below (jQm X A (some (.int r)) N) args s 0 0 A) (F0 m 61 ls []) := by
          intro v1_3 v3_3 k_3
          induction k_3 with
          | zero => intro M_3 H locs v4_3 v5_3 v6_3 ls h; exact jh_0 h
          | succ k_3 ih61 =>
            intro M_3 H locs v4_3 v5_3 v6_3 ls h hP hS hl
            refine lv_iload hx hb dX5_lots_61 (lv_at hl 5 rfl) ?_
            refine lv_iload_n hx hb dX5_lots_63 rfl (lv_at hl 1 rfl) ?_
            refine lv_icmp_ge (tgt := 168) hx hb dX5_lots_64 rfl (fun c64 => ?_) (fun c64 => ?_)
            · replace h := jh_t h c64
              refine lv_iload hx hb dX5_lots_168 (lv_at hl 3 rfl) ?_
              exact je_mi hx hb hr hlocks hK hP hS h dX5_lots_170
            · replace h := jh_f h c64
              refine lv_iconst (v := 0) hx hb dX5_lots_67 jci_0 ?_
              refine lv_istore (lv' := [(7, .int 0), (0, .ref (jO X 0)), (1, .int v1_3), (3, .int v3_3), (4, .int v4_3), (5, .int v5_3), (6, .int v6_3)]) hx hb dX5_lots_68 hl (Nat.le_of_ble_eq_true rfl) rfl (fun ls hl => ?_)
              have L70 : ∀ (v4_4 : Int32) (v6_4 : Int32) (k_4 : Nat) (M_4 : jm) (H : Heap) (locs : List Loc) (v5_4 : Int32) (v7_4 : Int32) (ls : Array Slot), f_X5_lots_l70 (f_X5_lots_l61 v1_3 v3_3 k_3) v1_3 v3_3 v4_4 v6_4 k_4 M_4 v5_4 v7_4 = some (r, N) → jrp X M_4 H → va_S A s.heap H locs → lv_has ls 8 [(0, .ref (jO X 0)), (1, .int v1_3), (3, .int v3_3), (4, .int v4_4), (5, .int v5_4), (6, .int v6_4), (7, .int v7_4)] → W p l e (jrm 6 143) s m args below meth c H locs 0 0 (MQ below (jQm X A (some (.int r)) N) args s 0 0 A) (F0 m 70 ls []) := by
                intro v4_4 v6_4 k_4
                induction k_4 with
                | zero => intro M_4 H locs v5_4 v7_4 ls h; exact jh_0 h
                | succ k_4 ih70 =>
                  intro M_4 H locs v5_4 v7_4 ls h hP hS hl
                  refine lv_iload hx hb dX5_lots_70 (lv_at hl 6 rfl) ?_
                  refine lv_aload_n hx hb dX5_lots_72 rfl (lv_at hl 0 rfl) ?_
                  refine jr_get (k := 1) hx hb hts hown hK hP jb_0 (Nat.le_of_ble_eq_true rfl) jlX5_16 rfl dX5_lots_73 ?_
                  refine jr_get (k := 5) hx hb hts hown hK hP jb_2 (Nat.le_of_ble_eq_true rfl) jlX5_158 rfl dX5_lots_76 ?_
                  refine lv_icmp_ge (tgt := 132) hx hb dX5_lots_79 rfl (fun c79 => ?_) (fun c79 => ?_)
                  · replace h := jh_t h c79
                    refine lv_iload hx hb dX5_lots_132 (lv_at hl 3 rfl) ?_
                    refine lv_iload_n hx hb dX5_lots_134 rfl (lv_at hl 2 rfl) ?_
                    refine lv_if_ne (tgt := 150) hx hb dX5_lots_135 rfl (fun c135 => ?_) (fun c135 => ?_)
                    · replace h := jh_f h c135
                      refine lv_aload_n hx hb dX5_lots_150 rfl (lv_at hl 0 rfl) ?_
                      refine jr_get (k := 1) hx hb hts hown hK hP jb_0 (Nat.le_of_ble_eq_true rfl) jlX5_16 rfl dX5_lots_151 ?_
                      refine lv_bipush (v := 12) hx hb dX5_lots_154 jcb_12 ?_
                      obtain ⟨r5, e5, h⟩ := jh_b h
                      refine jr_kp (jr_rv (As := [.int 12]) (rest := [.int v4_4]) S hK hP jb_2 rfl (m_X4_pricesBehind l X M_4 jb_2 12 r5 e5) jw_X4_pricesBehind ji_X4_pricesBehind jmX5_198 rfl rfl ⟨(Nat.le_of_ble_eq_true rfl), (Nat.le_of_ble_eq_true rfl)⟩ rfl hl.1 rfl (Nat.le_of_ble_eq_true rfl) dX5_lots_156 ⟨Nat.zero_le _, Nat.zero_le _⟩) ?_
                      refine lv_iadd hx hb dX5_lots_159 ?_
                      refine lv_istore (lv' := [(4, .int (v4_4 + r5)), (0, .ref (jO X 0)), (1, .int v1_3), (3, .int v3_3), (5, .int v5_4), (6, .int v6_4), (7, .int v7_4)]) hx hb dX5_lots_160 hl (Nat.le_of_ble_eq_true rfl) rfl (fun ls hl => ?_)
                      refine lv_iinc (v := (v6_4 + 1)) (lv' := [(6, .int (v6_4 + 1)), (4, .int (v4_4 + r5)), (0, .ref (jO X 0)), (1, .int v1_3), (3, .int v3_3), (5, .int v5_4), (7, .int v7_4)]) hx hb dX5_lots_162 hl (k := 5) rfl (congrArg _ jci_1) (Nat.le_of_ble_eq_true rfl) rfl (fun ls hl => ?_)
                      refine lv_goto (tgt := 61) hx hb dX5_lots_165 rfl ?_
                      exact ih61 M_4 _ _ (v4_4 + r5) v5_4 (v6_4 + 1) _ h hP hS (lv_sub hl [2, 3, 4, 1, 5, 0] rfl)
                    · replace h := jh_t h c135
                      refine lv_aload_n hx hb dX5_lots_138 rfl (lv_at hl 0 rfl) ?_
                      refine jr_get (k := 1) hx hb hts hown hK hP jb_0 (Nat.le_of_ble_eq_true rfl) jlX5_16 rfl dX5_lots_139 ?_
                      refine lv_bipush (v := 12) hx hb dX5_lots_142 jcb_12 ?_
                      obtain ⟨r6, e6, h⟩ := jh_b h
                      refine jr_kp (jr_rv (As := [.int 12]) (rest := [.int v4_4]) S hK hP jb_2 rfl (m_X4_debtsBehind l X M_4 jb_2 12 r6 e6) jw_X4_debtsBehind ji_X4_debtsBehind jmX5_186 rfl rfl ⟨(Nat.le_of_ble_eq_true rfl), (Nat.le_of_ble_eq_true rfl)⟩ rfl hl.1 rfl (Nat.le_of_ble_eq_true rfl) dX5_lots_144 ⟨Nat.zero_le _, Nat.zero_le _⟩) ?_
                      refine lv_goto (tgt := 159) hx hb dX5_lots_147 rfl ?_
                      refine lv_iadd hx hb dX5_lots_159 ?_
                      refine lv_istore (lv' := [(4, .int (v4_4 + r6)), (0, .ref (jO X 0)), (1, .int v1_3), (3, .int v3_3), (5, .int v5_4), (6, .int v6_4), (7, .int v7_4)]) hx hb dX5_lots_160 hl (Nat.le_of_ble_eq_true rfl) rfl (fun ls hl => ?_)
                      refine lv_iinc (v := (v6_4 + 1)) (lv' := [(6, .int (v6_4 + 1)), (4, .int (v4_4 + r6)), (0, .ref (jO X 0)), (1, .int v1_3), (3, .int v3_3), (5, .int v5_4), (7, .int v7_4)]) hx hb dX5_lots_162 hl (k := 5) rfl (congrArg _ jci_1) (Nat.le_of_ble_eq_true rfl) rfl (fun ls hl => ?_)
                      refine lv_goto (tgt := 61) hx hb dX5_lots_165 rfl ?_
                      exact ih61 M_4 _ _ (v4_4 + r6) v5_4 (v6_4 + 1) _ h hP hS (lv_sub hl [2, 3, 4, 1, 5, 0] rfl)
                  · replace h := jh_f h c79
                    refine lv_iload hx hb dX5_lots_82 (lv_at hl 4 rfl) ?_
                    refine jr_kp (jr_rs (As := [.int v5_4]) (rest := []) S hN (m_X5_nextSeed l v5_4 _ rfl) jw_X5_nextSeed js_X5_nextSeed jmX5_293 rfl rfl ⟨(Nat.le_of_ble_eq_true rfl), (Nat.le_of_ble_eq_true rfl)⟩ rfl hl.1 rfl (Nat.le_of_ble_eq_true rfl) dX5_lots_84 ⟨Nat.zero_le _, Nat.zero_le _⟩) ?_
                    refine lv_istore (lv' := [(5, .int (f_X5_nextSeed v5_4)), (0, .ref (jO X 0)), (1, .int v1_3), (3, .int v3_3), (4, .int v4_4), (6, .int v6_4), (7, .int v7_4)]) hx hb dX5_lots_87 hl (Nat.le_of_ble_eq_true rfl) rfl (fun ls hl => ?_)
                    refine lv_aload_n hx hb dX5_lots_89 rfl (lv_at hl 1 rfl) ?_
                    refine jr_get (k := 1) hx hb hts hown hK hP jb_0 (Nat.le_of_ble_eq_true rfl) jlX5_16 rfl dX5_lots_90 ?_
                    refine jr_get (k := 6) hx hb hts hown hK hP jb_2 (Nat.le_of_ble_eq_true rfl) jlX5_122 rfl dX5_lots_93 ?_
                    refine lv_iload hx hb dX5_lots_96 (lv_at hl 6 rfl) ?_
                    refine lv_iload hx hb dX5_lots_98 (lv_at hl 0 rfl) ?_
                    refine jr_kp (jr_rs (As := [.int (f_X5_nextSeed v5_4)]) (rest := [.int v7_4, .ref (jA X 2 6)]) S hN (m_X5_drawnCell l (f_X5_nextSeed v5_4) _ rfl) jw_X5_drawnCell js_X5_drawnCell jmX5_296 rfl rfl ⟨(Nat.le_of_ble_eq_true rfl), (Nat.le_of_ble_eq_true rfl)⟩ rfl hl.1 rfl (Nat.le_of_ble_eq_true rfl) dX5_lots_100 ⟨Nat.zero_le _, Nat.zero_le _⟩) ?_
                    obtain ⟨g103, h⟩ := jh_gd h
                    refine jr_ast (n := 6) hx hb hK hP hs hS jb_2 rfl g103 dX5_lots_103 (fun H locs hP hS => ?_)
                    refine lv_iload hx hb dX5_lots_104 (lv_at hl 0 rfl) ?_
                    refine jr_kp (jr_rs (As := [.int (f_X5_nextSeed v5_4)]) (rest := []) S hN (m_X5_nextSeed l (f_X5_nextSeed v5_4) _ rfl) jw_X5_nextSeed js_X5_nextSeed jmX5_293 rfl rfl ⟨(Nat.le_of_ble_eq_true rfl), (Nat.le_of_ble_eq_true rfl)⟩ rfl hl.1 rfl (Nat.le_of_ble_eq_true rfl) dX5_lots_106 ⟨Nat.zero_le _, Nat.zero_le _⟩) ?_
                    refine lv_istore (lv' := [(5, .int (f_X5_nextSeed (f_X5_nextSeed v5_4))), (0, .ref (jO X 0)), (1, .int v1_3), (3, .int v3_3), (4, .int v4_4), (6, .int v6_4), (7, .int v7_4)]) hx hb dX5_lots_109 hl (Nat.le_of_ble_eq_true rfl) rfl (fun ls hl => ?_)
                    refine lv_aload_n hx hb dX5_lots_111 rfl (lv_at hl 1 rfl) ?_
                    refine jr_get (k := 1) hx hb hts hown hK hP jb_0 (Nat.le_of_ble_eq_true rfl) jlX5_16 rfl dX5_lots_112 ?_
                    refine jr_get (k := 7) hx hb hts hown hK hP jb_2 (Nat.le_of_ble_eq_true rfl) jlX5_125 rfl dX5_lots_115 ?_
                    refine lv_iload hx hb dX5_lots_118 (lv_at hl 6 rfl) ?_
                    refine lv_iload hx hb dX5_lots_120 (lv_at hl 0 rfl) ?_
                    refine jr_kp (jr_rs (As := [.int (f_X5_nextSeed (f_X5_nextSeed v5_4))]) (rest := [.int v7_4, .ref (jA X 2 7)]) S hN (m_X5_drawnCell l (f_X5_nextSeed (f_X5_nextSeed v5_4)) _ rfl) jw_X5_drawnCell js_X5_drawnCell jmX5_296 rfl rfl ⟨(Nat.le_of_ble_eq_true rfl), (Nat.le_of_ble_eq_true rfl)⟩ rfl hl.1 rfl (Nat.le_of_ble_eq_true rfl) dX5_lots_122 ⟨Nat.zero_le _, Nat.zero_le _⟩) ?_
                    obtain ⟨g125, h⟩ := jh_gd h
                    refine jr_ast (n := 6) hx hb hK hP hs hS jb_2 rfl g125 dX5_lots_125 (fun H locs hP hS => ?_)
                    refine lv_iinc (v := (v7_4 + 1)) (lv' := [(7, .int (v7_4 + 1)), (5, .int (f_X5_nextSeed (f_X5_nextSeed v5_4))), (0, .ref (jO X 0)), (1, .int v1_3), (3, .int v3_3), (4, .int v4_4), (6, .int v6_4)]) hx hb dX5_lots_126 hl (k := 6) rfl (congrArg _ jci_1) (Nat.le_of_ble_eq_true rfl) rfl (fun ls hl => ?_)
                    refine lv_goto (tgt := 70) hx hb dX5_lots_129 rfl ?_
                    exact ih70 (ju (ju M_4 2 6 (Int32.toNatClampNeg v7_4) (f_X5_drawnCell (f_X5_nextSeed v5_4))) 2 7 (Int32.toNatClampNeg v7_4) (f_X5_drawnCell (f_X5_nextSeed (f_X5_nextSeed v5_4)))) _ _ (f_X5_nextSeed (f_X5_nextSeed v5_4)) (v7_4 + 1) _ h hP hS (lv_sub hl [2, 3, 4, 5, 1, 6, 0] rfl)
              exact L70 v4_3 v6_3 10000 M_3 _ _ v5_3 0 _ h hP hS (lv_sub hl [1, 2, 3, 4, 5, 6, 0] rfl)
        exact L61 v1_1 v3_1 10000 M_2 _ _ 0 v2_1 0 _ h hP hS (lv_sub hl [3, 4, 6, 2, 1, 0] rfl)
      refine lv_if_eq (tgt := 41) hx hb dX5_lots_26 rfl (fun c26 => ?_) (fun c26 => ?_)
      · replace h := jh_t h c26
        exact J41 M _ _ v1 v2 v3 _ h hP hS hl
      · replace h := jh_f h c26
        refine lv_iload_n hx hb dX5_lots_29 rfl (lv_at hl 3 rfl) ?_
        refine lv_iconst (v := 1) hx hb dX5_lots_30 jci_1 ?_
        refine lv_icmp_eq (tgt := 41) hx hb dX5_lots_31 rfl (fun c31 => ?_) (fun c31 => ?_)
        · replace h := jh_t h c31
          exact J41 M _ _ v1 v2 v3 _ h hP hS hl
        · replace h := jh_f h c31
          refine lv_aload_n hx hb dX5_lots_34 rfl (lv_at hl 0 rfl) ?_
          refine lv_bipush (v := (-2)) hx hb dX5_lots_35 jcb_m2 ?_
          obtain ⟨r11, M_11, e11, h⟩ := jh_b2 h
          refine jr_km (jr_rv (As := [.int (-2)]) (rest := []) S hK hP jb_0 rfl (m_X5_refuse l X A hs M (-2) r11 M_11 e11) jw_X5_refuse ji_X5_refuse jmX5_65 rfl rfl ⟨(Nat.le_of_ble_eq_true rfl), (Nat.le_of_ble_eq_true rfl)⟩ rfl hl.1 rfl (Nat.le_of_ble_eq_true rfl) dX5_lots_37 ⟨Nat.zero_le _, Nat.zero_le _⟩) hS (fun H locs hP hS => ?_)
          exact je_mi hx hb hr hlocks hK hP hS h dX5_lots_40
    · replace h := jh_f h c15
      refine lv_aload_n hx hb dX5_lots_18 rfl (lv_at hl 0 rfl) ?_
      refine lv_bipush (v := (-6)) hx hb dX5_lots_19 jcb_m6 ?_
      obtain ⟨r12, M_12, e12, h⟩ := jh_b2 h
      refine jr_km (jr_rv (As := [.int (-6)]) (rest := []) S hK hP jb_0 rfl (m_X5_refuse l X A hs M (-6) r12 M_12 e12) jw_X5_refuse ji_X5_refuse jmX5_65 rfl rfl ⟨(Nat.le_of_ble_eq_true rfl), (Nat.le_of_ble_eq_true rfl)⟩ rfl hl.1 rfl (Nat.le_of_ble_eq_true rfl) dX5_lots_21 ⟨Nat.zero_le _, Nat.zero_le _⟩) hS (fun H locs hP hS => ?_)
      exact je_mi hx hb hr hlocks hK hP hS h dX5_lots_24
  · replace h := jh_f h c2
    refine lv_aload_n hx hb dX5_lots_5 rfl (lv_at hl 0 rfl) ?_
    refine lv_bipush (v := (-4)) hx hb dX5_lots_6 jcb_m4 ?_
    obtain ⟨r13, M_13, e13, h⟩ := jh_b2 h
    refine jr_km (jr_rv (As := [.int (-4)]) (rest := []) S hK hP jb_0 rfl (m_X5_refuse l X A hs M (-4) r13 M_13 e13) jw_X5_refuse ji_X5_refuse jmX5_65 rfl rfl ⟨(Nat.le_of_ble_eq_true rfl), (Nat.le_of_ble_eq_true rfl)⟩ rfl hl.1 rfl (Nat.le_of_ble_eq_true rfl) dX5_lots_8 ⟨Nat.zero_le _, Nat.zero_le _⟩) hS (fun H locs hP hS => ?_)
    exact je_mi hx hb hr hlocks hK hP hS h dX5_lots_11
def f_X5_image (M : jm) : Option (Int32 × jm) := (jb (f_X4_become M 3 1) fun M_1 => (some (((ju M_1 0 3 0 1) 1 10 0), (ju M_1 0 3 0 1))))
set_option maxRecDepth 100000 in
theorem m_X5_image (l : Launch) (X : jX) (A : Nat → Prop) (hs : jst X A) (M : jm) (r : Int32) (N : jm) (h : f_X5_image M = some (r, N)) : Met l yX5_image (jws yX5_image cX5_image 1 (some .int)) (jrm 2 61) (va_Pc [.ref (jO X 0)] (jB X M)) (jQm X A (some (.int r)) N) 0 0 A := by
  refine jm_of (by decide) (Nat.le_of_ble_eq_true rfl) ?_
  intro p e s m args below meth c ls S hr hlocks hB hl
  have S : CallFix p m c cX5_image 1 s args jtb RX5 := S
  obtain ⟨hx, hb, hml, hown, hts⟩ := id S
  obtain ⟨hP, hK⟩ := hB
  have hN := hK.2
  have hS : va_S A s.heap s.heap [] := va_S.rf
  have hl : lv_has ls 1 [(0, .ref (jO X 0))] := hl
  refine lv_aload_n hx hb dX5_image_0 rfl (lv_at hl 0 rfl) ?_
  refine jr_get (k := 2) hx hb hts hown hK hP jb_0 (Nat.le_of_ble_eq_true rfl) jlX5_19 rfl dX5_image_1 ?_
  refine lv_aload_n hx hb dX5_image_4 rfl (lv_at hl 0 rfl) ?_
  refine jr_get (k := 0) hx hb hts hown hK hP jb_0 (Nat.le_of_ble_eq_true rfl) jlX5_12 rfl dX5_image_5 ?_
  obtain ⟨M_1, e1, h⟩ := jh_b h
  refine jr_kv (jr_rv (As := [.ref (jO X 1)]) (rest := []) S hK hP jb_3 rfl (m_X4_become l X A hs M jb_3 jb_1 M_1 e1) jw_X4_become ji_X4_become jmX5_76 rfl rfl ⟨(Nat.le_of_ble_eq_true rfl), (Nat.le_of_ble_eq_true rfl)⟩ rfl hl.1 rfl (Nat.le_of_ble_eq_true rfl) dX5_image_8 ⟨Nat.zero_le _, Nat.zero_le _⟩) hS (fun H locs hP hS => ?_)
  refine lv_aload_n hx hb dX5_image_11 rfl (lv_at hl 0 rfl) ?_
  refine lv_iconst (v := 1) hx hb dX5_image_12 jci_1 ?_
  refine jr_put (k := 3) (z := 1) hx hb hts hown hK hP hs hS jb_0 (Nat.le_of_ble_eq_true rfl) jlX5_22 rfl (Or.inl rfl) rfl rfl rfl dX5_image_13 (fun H locs hP hS => ?_)
  refine lv_aload_n hx hb dX5_image_16 rfl (lv_at hl 0 rfl) ?_
  refine jr_get (k := 0) hx hb hts hown hK hP jb_0 (Nat.le_of_ble_eq_true rfl) jlX5_12 rfl dX5_image_17 ?_
  refine jr_get (k := 10) hx hb hts hown hK hP jb_1 (Nat.le_of_ble_eq_true rfl) jlX5_180 rfl dX5_image_20 ?_
  exact je_mi hx hb hr hlocks hK hP hS h dX5_image_23
def f_X5_restore (M : jm) : Option (Int32 × jm) := (if (M 0 3 0) = 0 then (jb2 (f_X5_refuse M (-3)) fun r3 M_3 => (some (r3, M_3))) else (jb (f_X4_become M 1 3) fun M_1 => (jb (f_X0_forget M_1) fun M_2 => (some ((M_2 1 10 0), M_2)))))
set_option maxRecDepth 100000 in
theorem m_X5_restore (l : Launch) (X : jX) (A : Nat → Prop) (hs : jst X A) (M : jm) (r : Int32) (N : jm) (h : f_X5_restore M = some (r, N)) : Met l yX5_restore (jws yX5_restore cX5_restore 1 (some .int)) (jrm 2 61) (va_Pc [.ref (jO X 0)] (jB X M)) (jQm X A (some (.int r)) N) 0 0 A := by
  refine jm_of (by decide) (Nat.le_of_ble_eq_true rfl) ?_
  intro p e s m args below meth c ls S hr hlocks hB hl
  have S : CallFix p m c cX5_restore 1 s args jtb RX5 := S
  obtain ⟨hx, hb, hml, hown, hts⟩ := id S
  obtain ⟨hP, hK⟩ := hB
  have hN := hK.2
  have hS : va_S A s.heap s.heap [] := va_S.rf
  have hl : lv_has ls 1 [(0, .ref (jO X 0))] := hl
  refine lv_aload_n hx hb dX5_restore_0 rfl (lv_at hl 0 rfl) ?_
  refine jr_get (k := 3) hx hb hts hown hK hP jb_0 (Nat.le_of_ble_eq_true rfl) jlX5_22 rfl dX5_restore_1 ?_
  refine lv_if_ne (tgt := 14) hx hb dX5_restore_4 rfl (fun c4 => ?_) (fun c4 => ?_)
  · replace h := jh_f h c4
    refine lv_aload_n hx hb dX5_restore_14 rfl (lv_at hl 0 rfl) ?_
    refine jr_get (k := 0) hx hb hts hown hK hP jb_0 (Nat.le_of_ble_eq_true rfl) jlX5_12 rfl dX5_restore_15 ?_
    refine lv_aload_n hx hb dX5_restore_18 rfl (lv_at hl 0 rfl) ?_
    refine jr_get (k := 2) hx hb hts hown hK hP jb_0 (Nat.le_of_ble_eq_true rfl) jlX5_19 rfl dX5_restore_19 ?_
    obtain ⟨M_1, e1, h⟩ := jh_b h
    refine jr_kv (jr_rv (As := [.ref (jO X 3)]) (rest := []) S hK hP jb_1 rfl (m_X4_become l X A hs M jb_1 jb_3 M_1 e1) jw_X4_become ji_X4_become jmX5_76 rfl rfl ⟨(Nat.le_of_ble_eq_true rfl), (Nat.le_of_ble_eq_true rfl)⟩ rfl hl.1 rfl (Nat.le_of_ble_eq_true rfl) dX5_restore_22 ⟨Nat.zero_le _, Nat.zero_le _⟩) hS (fun H locs hP hS => ?_)
    refine lv_aload_n hx hb dX5_restore_25 rfl (lv_at hl 0 rfl) ?_
    refine jr_get (k := 4) hx hb hts hown hK hP jb_0 (Nat.le_of_ble_eq_true rfl) jlX5_29 rfl dX5_restore_26 ?_
    obtain ⟨M_2, e2, h⟩ := jh_b h
    refine jr_kv (jr_rv (As := []) (rest := []) S hK hP jb_12 rfl (m_X0_forget l X A hs M_1  M_2 e2) jw_X0_forget ji_X0_forget jmX5_87 rfl rfl ⟨(Nat.le_of_ble_eq_true rfl), (Nat.le_of_ble_eq_true rfl)⟩ rfl hl.1 rfl (Nat.le_of_ble_eq_true rfl) dX5_restore_29 ⟨Nat.zero_le _, Nat.zero_le _⟩) hS (fun H locs hP hS => ?_)
    refine lv_aload_n hx hb dX5_restore_32 rfl (lv_at hl 0 rfl) ?_
    refine jr_get (k := 0) hx hb hts hown hK hP jb_0 (Nat.le_of_ble_eq_true rfl) jlX5_12 rfl dX5_restore_33 ?_
    refine jr_get (k := 10) hx hb hts hown hK hP jb_1 (Nat.le_of_ble_eq_true rfl) jlX5_180 rfl dX5_restore_36 ?_
    exact je_mi hx hb hr hlocks hK hP hS h dX5_restore_39
  · replace h := jh_t h c4
    refine lv_aload_n hx hb dX5_restore_7 rfl (lv_at hl 0 rfl) ?_
    refine lv_bipush (v := (-3)) hx hb dX5_restore_8 jcb_m3 ?_
    obtain ⟨r3, M_3, e3, h⟩ := jh_b2 h
    refine jr_km (jr_rv (As := [.int (-3)]) (rest := []) S hK hP jb_0 rfl (m_X5_refuse l X A hs M (-3) r3 M_3 e3) jw_X5_refuse ji_X5_refuse jmX5_65 rfl rfl ⟨(Nat.le_of_ble_eq_true rfl), (Nat.le_of_ble_eq_true rfl)⟩ rfl hl.1 rfl (Nat.le_of_ble_eq_true rfl) dX5_restore_10 ⟨Nat.zero_le _, Nat.zero_le _⟩) hS (fun H locs hP hS => ?_)
    exact je_mi hx hb hr hlocks hK hP hS h dX5_restore_13
def f_X5_count (M : jm) (v1 : Int32) : Option Int32 := (if v1 = 0 then (some (M 1 0 0)) else (if v1 = 1 then (some (M 1 5 0)) else (if v1 = 2 then (some (M 1 10 0)) else (if v1 = 3 then (jb (f_X4_debtsBehind M 1 0) fun r1 => (some r1)) else (if v1 = 4 then (jb (f_X4_pricesBehind M 1 0) fun r2 => (some r2)) else (if v1 = 5 then (some (M 13 1 0)) else (if v1 = 6 then (some (M 0 9 0)) else (if v1 = 7 then (some (M 12 2 0)) else (if v1 < 11 then (some (-9)) else (if 16 < v1 then (some (-9)) else (jgd (v1 - 10) 7 (some (M 0 10 (Int32.toNatClampNeg (v1 - 10)))))))))))))))
set_option maxRecDepth 100000 in
theorem m_X5_count (l : Launch) (X : jX) (M : jm) (v1 : Int32) (r : Int32) (h : f_X5_count M v1 = some r) : Met l yX5_count (jws yX5_count cX5_count 2 (some .int)) (jrm 6 143) (va_Pc [.ref (jO X 0), .int v1] (jB X M)) (jQ (.int r)) 0 0 (fun _ => False) := by
  refine jm_of (by decide) (Nat.le_of_ble_eq_true rfl) ?_
  intro p e s m args below meth c ls S hr hlocks hB hl
  have S : CallFix p m c cX5_count 2 s args jtb RX5 := S
  obtain ⟨hx, hb, hml, hown, hts⟩ := id S
  obtain ⟨hP, hK⟩ := hB
  have hN := hK.2
  have hl : lv_has ls 2 [(0, .ref (jO X 0)), (1, .int v1)] := hl
  refine lv_iload_n hx hb dX5_count_0 rfl (lv_at hl 1 rfl) ?_
  by_cases c1_0 : v1 = 0
  · replace h := jh_t h c1_0
    refine lv_tableIn (off := 47) (tgt := 48) hx hb dX5_count_1 (by rw [c1_0]; decide) (by rw [c1_0]; decide) (by rw [c1_0]; rfl) rfl ?_
    refine lv_aload_n hx hb dX5_count_48 rfl (lv_at hl 0 rfl) ?_
    refine jr_get (k := 0) hx hb hts hown hK hP jb_0 (Nat.le_of_ble_eq_true rfl) jlX5_12 rfl dX5_count_49 ?_
    refine jr_get (k := 0) hx hb hts hown hK hP jb_1 (Nat.le_of_ble_eq_true rfl) jlX5_148 rfl dX5_count_52 ?_
    exact je_i hx hb hr hlocks (Option.some.inj h) dX5_count_55
  replace h := jh_f h c1_0
  by_cases c1_1 : v1 = 1
  · replace h := jh_t h c1_1
    refine lv_tableIn (off := 55) (tgt := 56) hx hb dX5_count_1 (by rw [c1_1]; decide) (by rw [c1_1]; decide) (by rw [c1_1]; rfl) rfl ?_
    refine lv_aload_n hx hb dX5_count_56 rfl (lv_at hl 0 rfl) ?_
    refine jr_get (k := 0) hx hb hts hown hK hP jb_0 (Nat.le_of_ble_eq_true rfl) jlX5_12 rfl dX5_count_57 ?_
    refine jr_get (k := 5) hx hb hts hown hK hP jb_1 (Nat.le_of_ble_eq_true rfl) jlX5_158 rfl dX5_count_60 ?_
    exact je_i hx hb hr hlocks (Option.some.inj h) dX5_count_63
  replace h := jh_f h c1_1
  by_cases c1_2 : v1 = 2
  · replace h := jh_t h c1_2
    refine lv_tableIn (off := 63) (tgt := 64) hx hb dX5_count_1 (by rw [c1_2]; decide) (by rw [c1_2]; decide) (by rw [c1_2]; rfl) rfl ?_
    refine lv_aload_n hx hb dX5_count_64 rfl (lv_at hl 0 rfl) ?_
    refine jr_get (k := 0) hx hb hts hown hK hP jb_0 (Nat.le_of_ble_eq_true rfl) jlX5_12 rfl dX5_count_65 ?_
    refine jr_get (k := 10) hx hb hts hown hK hP jb_1 (Nat.le_of_ble_eq_true rfl) jlX5_180 rfl dX5_count_68 ?_
    exact je_i hx hb hr hlocks (Option.some.inj h) dX5_count_71
  replace h := jh_f h c1_2
  by_cases c1_3 : v1 = 3
  · replace h := jh_t h c1_3
    refine lv_tableIn (off := 71) (tgt := 72) hx hb dX5_count_1 (by rw [c1_3]; decide) (by rw [c1_3]; decide) (by rw [c1_3]; rfl) rfl ?_
    refine lv_aload_n hx hb dX5_count_72 rfl (lv_at hl 0 rfl) ?_
    refine jr_get (k := 0) hx hb hts hown hK hP jb_0 (Nat.le_of_ble_eq_true rfl) jlX5_12 rfl dX5_count_73 ?_
    refine lv_iconst (v := 0) hx hb dX5_count_76 jci_0 ?_
    obtain ⟨r1, e1, h⟩ := jh_b h
    refine jr_kp (jr_rv (As := [.int 0]) (rest := []) S hK hP jb_1 rfl (m_X4_debtsBehind l X M jb_1 0 r1 e1) jw_X4_debtsBehind ji_X4_debtsBehind jmX5_186 rfl rfl ⟨(Nat.le_of_ble_eq_true rfl), (Nat.le_of_ble_eq_true rfl)⟩ rfl hl.1 rfl (Nat.le_of_ble_eq_true rfl) dX5_count_77 ⟨Nat.zero_le _, Nat.zero_le _⟩) ?_
    exact je_i hx hb hr hlocks (Option.some.inj h) dX5_count_80
  replace h := jh_f h c1_3
  by_cases c1_4 : v1 = 4
  · replace h := jh_t h c1_4
    refine lv_tableIn (off := 80) (tgt := 81) hx hb dX5_count_1 (by rw [c1_4]; decide) (by rw [c1_4]; decide) (by rw [c1_4]; rfl) rfl ?_
    refine lv_aload_n hx hb dX5_count_81 rfl (lv_at hl 0 rfl) ?_
    refine jr_get (k := 0) hx hb hts hown hK hP jb_0 (Nat.le_of_ble_eq_true rfl) jlX5_12 rfl dX5_count_82 ?_
    refine lv_iconst (v := 0) hx hb dX5_count_85 jci_0 ?_
    obtain ⟨r2, e2, h⟩ := jh_b h
    refine jr_kp (jr_rv (As := [.int 0]) (rest := []) S hK hP jb_1 rfl (m_X4_pricesBehind l X M jb_1 0 r2 e2) jw_X4_pricesBehind ji_X4_pricesBehind jmX5_198 rfl rfl ⟨(Nat.le_of_ble_eq_true rfl), (Nat.le_of_ble_eq_true rfl)⟩ rfl hl.1 rfl (Nat.le_of_ble_eq_true rfl) dX5_count_86 ⟨Nat.zero_le _, Nat.zero_le _⟩) ?_
    exact je_i hx hb hr hlocks (Option.some.inj h) dX5_count_89
  replace h := jh_f h c1_4
  by_cases c1_5 : v1 = 5
  · replace h := jh_t h c1_5
    refine lv_tableIn (off := 89) (tgt := 90) hx hb dX5_count_1 (by rw [c1_5]; decide) (by rw [c1_5]; decide) (by rw [c1_5]; rfl) rfl ?_
    refine lv_aload_n hx hb dX5_count_90 rfl (lv_at hl 0 rfl) ?_
    refine jr_get (k := 5) hx hb hts hown hK hP jb_0 (Nat.le_of_ble_eq_true rfl) jlX5_36 rfl dX5_count_91 ?_
    refine jr_get (k := 1) hx hb hts hown hK hP jb_13 (Nat.le_of_ble_eq_true rfl) jlX5_299 rfl dX5_count_94 ?_
    exact je_i hx hb hr hlocks (Option.some.inj h) dX5_count_97
  replace h := jh_f h c1_5
  by_cases c1_6 : v1 = 6
  · replace h := jh_t h c1_6
    refine lv_tableIn (off := 97) (tgt := 98) hx hb dX5_count_1 (by rw [c1_6]; decide) (by rw [c1_6]; decide) (by rw [c1_6]; rfl) rfl ?_
    refine lv_aload_n hx hb dX5_count_98 rfl (lv_at hl 0 rfl) ?_
    refine jr_get (k := 9) hx hb hts hown hK hP jb_0 (Nat.le_of_ble_eq_true rfl) jlX5_58 rfl dX5_count_99 ?_
    exact je_i hx hb hr hlocks (Option.some.inj h) dX5_count_102
  replace h := jh_f h c1_6
  by_cases c1_7 : v1 = 7
  · replace h := jh_t h c1_7
    refine lv_tableIn (off := 102) (tgt := 103) hx hb dX5_count_1 (by rw [c1_7]; decide) (by rw [c1_7]; decide) (by rw [c1_7]; rfl) rfl ?_
    refine lv_aload_n hx hb dX5_count_103 rfl (lv_at hl 0 rfl) ?_
    refine jr_get (k := 4) hx hb hts hown hK hP jb_0 (Nat.le_of_ble_eq_true rfl) jlX5_29 rfl dX5_count_104 ?_
    refine jr_get (k := 2) hx hb hts hown hK hP jb_12 (Nat.le_of_ble_eq_true rfl) jlX5_189 rfl dX5_count_107 ?_
    exact je_i hx hb hr hlocks (Option.some.inj h) dX5_count_110
  replace h := jh_f h c1_7
  refine jr_tdef (ks := [0, 1, 2, 3, 4, 5, 6, 7]) (tgt := 111) hx hb dX5_count_1 (jsw_cons (jsw_ne c1_0 rfl) (jsw_cons (jsw_ne c1_1 rfl) (jsw_cons (jsw_ne c1_2 rfl) (jsw_cons (jsw_ne c1_3 rfl) (jsw_cons (jsw_ne c1_4 rfl) (jsw_cons (jsw_ne c1_5 rfl) (jsw_cons (jsw_ne c1_6 rfl) (jsw_cons (jsw_ne c1_7 rfl) (jsw_nil))))))))) (by decide) rfl ?_
  refine lv_iload_n hx hb dX5_count_111 rfl (lv_at hl 1 rfl) ?_
  refine lv_bipush (v := 11) hx hb dX5_count_112 jcb_11 ?_
  refine lv_icmp_lt (tgt := 135) hx hb dX5_count_114 rfl (fun c114 => ?_) (fun c114 => ?_)
  · replace h := jh_t h c114
    refine lv_bipush (v := (-9)) hx hb dX5_count_135 jcb_m9 ?_
    exact je_i hx hb hr hlocks (Option.some.inj h) dX5_count_137
  · replace h := jh_f h c114
    refine lv_iload_n hx hb dX5_count_117 rfl (lv_at hl 1 rfl) ?_
    refine lv_bipush (v := 16) hx hb dX5_count_118 jcb_16 ?_
    refine lv_icmp_gt (tgt := 135) hx hb dX5_count_120 rfl (fun c120 => ?_) (fun c120 => ?_)
    · replace h := jh_t h c120
      refine lv_bipush (v := (-9)) hx hb dX5_count_135 jcb_m9 ?_
      exact je_i hx hb hr hlocks (Option.some.inj h) dX5_count_137
    · replace h := jh_f h c120
      refine lv_aload_n hx hb dX5_count_123 rfl (lv_at hl 0 rfl) ?_
      refine jr_get (k := 10) hx hb hts hown hK hP jb_0 (Nat.le_of_ble_eq_true rfl) jlX5_62 rfl dX5_count_124 ?_
      refine lv_iload_n hx hb dX5_count_127 rfl (lv_at hl 1 rfl) ?_
      refine lv_bipush (v := 10) hx hb dX5_count_128 jcb_10 ?_
      refine lv_isub hx hb dX5_count_130 ?_
      obtain ⟨g131, h⟩ := jh_gd h
      refine jr_ald (n := 7) hx hb hK hP jb_0 rfl g131 dX5_count_131 ?_
      refine lv_goto (tgt := 137) hx hb dX5_count_132 rfl ?_
      exact je_i hx hb hr hlocks (Option.some.inj h) dX5_count_137
