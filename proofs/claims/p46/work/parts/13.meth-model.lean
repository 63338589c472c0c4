def f_X6_in (v0 : Int64) (v2 : Int64) (v4 : Int64) : Int32 := (if (lg_cmp v0 v2) < 0 then 0 else (if 0 < (lg_cmp v0 v4) then 0 else 1))
theorem z_X6_in (v0 : Int64) (v2 : Int64) (v4 : Int64) : f_X6_in v0 v2 v4 = 0 ∨ f_X6_in v0 v2 v4 = 1 := by
  unfold f_X6_in
  repeat' split
  all_goals first | exact Or.inl rfl | exact Or.inr rfl
set_option maxRecDepth 100000 in
theorem m_X6_in (l : Launch) (v0 : Int64) (v2 : Int64) (v4 : Int64) (r : Int32) (h : f_X6_in v0 v2 v4 = r) : Met l yX6_in (jws yX6_in cX6_in 6 (some .boolean)) (jrm 0 0) (va_Pc [.long v0, .long v2, .long v4] jN) (jQ (.int r)) 0 0 (fun _ => False) := by
  refine jm_of (by decide) (Nat.le_of_ble_eq_true rfl) ?_
  intro p e s m args below meth c ls S hr hlocks hB hl
  have S : CallFix p m c cX6_in 6 s args jtb RX6 := S
  obtain ⟨hx, hb, hml, hown, hts⟩ := id S
  have hN := hB
  have hl : lv_has ls 6 [(0, .long v0), (2, .long v2), (4, .long v4)] := hl
  refine lv_lload_n hx hb dX6_in_0 rfl (lv_at hl 0 rfl) ?_
  refine lv_lload_n hx hb dX6_in_1 rfl (lv_at hl 1 rfl) ?_
  refine W.lcmp hx hb dX6_in_2 ?_
  refine lv_if_lt (tgt := 17) hx hb dX6_in_3 rfl (fun c3 => ?_) (fun c3 => ?_)
  · replace h := jh_t h c3
    refine lv_iconst (v := 0) hx hb dX6_in_17 jci_0 ?_
    exact je_z hx hb hr hlocks (Or.inl rfl) h dX6_in_18
  · replace h := jh_f h c3
    refine lv_lload_n hx hb dX6_in_6 rfl (lv_at hl 0 rfl) ?_
    refine lv_lload hx hb dX6_in_7 (lv_at hl 2 rfl) ?_
    refine W.lcmp hx hb dX6_in_9 ?_
    refine lv_if_gt (tgt := 17) hx hb dX6_in_10 rfl (fun c10 => ?_) (fun c10 => ?_)
    · replace h := jh_t h c10
      refine lv_iconst (v := 0) hx hb dX6_in_17 jci_0 ?_
      exact je_z hx hb hr hlocks (Or.inl rfl) h dX6_in_18
    · replace h := jh_f h c10
      refine lv_iconst (v := 1) hx hb dX6_in_13 jci_1 ?_
      refine lv_goto (tgt := 18) hx hb dX6_in_14 rfl ?_
      exact je_z hx hb hr hlocks (Or.inr rfl) h dX6_in_18
def f_X6_refuse (M : jm) (v1 : Int32) : Option (Int32 × jm) := (jgd (-v1) 7 (jgd (-v1) 7 (some (v1, (ju M 16 12 (Int32.toNatClampNeg (-v1)) ((M 16 12 (Int32.toNatClampNeg (-v1))) + 1))))))
set_option maxRecDepth 100000 in
theorem m_X6_refuse (l : Launch) (X : jX) (A : Nat → Prop) (hs : jst X A) (M : jm) (v1 : Int32) (r : Int32) (N : jm) (h : f_X6_refuse M v1 = some (r, N)) : Met l yX6_refuse (jws yX6_refuse cX6_refuse 2 (some .int)) (jrm 0 0) (va_Pc [.ref (jO X 16), .int v1] (jB X M)) (jQm X A (some (.int r)) N) 0 0 A := by
  refine jm_of (by decide) (Nat.le_of_ble_eq_true rfl) ?_
  intro p e s m args below meth c ls S hr hlocks hB hl
  have S : CallFix p m c cX6_refuse 2 s args jtb RX6 := S
  obtain ⟨hx, hb, hml, hown, hts⟩ := id S
  obtain ⟨hP, hK⟩ := hB
  have hN := hK.2
  have hS : va_S A s.heap s.heap [] := va_S.rf
  have hl : lv_has ls 2 [(0, .ref (jO X 16)), (1, .int v1)] := hl
  refine lv_aload_n hx hb dX6_refuse_0 rfl (lv_at hl 0 rfl) ?_
  refine jr_get (k := 12) hx hb hts hown hK hP jb_16 (Nat.le_of_ble_eq_true rfl) jlX6_34 rfl dX6_refuse_1 ?_
  refine lv_iload_n hx hb dX6_refuse_4 rfl (lv_at hl 1 rfl) ?_
  refine lv_ineg hx hb dX6_refuse_5 ?_
  refine lv_dup2_11 hx hb dX6_refuse_6 rfl rfl ?_
  obtain ⟨g7, h⟩ := jh_gd h
  refine jr_ald (n := 7) hx hb hK hP jb_16 rfl g7 dX6_refuse_7 ?_
  refine lv_iconst (v := 1) hx hb dX6_refuse_8 jci_1 ?_
  refine lv_iadd hx hb dX6_refuse_9 ?_
  obtain ⟨g10, h⟩ := jh_gd h
  refine jr_ast (n := 7) hx hb hK hP hs hS jb_16 rfl g10 dX6_refuse_10 (fun H locs hP hS => ?_)
  refine lv_iload_n hx hb dX6_refuse_11 rfl (lv_at hl 1 rfl) ?_
  exact je_mi hx hb hr hlocks hK hP hS h dX6_refuse_12
def f_X6_isCell (v0 : Int32) : Int32 := (f_X6_in (Int32.toInt64 v0) 0 48)
theorem z_X6_isCell (v0 : Int32) : f_X6_isCell v0 = 0 ∨ f_X6_isCell v0 = 1 := by
  unfold f_X6_isCell
  repeat' split
  all_goals first | exact Or.inl rfl | exact Or.inr rfl | exact z_X6_in _ _ _
set_option maxRecDepth 100000 in
theorem m_X6_isCell (l : Launch) (v0 : Int32) (r : Int32) (h : f_X6_isCell v0 = r) : Met l yX6_isCell (jws yX6_isCell cX6_isCell 1 (some .boolean)) (jrm 1 25) (va_Pc [.int v0] jN) (jQ (.int r)) 0 0 (fun _ => False) := by
  refine jm_of (by decide) (Nat.le_of_ble_eq_true rfl) ?_
  intro p e s m args below meth c ls S hr hlocks hB hl
  have S : CallFix p m c cX6_isCell 1 s args jtb RX6 := S
  obtain ⟨hx, hb, hml, hown, hts⟩ := id S
  have hN := hB
  have hl : lv_has ls 1 [(0, .int v0)] := hl
  refine lv_iload_n hx hb dX6_isCell_0 rfl (lv_at hl 0 rfl) ?_
  refine lv_i2l hx hb dX6_isCell_1 rfl ?_
  refine lv_lconst (v := 0) hx hb dX6_isCell_2 rfl ?_
  refine lv_ldc2 hx hb hown (hts _ jkX6_83) dX6_isCell_3 ?_
  refine jr_kp (jr_rs (As := [.long (Int32.toInt64 v0), .long 0, .long 48]) (rest := []) S hN (m_X6_in l (Int32.toInt64 v0) 0 48 _ rfl) jw_X6_in js_X6_in jmX6_85 rfl rfl ⟨(Nat.le_of_ble_eq_true rfl), (Nat.le_of_ble_eq_true rfl)⟩ rfl hl.1 rfl (Nat.le_of_ble_eq_true rfl) dX6_isCell_6 ⟨Nat.zero_le _, Nat.zero_le _⟩) ?_
  exact je_z hx hb hr hlocks (z_X6_in (Int32.toInt64 v0) 0 48) h dX6_isCell_9
def f_X6_isHouse (M : jm) (v1 : Int32) : Int32 := (f_X6_in (Int32.toInt64 v1) 0 (Int32.toInt64 ((M 16 0 0) - 1)))
theorem z_X6_isHouse (M : jm) (v1 : Int32) : f_X6_isHouse M v1 = 0 ∨ f_X6_isHouse M v1 = 1 := by
  unfold f_X6_isHouse
  repeat' split
  all_goals first | exact Or.inl rfl | exact Or.inr rfl | exact z_X6_in _ _ _
set_option maxRecDepth 100000 in
theorem m_X6_isHouse (l : Launch) (X : jX) (M : jm) (v1 : Int32) (r : Int32) (h : f_X6_isHouse M v1 = r) : Met l yX6_isHouse (jws yX6_isHouse cX6_isHouse 2 (some .boolean)) (jrm 1 25) (va_Pc [.ref (jO X 16), .int v1] (jB X M)) (jQ (.int r)) 0 0 (fun _ => False) := by
  refine jm_of (by decide) (Nat.le_of_ble_eq_true rfl) ?_
  intro p e s m args below meth c ls S hr hlocks hB hl
  have S : CallFix p m c cX6_isHouse 2 s args jtb RX6 := S
  obtain ⟨hx, hb, hml, hown, hts⟩ := id S
  obtain ⟨hP, hK⟩ := hB
  have hN := hK.2
  have hl : lv_has ls 2 [(0, .ref (jO X 16)), (1, .int v1)] := hl
  refine lv_iload_n hx hb dX6_isHouse_0 rfl (lv_at hl 1 rfl) ?_
  refine lv_i2l hx hb dX6_isHouse_1 rfl ?_
  refine lv_lconst (v := 0) hx hb dX6_isHouse_2 rfl ?_
  refine lv_aload_n hx hb dX6_isHouse_3 rfl (lv_at hl 0 rfl) ?_
  refine jr_get (k := 0) hx hb hts hown hK hP jb_16 (Nat.le_of_ble_eq_true rfl) jlX6_89 rfl dX6_isHouse_4 ?_
  refine lv_iconst (v := 1) hx hb dX6_isHouse_7 jci_1 ?_
  refine lv_isub hx hb dX6_isHouse_8 ?_
  refine lv_i2l hx hb dX6_isHouse_9 rfl ?_
  refine jr_kp (jr_rs (As := [.long (Int32.toInt64 v1), .long 0, .long (Int32.toInt64 ((M 16 0 0) - 1))]) (rest := []) S hN (m_X6_in l (Int32.toInt64 v1) 0 (Int32.toInt64 ((M 16 0 0) - 1)) _ rfl) jw_X6_in js_X6_in jmX6_85 rfl rfl ⟨(Nat.le_of_ble_eq_true rfl), (Nat.le_of_ble_eq_true rfl)⟩ rfl hl.1 rfl (Nat.le_of_ble_eq_true rfl) dX6_isHouse_10 ⟨Nat.zero_le _, Nat.zero_le _⟩) ?_
  exact je_z hx hb hr hlocks (z_X6_in (Int32.toInt64 v1) 0 (Int32.toInt64 ((M 16 0 0) - 1))) h dX6_isHouse_13
def f_X6_isWalker (M : jm) (v1 : Int32) : Int32 := (f_X6_in (Int32.toInt64 v1) 0 (Int32.toInt64 ((M 16 5 0) - 1)))
theorem z_X6_isWalker (M : jm) (v1 : Int32) : f_X6_isWalker M v1 = 0 ∨ f_X6_isWalker M v1 = 1 := by
  unfold f_X6_isWalker
  repeat' split
  all_goals first | exact Or.inl rfl | exact Or.inr rfl | exact z_X6_in _ _ _
set_option maxRecDepth 100000 in
theorem m_X6_isWalker (l : Launch) (X : jX) (M : jm) (v1 : Int32) (r : Int32) (h : f_X6_isWalker M v1 = r) : Met l yX6_isWalker (jws yX6_isWalker cX6_isWalker 2 (some .boolean)) (jrm 1 25) (va_Pc [.ref (jO X 16), .int v1] (jB X M)) (jQ (.int r)) 0 0 (fun _ => False) := by
  refine jm_of (by decide) (Nat.le_of_ble_eq_true rfl) ?_
  intro p e s m args below meth c ls S hr hlocks hB hl
  have S : CallFix p m c cX6_isWalker 2 s args jtb RX6 := S
  obtain ⟨hx, hb, hml, hown, hts⟩ := id S
  obtain ⟨hP, hK⟩ := hB
  have hN := hK.2
  have hl : lv_has ls 2 [(0, .ref (jO X 16)), (1, .int v1)] := hl
  refine lv_iload_n hx hb dX6_isWalker_0 rfl (lv_at hl 1 rfl) ?_
  refine lv_i2l hx hb dX6_isWalker_1 rfl ?_
  refine lv_lconst (v := 0) hx hb dX6_isWalker_2 rfl ?_
  refine lv_aload_n hx hb dX6_isWalker_3 rfl (lv_at hl 0 rfl) ?_
  refine jr_get (k := 5) hx hb hts hown hK hP jb_16 (Nat.le_of_ble_eq_true rfl) jlX6_92 rfl dX6_isWalker_4 ?_
  refine lv_iconst (v := 1) hx hb dX6_isWalker_7 jci_1 ?_
  refine lv_isub hx hb dX6_isWalker_8 ?_
  refine lv_i2l hx hb dX6_isWalker_9 rfl ?_
  refine jr_kp (jr_rs (As := [.long (Int32.toInt64 v1), .long 0, .long (Int32.toInt64 ((M 16 5 0) - 1))]) (rest := []) S hN (m_X6_in l (Int32.toInt64 v1) 0 (Int32.toInt64 ((M 16 5 0) - 1)) _ rfl) jw_X6_in js_X6_in jmX6_85 rfl rfl ⟨(Nat.le_of_ble_eq_true rfl), (Nat.le_of_ble_eq_true rfl)⟩ rfl hl.1 rfl (Nat.le_of_ble_eq_true rfl) dX6_isWalker_10 ⟨Nat.zero_le _, Nat.zero_le _⟩) ?_
  exact je_z hx hb hr hlocks (z_X6_in (Int32.toInt64 v1) 0 (Int32.toInt64 ((M 16 5 0) - 1))) h dX6_isWalker_13
def f_X6_wrongNumber (v0 : Int32) (v1 : Int32) (v2 : Int32) : Int32 := (if v1 ≤ v0 then (if v0 ≤ v2 then 0 else (-6)) else (-4))
set_option maxRecDepth 100000 in
theorem m_X6_wrongNumber (l : Launch) (v0 : Int32) (v1 : Int32) (v2 : Int32) (r : Int32) (h : f_X6_wrongNumber v0 v1 v2 = r) : Met l yX6_wrongNumber (jws yX6_wrongNumber cX6_wrongNumber 3 (some .int)) (jrm 0 0) (va_Pc [.int v0, .int v1, .int v2] jN) (jQ (.int r)) 0 0 (fun _ => False) := by
  refine jm_of (by decide) (Nat.le_of_ble_eq_true rfl) ?_
  intro p e s m args below meth c ls S hr hlocks hB hl
  have S : CallFix p m c cX6_wrongNumber 3 s args jtb RX6 := S
  obtain ⟨hx, hb, hml, hown, hts⟩ := id S
  have hN := hB
  have hl : lv_has ls 3 [(0, .int v0), (1, .int v1), (2, .int v2)] := hl
  refine lv_iload_n hx hb dX6_wrongNumber_0 rfl (lv_at hl 0 rfl) ?_
  refine lv_iload_n hx hb dX6_wrongNumber_1 rfl (lv_at hl 1 rfl) ?_
  refine lv_icmp_ge (tgt := 10) hx hb dX6_wrongNumber_2 rfl (fun c2 => ?_) (fun c2 => ?_)
  · replace h := jh_t h c2
    refine lv_iload_n hx hb dX6_wrongNumber_10 rfl (lv_at hl 0 rfl) ?_
    refine lv_iload_n hx hb dX6_wrongNumber_11 rfl (lv_at hl 2 rfl) ?_
    refine lv_icmp_le (tgt := 20) hx hb dX6_wrongNumber_12 rfl (fun c12 => ?_) (fun c12 => ?_)
    · replace h := jh_t h c12
      refine lv_iconst (v := 0) hx hb dX6_wrongNumber_20 jci_0 ?_
      exact je_i hx hb hr hlocks h dX6_wrongNumber_21
    · replace h := jh_f h c12
      refine lv_bipush (v := (-6)) hx hb dX6_wrongNumber_15 jcb_m6 ?_
      refine lv_goto (tgt := 21) hx hb dX6_wrongNumber_17 rfl ?_
      exact je_i hx hb hr hlocks h dX6_wrongNumber_21
  · replace h := jh_f h c2
    refine lv_bipush (v := (-4)) hx hb dX6_wrongNumber_5 jcb_m4 ?_
    refine lv_goto (tgt := 21) hx hb dX6_wrongNumber_7 rfl ?_
    exact je_i hx hb hr hlocks h dX6_wrongNumber_21
def f_X6_wrongBit (v0 : Int32) (v1 : Int32) (v2 : Int32) : Int32 := (if v0 = 0 then (if (f_X6_in (Int32.toInt64 v1) 0 (Int32.toInt64 v2)) = 0 then (-2) else v0) else v0)
set_option maxRecDepth 100000 in
theorem m_X6_wrongBit (l : Launch) (v0 : Int32) (v1 : Int32) (v2 : Int32) (r : Int32) (h : f_X6_wrongBit v0 v1 v2 = r) : Met l yX6_wrongBit (jws yX6_wrongBit cX6_wrongBit 3 (some .int)) (jrm 1 25) (va_Pc [.int v0, .int v1, .int v2] jN) (jQ (.int r)) 0 0 (fun _ => False) := by
  refine jm_of (by decide) (Nat.le_of_ble_eq_true rfl) ?_
  intro p e s m args below meth c ls S hr hlocks hB hl
  have S : CallFix p m c cX6_wrongBit 3 s args jtb RX6 := S
  obtain ⟨hx, hb, hml, hown, hts⟩ := id S
  have hN := hB
  have hl : lv_has ls 3 [(0, .int v0), (1, .int v1), (2, .int v2)] := hl
  refine lv_iload_n hx hb dX6_wrongBit_0 rfl (lv_at hl 0 rfl) ?_
  refine lv_if_ne (tgt := 20) hx hb dX6_wrongBit_1 rfl (fun c1 => ?_) (fun c1 => ?_)
  · replace h := jh_f h c1
    refine lv_iload_n hx hb dX6_wrongBit_20 rfl (lv_at hl 0 rfl) ?_
    exact je_i hx hb hr hlocks h dX6_wrongBit_21
  · replace h := jh_t h c1
    refine lv_iload_n hx hb dX6_wrongBit_4 rfl (lv_at hl 1 rfl) ?_
    refine lv_i2l hx hb dX6_wrongBit_5 rfl ?_
    refine lv_lconst (v := 0) hx hb dX6_wrongBit_6 rfl ?_
    refine lv_iload_n hx hb dX6_wrongBit_7 rfl (lv_at hl 2 rfl) ?_
    refine lv_i2l hx hb dX6_wrongBit_8 rfl ?_
    refine jr_kp (jr_rs (As := [.long (Int32.toInt64 v1), .long 0, .long (Int32.toInt64 v2)]) (rest := []) S hN (m_X6_in l (Int32.toInt64 v1) 0 (Int32.toInt64 v2) _ rfl) jw_X6_in js_X6_in jmX6_85 rfl rfl ⟨(Nat.le_of_ble_eq_true rfl), (Nat.le_of_ble_eq_true rfl)⟩ rfl hl.1 rfl (Nat.le_of_ble_eq_true rfl) dX6_wrongBit_9 ⟨Nat.zero_le _, Nat.zero_le _⟩) ?_
    refine lv_if_ne (tgt := 20) hx hb dX6_wrongBit_12 rfl (fun c12 => ?_) (fun c12 => ?_)
    · replace h := jh_f h c12
      refine lv_iload_n hx hb dX6_wrongBit_20 rfl (lv_at hl 0 rfl) ?_
      exact je_i hx hb hr hlocks h dX6_wrongBit_21
    · replace h := jh_t h c12
      refine lv_bipush (v := (-2)) hx hb dX6_wrongBit_15 jcb_m2 ?_
      refine lv_goto (tgt := 21) hx hb dX6_wrongBit_17 rfl ?_
      exact je_i hx hb hr hlocks h dX6_wrongBit_21
def f_X6_hasBit (v0 : Int32) (v1 : Int32) : Int32 := (if ((v0 >>> (v1 &&& 31)) &&& 1) = 1 then 1 else 0)
theorem z_X6_hasBit (v0 : Int32) (v1 : Int32) : f_X6_hasBit v0 v1 = 0 ∨ f_X6_hasBit v0 v1 = 1 := by
  unfold f_X6_hasBit
  repeat' split
  all_goals first | exact Or.inl rfl | exact Or.inr rfl | exact z_X6_in _ _ _
set_option maxRecDepth 100000 in
theorem m_X6_hasBit (l : Launch) (v0 : Int32) (v1 : Int32) (r : Int32) (h : f_X6_hasBit v0 v1 = r) : Met l yX6_hasBit (jws yX6_hasBit cX6_hasBit 2 (some .boolean)) (jrm 0 0) (va_Pc [.int v0, .int v1] jN) (jQ (.int r)) 0 0 (fun _ => False) := by
  refine jm_of (by decide) (Nat.le_of_ble_eq_true rfl) ?_
  intro p e s m args below meth c ls S hr hlocks hB hl
  have S : CallFix p m c cX6_hasBit 2 s args jtb RX6 := S
  obtain ⟨hx, hb, hml, hown, hts⟩ := id S
  have hN := hB
  have hl : lv_has ls 2 [(0, .int v0), (1, .int v1)] := hl
  refine lv_iload_n hx hb dX6_hasBit_0 rfl (lv_at hl 0 rfl) ?_
  refine lv_iload_n hx hb dX6_hasBit_1 rfl (lv_at hl 1 rfl) ?_
  refine lv_ishr hx hb dX6_hasBit_2 ?_
  refine lv_iconst (v := 1) hx hb dX6_hasBit_3 jci_1 ?_
  refine lv_iand hx hb dX6_hasBit_4 ?_
  refine lv_iconst (v := 1) hx hb dX6_hasBit_5 jci_1 ?_
  refine lv_icmp_ne (tgt := 13) hx hb dX6_hasBit_6 rfl (fun c6 => ?_) (fun c6 => ?_)
  · replace h := jh_f h c6
    refine lv_iconst (v := 0) hx hb dX6_hasBit_13 jci_0 ?_
    exact je_z hx hb hr hlocks (Or.inl rfl) h dX6_hasBit_14
  · replace h := jh_t h c6
    refine lv_iconst (v := 1) hx hb dX6_hasBit_9 jci_1 ?_
    refine lv_goto (tgt := 14) hx hb dX6_hasBit_10 rfl ?_
    exact je_z hx hb hr hlocks (Or.inr rfl) h dX6_hasBit_14
def f_X6_onesOf_l4 : Nat → Int32 → Int32 → Option Int32
  | 0, _, _ => none
  | k_1 + 1, v1_1, v2_1 => (if v2_1 = 0 then (some v1_1) else ((f_X6_onesOf_l4 k_1) (v1_1 + 1) (v2_1 &&& (v2_1 - 1))))
def f_X6_onesOf (v0 : Int32) : Option Int32 := (f_X6_onesOf_l4 10000 0 v0)
set_option maxRecDepth 100000 in
theorem m_X6_onesOf (l : Launch) (v0 : Int32) (r : Int32) (h : f_X6_onesOf v0 = some r) : Met l yX6_onesOf (jws yX6_onesOf cX6_onesOf 3 (some .int)) (jrm 0 0) (va_Pc [.int v0] jN) (jQ (.int r)) 0 0 (fun _ => False) := by
  refine jm_of (by decide) (Nat.le_of_ble_eq_true rfl) ?_
  intro p e s m args below meth c ls S hr hlocks hB hl
  have S : CallFix p m c cX6_onesOf 3 s args jtb RX6 := S
  obtain ⟨hx, hb, hml, hown, hts⟩ := id S
  have hN := hB
  have hl : lv_has ls 3 [(0, .int v0)] := hl
  refine lv_iconst (v := 0) hx hb dX6_onesOf_0 jci_0 ?_
  refine lv_istore_n (lv' := [(1, .int 0), (0, .int v0)]) hx hb dX6_onesOf_1 rfl hl (Nat.le_of_ble_eq_true rfl) rfl (fun ls hl => ?_)
  refine lv_iload_n hx hb dX6_onesOf_2 rfl (lv_at hl 1 rfl) ?_
  refine lv_istore_n (lv' := [(2, .int v0), (1, .int 0), (0, .int v0)]) hx hb dX6_onesOf_3 rfl hl (Nat.le_of_ble_eq_true rfl) rfl (fun ls hl => ?_)
  have L4 : ∀ (k_1 : Nat) (v1_1 : Int32) (v2_1 : Int32) (ls : Array Slot), f_X6_onesOf_l4 k_1 v1_1 v2_1 = some r → lv_has ls 3 [(1, .int v1_1), (2, .int v2_1)] → W p l e (jrm 0 0) s m args below meth c s.heap [] 0 0 (MQ below (jQ (.int r)) args s 0 0 (fun _ => False)) (F0 m 4 ls []) := by
    intro k_1
    induction k_1 with
    | zero => intro v1_1 v2_1 ls h; exact jh_0 h
    | succ k_1 ih4 =>
      intro v1_1 v2_1 ls h hl
      refine lv_iload_n hx hb dX6_onesOf_4 rfl (lv_at hl 1 rfl) ?_
      refine lv_if_eq (tgt := 20) hx hb dX6_onesOf_5 rfl (fun c5 => ?_) (fun c5 => ?_)
      · replace h := jh_t h c5
        refine lv_iload_n hx hb dX6_onesOf_20 rfl (lv_at hl 0 rfl) ?_
        exact je_i hx hb hr hlocks (Option.some.inj h) dX6_onesOf_21
      · replace h := jh_f h c5
        refine lv_iinc (v := (v1_1 + 1)) (lv' := [(1, .int (v1_1 + 1)), (2, .int v2_1)]) hx hb dX6_onesOf_8 hl (k := 0) rfl (congrArg _ jci_1) (Nat.le_of_ble_eq_true rfl) rfl (fun ls hl => ?_)
        refine lv_iload_n hx hb dX6_onesOf_11 rfl (lv_at hl 1 rfl) ?_
        refine lv_iload_n hx hb dX6_onesOf_12 rfl (lv_at hl 1 rfl) ?_
        refine lv_iconst (v := 1) hx hb dX6_onesOf_13 jci_1 ?_
        refine lv_isub hx hb dX6_onesOf_14 ?_
        refine lv_iand hx hb dX6_onesOf_15 ?_
        refine lv_istore_n (lv' := [(2, .int (v2_1 &&& (v2_1 - 1))), (1, .int (v1_1 + 1))]) hx hb dX6_onesOf_16 rfl hl (Nat.le_of_ble_eq_true rfl) rfl (fun ls hl => ?_)
        refine lv_goto (tgt := 4) hx hb dX6_onesOf_17 rfl ?_
        exact ih4 (v1_1 + 1) (v2_1 &&& (v2_1 - 1)) _ h (lv_sub hl [1, 0] rfl)
  exact L4 10000 0 v0 _ h (lv_sub hl [1, 0] rfl)
def f_X6_apartBy (v0 : Int32) (v1 : Int32) : Int32 := (if v0 ≤ v1 then (v1 - v0) else (v0 - v1))
set_option maxRecDepth 100000 in
theorem m_X6_apartBy (l : Launch) (v0 : Int32) (v1 : Int32) (r : Int32) (h : f_X6_apartBy v0 v1 = r) : Met l yX6_apartBy (jws yX6_apartBy cX6_apartBy 2 (some .int)) (jrm 0 0) (va_Pc [.int v0, .int v1] jN) (jQ (.int r)) 0 0 (fun _ => False) := by
  refine jm_of (by decide) (Nat.le_of_ble_eq_true rfl) ?_
  intro p e s m args below meth c ls S hr hlocks hB hl
  have S : CallFix p m c cX6_apartBy 2 s args jtb RX6 := S
  obtain ⟨hx, hb, hml, hown, hts⟩ := id S
  have hN := hB
  have hl : lv_has ls 2 [(0, .int v0), (1, .int v1)] := hl
  refine lv_iload_n hx hb dX6_apartBy_0 rfl (lv_at hl 0 rfl) ?_
  refine lv_iload_n hx hb dX6_apartBy_1 rfl (lv_at hl 1 rfl) ?_
  refine lv_icmp_le (tgt := 11) hx hb dX6_apartBy_2 rfl (fun c2 => ?_) (fun c2 => ?_)
  · replace h := jh_t h c2
    refine lv_iload_n hx hb dX6_apartBy_11 rfl (lv_at hl 1 rfl) ?_
    refine lv_iload_n hx hb dX6_apartBy_12 rfl (lv_at hl 0 rfl) ?_
    refine lv_isub hx hb dX6_apartBy_13 ?_
    exact je_i hx hb hr hlocks h dX6_apartBy_14
  · replace h := jh_f h c2
    refine lv_iload_n hx hb dX6_apartBy_5 rfl (lv_at hl 0 rfl) ?_
    refine lv_iload_n hx hb dX6_apartBy_6 rfl (lv_at hl 1 rfl) ?_
    refine lv_isub hx hb dX6_apartBy_7 ?_
    refine lv_goto (tgt := 14) hx hb dX6_apartBy_8 rfl ?_
    exact je_i hx hb hr hlocks h dX6_apartBy_14
def f_X6_stepsOf (v0 : Int32) (v1 : Int32) : Int32 := ((f_X6_apartBy (v0 / 7) (v1 / 7)) + (f_X6_apartBy (v0 - v0 / 7 * 7) (v1 - v1 / 7 * 7)))
set_option maxRecDepth 100000 in
theorem m_X6_stepsOf (l : Launch) (v0 : Int32) (v1 : Int32) (r : Int32) (h : f_X6_stepsOf v0 v1 = r) : Met l yX6_stepsOf (jws yX6_stepsOf cX6_stepsOf 2 (some .int)) (jrm 1 21) (va_Pc [.int v0, .int v1] jN) (jQ (.int r)) 0 0 (fun _ => False) := by
  refine jm_of (by decide) (Nat.le_of_ble_eq_true rfl) ?_
  intro p e s m args below meth c ls S hr hlocks hB hl
  have S : CallFix p m c cX6_stepsOf 2 s args jtb RX6 := S
  obtain ⟨hx, hb, hml, hown, hts⟩ := id S
  have hN := hB
  have hl : lv_has ls 2 [(0, .int v0), (1, .int v1)] := hl
  refine lv_iload_n hx hb dX6_stepsOf_0 rfl (lv_at hl 0 rfl) ?_
  refine lv_bipush (v := 7) hx hb dX6_stepsOf_1 jcb_7 ?_
  refine lv_idiv hx hb dX6_stepsOf_3 (by decide) ?_
  refine lv_iload_n hx hb dX6_stepsOf_4 rfl (lv_at hl 1 rfl) ?_
  refine lv_bipush (v := 7) hx hb dX6_stepsOf_5 jcb_7 ?_
  refine lv_idiv hx hb dX6_stepsOf_7 (by decide) ?_
  refine jr_kp (jr_rs (As := [.int (v0 / 7), .int (v1 / 7)]) (rest := []) S hN (m_X6_apartBy l (v0 / 7) (v1 / 7) _ rfl) jw_X6_apartBy js_X6_apartBy jmX6_95 rfl rfl ⟨(Nat.le_of_ble_eq_true rfl), (Nat.le_of_ble_eq_true rfl)⟩ rfl hl.1 rfl (Nat.le_of_ble_eq_true rfl) dX6_stepsOf_8 ⟨Nat.zero_le _, Nat.zero_le _⟩) ?_
  refine lv_iload_n hx hb dX6_stepsOf_11 rfl (lv_at hl 0 rfl) ?_
  refine lv_bipush (v := 7) hx hb dX6_stepsOf_12 jcb_7 ?_
  refine lv_irem hx hb dX6_stepsOf_14 (by decide) ?_
  refine lv_iload_n hx hb dX6_stepsOf_15 rfl (lv_at hl 1 rfl) ?_
  refine lv_bipush (v := 7) hx hb dX6_stepsOf_16 jcb_7 ?_
  refine lv_irem hx hb dX6_stepsOf_18 (by decide) ?_
  refine jr_kp (jr_rs (As := [.int (v0 - v0 / 7 * 7), .int (v1 - v1 / 7 * 7)]) (rest := [.int (f_X6_apartBy (v0 / 7) (v1 / 7))]) S hN (m_X6_apartBy l (v0 - v0 / 7 * 7) (v1 - v1 / 7 * 7) _ rfl) jw_X6_apartBy js_X6_apartBy jmX6_95 rfl rfl ⟨(Nat.le_of_ble_eq_true rfl), (Nat.le_of_ble_eq_true rfl)⟩ rfl hl.1 rfl (Nat.le_of_ble_eq_true rfl) dX6_stepsOf_19 ⟨Nat.zero_le _, Nat.zero_le _⟩) ?_
  refine lv_iadd hx hb dX6_stepsOf_22 ?_
  exact je_i hx hb hr hlocks h dX6_stepsOf_23
def f_X6_reachOf (M : jm) (v1 : Int32) : Option Int32 := (jgd v1 8 (if (M 16 1 (Int32.toNatClampNeg v1)) = 1 then (some 3) else (if (M 16 1 (Int32.toNatClampNeg v1)) = 2 then (some 0) else (if (M 16 1 (Int32.toNatClampNeg v1)) = 3 then (jgd v1 8 (some (2 + ((M 16 2 (Int32.toNatClampNeg v1)) / 2)))) else (if (M 16 1 (Int32.toNatClampNeg v1)) = 4 then (some 1) else (if (M 16 1 (Int32.toNatClampNeg v1)) = 5 then (jgd v1 8 (some (4 + ((M 16 2 (Int32.toNatClampNeg v1)) / 2)))) else (some 2)))))))
set_option maxRecDepth 100000 in
theorem m_X6_reachOf (l : Launch) (X : jX) (M : jm) (v1 : Int32) (r : Int32) (h : f_X6_reachOf M v1 = some r) : Met l yX6_reachOf (jws yX6_reachOf cX6_reachOf 2 (some .int)) (jrm 0 0) (va_Pc [.ref (jO X 16), .int v1] (jB X M)) (jQ (.int r)) 0 0 (fun _ => False) := by
  refine jm_of (by decide) (Nat.le_of_ble_eq_true rfl) ?_
  intro p e s m args below meth c ls S hr hlocks hB hl
  have S : CallFix p m c cX6_reachOf 2 s args jtb RX6 := S
  obtain ⟨hx, hb, hml, hown, hts⟩ := id S
  obtain ⟨hP, hK⟩ := hB
  have hN := hK.2
  have hl : lv_has ls 2 [(0, .ref (jO X 16)), (1, .int v1)] := hl
  refine lv_aload_n hx hb dX6_reachOf_0 rfl (lv_at hl 0 rfl) ?_
  refine jr_get (k := 1) hx hb hts hown hK hP jb_16 (Nat.le_of_ble_eq_true rfl) jlX6_7 rfl dX6_reachOf_1 ?_
  refine lv_iload_n hx hb dX6_reachOf_4 rfl (lv_at hl 1 rfl) ?_
  obtain ⟨g5, h⟩ := jh_gd h
  refine jr_ald (n := 8) hx hb hK hP jb_16 rfl g5 dX6_reachOf_5 ?_
  by_cases c6_1 : (M 16 1 (Int32.toNatClampNeg v1)) = 1
  · replace h := jh_t h c6_1
    refine lv_tableIn (off := 34) (tgt := 40) hx hb dX6_reachOf_6 (by rw [c6_1]; decide) (by rw [c6_1]; decide) (by rw [c6_1]; rfl) rfl ?_
    refine lv_iconst (v := 3) hx hb dX6_reachOf_40 jci_3 ?_
    exact je_i hx hb hr hlocks (Option.some.inj h) dX6_reachOf_41
  replace h := jh_f h c6_1
  by_cases c6_2 : (M 16 1 (Int32.toNatClampNeg v1)) = 2
  · replace h := jh_t h c6_2
    refine lv_tableIn (off := 36) (tgt := 42) hx hb dX6_reachOf_6 (by rw [c6_2]; decide) (by rw [c6_2]; decide) (by rw [c6_2]; rfl) rfl ?_
    refine lv_iconst (v := 0) hx hb dX6_reachOf_42 jci_0 ?_
    exact je_i hx hb hr hlocks (Option.some.inj h) dX6_reachOf_43
  replace h := jh_f h c6_2
  by_cases c6_3 : (M 16 1 (Int32.toNatClampNeg v1)) = 3
  · replace h := jh_t h c6_3
    refine lv_tableIn (off := 38) (tgt := 44) hx hb dX6_reachOf_6 (by rw [c6_3]; decide) (by rw [c6_3]; decide) (by rw [c6_3]; rfl) rfl ?_
    refine lv_iconst (v := 2) hx hb dX6_reachOf_44 jci_2 ?_
    refine lv_aload_n hx hb dX6_reachOf_45 rfl (lv_at hl 0 rfl) ?_
    refine jr_get (k := 2) hx hb hts hown hK hP jb_16 (Nat.le_of_ble_eq_true rfl) jlX6_13 rfl dX6_reachOf_46 ?_
    refine lv_iload_n hx hb dX6_reachOf_49 rfl (lv_at hl 1 rfl) ?_
    obtain ⟨g50, h⟩ := jh_gd h
    refine jr_ald (n := 8) hx hb hK hP jb_16 rfl g50 dX6_reachOf_50 ?_
    refine lv_iconst (v := 2) hx hb dX6_reachOf_51 jci_2 ?_
    refine lv_idiv hx hb dX6_reachOf_52 (by decide) ?_
    refine lv_iadd hx hb dX6_reachOf_53 ?_
    exact je_i hx hb hr hlocks (Option.some.inj h) dX6_reachOf_54
  replace h := jh_f h c6_3
  by_cases c6_4 : (M 16 1 (Int32.toNatClampNeg v1)) = 4
  · replace h := jh_t h c6_4
    refine lv_tableIn (off := 49) (tgt := 55) hx hb dX6_reachOf_6 (by rw [c6_4]; decide) (by rw [c6_4]; decide) (by rw [c6_4]; rfl) rfl ?_
    refine lv_iconst (v := 1) hx hb dX6_reachOf_55 jci_1 ?_
    exact je_i hx hb hr hlocks (Option.some.inj h) dX6_reachOf_56
  replace h := jh_f h c6_4
  by_cases c6_5 : (M 16 1 (Int32.toNatClampNeg v1)) = 5
  · replace h := jh_t h c6_5
    refine lv_tableIn (off := 51) (tgt := 57) hx hb dX6_reachOf_6 (by rw [c6_5]; decide) (by rw [c6_5]; decide) (by rw [c6_5]; rfl) rfl ?_
    refine lv_iconst (v := 4) hx hb dX6_reachOf_57 jci_4 ?_
    refine lv_aload_n hx hb dX6_reachOf_58 rfl (lv_at hl 0 rfl) ?_
    refine jr_get (k := 2) hx hb hts hown hK hP jb_16 (Nat.le_of_ble_eq_true rfl) jlX6_13 rfl dX6_reachOf_59 ?_
    refine lv_iload_n hx hb dX6_reachOf_62 rfl (lv_at hl 1 rfl) ?_
    obtain ⟨g63, h⟩ := jh_gd h
    refine jr_ald (n := 8) hx hb hK hP jb_16 rfl g63 dX6_reachOf_63 ?_
    refine lv_iconst (v := 2) hx hb dX6_reachOf_64 jci_2 ?_
    refine lv_idiv hx hb dX6_reachOf_65 (by decide) ?_
    refine lv_iadd hx hb dX6_reachOf_66 ?_
    exact je_i hx hb hr hlocks (Option.some.inj h) dX6_reachOf_67
  replace h := jh_f h c6_5
  refine jr_tdef (ks := [1, 2, 3, 4, 5]) (tgt := 68) hx hb dX6_reachOf_6 (jsw_cons (jsw_ne c6_1 rfl) (jsw_cons (jsw_ne c6_2 rfl) (jsw_cons (jsw_ne c6_3 rfl) (jsw_cons (jsw_ne c6_4 rfl) (jsw_cons (jsw_ne c6_5 rfl) (jsw_nil)))))) (by decide) rfl ?_
  refine lv_iconst (v := 2) hx hb dX6_reachOf_68 jci_2 ?_
  exact je_i hx hb hr hlocks (Option.some.inj h) dX6_reachOf_69
def f_X6_minutesOf (M : jm) (v1 : Int32) (v2 : Int32) : Option Int32 := (jgd v1 8 (jgd v1 8 (if (M 16 1 (Int32.toNatClampNeg v1)) = 1 then (some (2 * ((M 16 2 (Int32.toNatClampNeg v1)) + 5))) else (if (M 16 1 (Int32.toNatClampNeg v1)) = 2 then (some (((M 16 2 (Int32.toNatClampNeg v1)) + 5) / 2)) else (if (M 16 1 (Int32.toNatClampNeg v1)) = 3 then (some (((M 16 2 (Int32.toNatClampNeg v1)) + 5) + 20)) else (if (M 16 1 (Int32.toNatClampNeg v1)) = 4 then (some ((((M 16 2 (Int32.toNatClampNeg v1)) + 5) / 2) + v2)) else (if (M 16 1 (Int32.toNatClampNeg v1)) = 5 then (some ((((M 16 2 (Int32.toNatClampNeg v1)) + 5) + 20) + (2 * v2))) else (some ((M 16 2 (Int32.toNatClampNeg v1)) + 5)))))))))
set_option maxRecDepth 100000 in
theorem m_X6_minutesOf (l : Launch) (X : jX) (M : jm) (v1 : Int32) (v2 : Int32) (r : Int32) (h : f_X6_minutesOf M v1 v2 = some r) : Met l yX6_minutesOf (jws yX6_minutesOf cX6_minutesOf 4 (some .int)) (jrm 0 0) (va_Pc [.ref (jO X 16), .int v1, .int v2] (jB X M)) (jQ (.int r)) 0 0 (fun _ => False) := by
  refine jm_of (by decide) (Nat.le_of_ble_eq_true rfl) ?_
  intro p e s m args below meth c ls S hr hlocks hB hl
  have S : CallFix p m c cX6_minutesOf 4 s args jtb RX6 := S
  obtain ⟨hx, hb, hml, hown, hts⟩ := id S
  obtain ⟨hP, hK⟩ := hB
  have hN := hK.2
  have hl : lv_has ls 4 [(0, .ref (jO X 16)), (1, .int v1), (2, .int v2)] := hl
  refine lv_aload_n hx hb dX6_minutesOf_0 rfl (lv_at hl 0 rfl) ?_
  refine jr_get (k := 2) hx hb hts hown hK hP jb_16 (Nat.le_of_ble_eq_true rfl) jlX6_13 rfl dX6_minutesOf_1 ?_
  refine lv_iload_n hx hb dX6_minutesOf_4 rfl (lv_at hl 1 rfl) ?_
  obtain ⟨g5, h⟩ := jh_gd h
  refine jr_ald (n := 8) hx hb hK hP jb_16 rfl g5 dX6_minutesOf_5 ?_
  refine lv_iconst (v := 5) hx hb dX6_minutesOf_6 jci_5 ?_
  refine lv_iadd hx hb dX6_minutesOf_7 ?_
  refine lv_istore_n (lv' := [(3, .int ((M 16 2 (Int32.toNatClampNeg v1)) + 5)), (0, .ref (jO X 16)), (1, .int v1), (2, .int v2)]) hx hb dX6_minutesOf_8 rfl hl (Nat.le_of_ble_eq_true rfl) rfl (fun ls hl => ?_)
  refine lv_aload_n hx hb dX6_minutesOf_9 rfl (lv_at hl 1 rfl) ?_
  refine jr_get (k := 1) hx hb hts hown hK hP jb_16 (Nat.le_of_ble_eq_true rfl) jlX6_7 rfl dX6_minutesOf_10 ?_
  refine lv_iload_n hx hb dX6_minutesOf_13 rfl (lv_at hl 2 rfl) ?_
  obtain ⟨g14, h⟩ := jh_gd h
  refine jr_ald (n := 8) hx hb hK hP jb_16 rfl g14 dX6_minutesOf_14 ?_
  by_cases c15_1 : (M 16 1 (Int32.toNatClampNeg v1)) = 1
  · replace h := jh_t h c15_1
    refine lv_tableIn (off := 33) (tgt := 48) hx hb dX6_minutesOf_15 (by rw [c15_1]; decide) (by rw [c15_1]; decide) (by rw [c15_1]; rfl) rfl ?_
    refine lv_iconst (v := 2) hx hb dX6_minutesOf_48 jci_2 ?_
    refine lv_iload_n hx hb dX6_minutesOf_49 rfl (lv_at hl 0 rfl) ?_
    refine lv_imul hx hb dX6_minutesOf_50 ?_
    exact je_i hx hb hr hlocks (Option.some.inj h) dX6_minutesOf_51
  replace h := jh_f h c15_1
  by_cases c15_2 : (M 16 1 (Int32.toNatClampNeg v1)) = 2
  · replace h := jh_t h c15_2
    refine lv_tableIn (off := 37) (tgt := 52) hx hb dX6_minutesOf_15 (by rw [c15_2]; decide) (by rw [c15_2]; decide) (by rw [c15_2]; rfl) rfl ?_
    refine lv_iload_n hx hb dX6_minutesOf_52 rfl (lv_at hl 0 rfl) ?_
    refine lv_iconst (v := 2) hx hb dX6_minutesOf_53 jci_2 ?_
    refine lv_idiv hx hb dX6_minutesOf_54 (by decide) ?_
    exact je_i hx hb hr hlocks (Option.some.inj h) dX6_minutesOf_55
  replace h := jh_f h c15_2
  by_cases c15_3 : (M 16 1 (Int32.toNatClampNeg v1)) = 3
  · replace h := jh_t h c15_3
    refine lv_tableIn (off := 41) (tgt := 56) hx hb dX6_minutesOf_15 (by rw [c15_3]; decide) (by rw [c15_3]; decide) (by rw [c15_3]; rfl) rfl ?_
    refine lv_iload_n hx hb dX6_minutesOf_56 rfl (lv_at hl 0 rfl) ?_
    refine lv_bipush (v := 20) hx hb dX6_minutesOf_57 jcb_20 ?_
    refine lv_iadd hx hb dX6_minutesOf_59 ?_
    exact je_i hx hb hr hlocks (Option.some.inj h) dX6_minutesOf_60
  replace h := jh_f h c15_3
  by_cases c15_4 : (M 16 1 (Int32.toNatClampNeg v1)) = 4
  · replace h := jh_t h c15_4
    refine lv_tableIn (off := 46) (tgt := 61) hx hb dX6_minutesOf_15 (by rw [c15_4]; decide) (by rw [c15_4]; decide) (by rw [c15_4]; rfl) rfl ?_
    refine lv_iload_n hx hb dX6_minutesOf_61 rfl (lv_at hl 0 rfl) ?_
    refine lv_iconst (v := 2) hx hb dX6_minutesOf_62 jci_2 ?_
    refine lv_idiv hx hb dX6_minutesOf_63 (by decide) ?_
    refine lv_iload_n hx hb dX6_minutesOf_64 rfl (lv_at hl 3 rfl) ?_
    refine lv_iadd hx hb dX6_minutesOf_65 ?_
    exact je_i hx hb hr hlocks (Option.some.inj h) dX6_minutesOf_66
  replace h := jh_f h c15_4
  by_cases c15_5 : (M 16 1 (Int32.toNatClampNeg v1)) = 5
  · replace h := jh_t h c15_5
    refine lv_tableIn (off := 52) (tgt := 67) hx hb dX6_minutesOf_15 (by rw [c15_5]; decide) (by rw [c15_5]; decide) (by rw [c15_5]; rfl) rfl ?_
    refine lv_iload_n hx hb dX6_minutesOf_67 rfl (lv_at hl 0 rfl) ?_
    refine lv_bipush (v := 20) hx hb dX6_minutesOf_68 jcb_20 ?_
    refine lv_iadd hx hb dX6_minutesOf_70 ?_
    refine lv_iconst (v := 2) hx hb dX6_minutesOf_71 jci_2 ?_
    refine lv_iload_n hx hb dX6_minutesOf_72 rfl (lv_at hl 3 rfl) ?_
    refine lv_imul hx hb dX6_minutesOf_73 ?_
    refine lv_iadd hx hb dX6_minutesOf_74 ?_
    exact je_i hx hb hr hlocks (Option.some.inj h) dX6_minutesOf_75
  replace h := jh_f h c15_5
  refine jr_tdef (ks := [1, 2, 3, 4, 5]) (tgt := 76) hx hb dX6_minutesOf_15 (jsw_cons (jsw_ne c15_1 rfl) (jsw_cons (jsw_ne c15_2 rfl) (jsw_cons (jsw_ne c15_3 rfl) (jsw_cons (jsw_ne c15_4 rfl) (jsw_cons (jsw_ne c15_5 rfl) (jsw_nil)))))) (by decide) rfl ?_
  refine lv_iload_n hx hb dX6_minutesOf_76 rfl (lv_at hl 0 rfl) ?_
  exact je_i hx hb hr hlocks (Option.some.inj h) dX6_minutesOf_77
def f_X6_canSee_j39 (M : jm) (v2_1 : Int32) (v3_1 : Int32) (t0_1 : Int32) : Option Int32 := (jgd v3_1 8 (if (M 16 4 (Int32.toNatClampNeg v3_1)) = 1 then (jgd v3_1 8 (if t0_1 < (f_X6_stepsOf v2_1 (M 16 3 (Int32.toNatClampNeg v3_1))) then (some 0) else (some 1))) else (some 0)))
def f_X6_canSee (M : jm) (v1 : Int32) (v2 : Int32) (v3 : Int32) : Option Int32 := (jgd v1 6 (if (M 16 8 (Int32.toNatClampNeg v1)) = 2 then (jb (f_X6_reachOf M v3) fun r4 => (f_X6_canSee_j39 M v2 v3 r4)) else (jgd v1 6 (if (M 16 8 (Int32.toNatClampNeg v1)) = 1 then (jb (f_X6_reachOf M v3) fun r3 => (f_X6_canSee_j39 M v2 v3 (r3 / 2))) else (f_X6_canSee_j39 M v2 v3 (-1))))))
set_option maxRecDepth 100000 in
theorem m_X6_canSee (l : Launch) (X : jX) (M : jm) (v1 : Int32) (v2 : Int32) (v3 : Int32) (r : Int32) (h : f_X6_canSee M v1 v2 v3 = some r) : Met l yX6_canSee (jws yX6_canSee cX6_canSee 5 (some .boolean)) (jrm 2 42) (va_Pc [.ref (jO X 16), .int v1, .int v2, .int v3] (jB X M)) (jQ (.int r)) 0 0 (fun _ => False) := by
  refine jm_of (by decide) (Nat.le_of_ble_eq_true rfl) ?_
  intro p e s m args below meth c ls S hr hlocks hB hl
  have S : CallFix p m c cX6_canSee 5 s args jtb RX6 := S
  obtain ⟨hx, hb, hml, hown, hts⟩ := id S
  obtain ⟨hP, hK⟩ := hB
  have hN := hK.2
  have hl : lv_has ls 5 [(0, .ref (jO X 16)), (1, .int v1), (2, .int v2), (3, .int v3)] := hl
  refine lv_aload_n hx hb dX6_canSee_0 rfl (lv_at hl 0 rfl) ?_
  refine jr_get (k := 8) hx hb hts hown hK hP jb_16 (Nat.le_of_ble_eq_true rfl) jlX6_28 rfl dX6_canSee_1 ?_
  refine lv_iload_n hx hb dX6_canSee_4 rfl (lv_at hl 1 rfl) ?_
  obtain ⟨g5, h⟩ := jh_gd h
  refine jr_ald (n := 6) hx hb hK hP jb_16 rfl g5 dX6_canSee_5 ?_
  refine lv_iconst (v := 2) hx hb dX6_canSee_6 jci_2 ?_
  have J39 : ∀ (v2_1 : Int32) (v3_1 : Int32) (t0_1 : Int32) (ls : Array Slot), f_X6_canSee_j39 M v2_1 v3_1 t0_1 = some r → lv_has ls 5 [(0, .ref (jO X 16)), (2, .int v2_1), (3, .int v3_1)] → W p l e (jrm 2 42) s m args below meth c s.heap [] 0 0 (MQ below (jQ (.int r)) args s 0 0 (fun _ => False)) (F0 m 39 ls [.int t0_1]) := by
    intro v2_1 v3_1 t0_1 ls h hl
    refine lv_istore (lv' := [(4, .int t0_1), (0, .ref (jO X 16)), (2, .int v2_1), (3, .int v3_1)]) hx hb dX6_canSee_39 hl (Nat.le_of_ble_eq_true rfl) rfl (fun ls hl => ?_)
    refine lv_aload_n hx hb dX6_canSee_41 rfl (lv_at hl 1 rfl) ?_
    refine jr_get (k := 4) hx hb hts hown hK hP jb_16 (Nat.le_of_ble_eq_true rfl) jlX6_19 rfl dX6_canSee_42 ?_
    refine lv_iload_n hx hb dX6_canSee_45 rfl (lv_at hl 3 rfl) ?_
    obtain ⟨g46, h⟩ := jh_gd h
    refine jr_ald (n := 8) hx hb hK hP jb_16 rfl g46 dX6_canSee_46 ?_
    refine lv_iconst (v := 1) hx hb dX6_canSee_47 jci_1 ?_
    refine lv_icmp_ne (tgt := 70) hx hb dX6_canSee_48 rfl (fun c48 => ?_) (fun c48 => ?_)
    · replace h := jh_f h c48
      refine lv_iconst (v := 0) hx hb dX6_canSee_70 jci_0 ?_
      exact je_z hx hb hr hlocks (Or.inl rfl) (Option.some.inj h) dX6_canSee_71
    · replace h := jh_t h c48
      refine lv_iload_n hx hb dX6_canSee_51 rfl (lv_at hl 2 rfl) ?_
      refine lv_aload_n hx hb dX6_canSee_52 rfl (lv_at hl 1 rfl) ?_
      refine jr_get (k := 3) hx hb hts hown hK hP jb_16 (Nat.le_of_ble_eq_true rfl) jlX6_16 rfl dX6_canSee_53 ?_
      refine lv_iload_n hx hb dX6_canSee_56 rfl (lv_at hl 3 rfl) ?_
      obtain ⟨g57, h⟩ := jh_gd h
      refine jr_ald (n := 8) hx hb hK hP jb_16 rfl g57 dX6_canSee_57 ?_
      refine jr_kp (jr_rs (As := [.int v2_1, .int (M 16 3 (Int32.toNatClampNeg v3_1))]) (rest := []) S hN (m_X6_stepsOf l v2_1 (M 16 3 (Int32.toNatClampNeg v3_1)) _ rfl) jw_X6_stepsOf js_X6_stepsOf jmX6_103 rfl rfl ⟨(Nat.le_of_ble_eq_true rfl), (Nat.le_of_ble_eq_true rfl)⟩ rfl hl.1 rfl (Nat.le_of_ble_eq_true rfl) dX6_canSee_58 ⟨Nat.zero_le _, Nat.zero_le _⟩) ?_
      refine lv_iload hx hb dX6_canSee_61 (lv_at hl 0 rfl) ?_
      refine lv_icmp_gt (tgt := 70) hx hb dX6_canSee_63 rfl (fun c63 => ?_) (fun c63 => ?_)
      · replace h := jh_t h c63
        refine lv_iconst (v := 0) hx hb dX6_canSee_70 jci_0 ?_
        exact je_z hx hb hr hlocks (Or.inl rfl) (Option.some.inj h) dX6_canSee_71
      · replace h := jh_f h c63
        refine lv_iconst (v := 1) hx hb dX6_canSee_66 jci_1 ?_
        refine lv_goto (tgt := 71) hx hb dX6_canSee_67 rfl ?_
        exact je_z hx hb hr hlocks (Or.inr rfl) (Option.some.inj h) dX6_canSee_71
  refine lv_icmp_ne (tgt := 18) hx hb dX6_canSee_7 rfl (fun c7 => ?_) (fun c7 => ?_)
  · replace h := jh_f h c7
    refine lv_aload_n hx hb dX6_canSee_18 rfl (lv_at hl 0 rfl) ?_
    refine jr_get (k := 8) hx hb hts hown hK hP jb_16 (Nat.le_of_ble_eq_true rfl) jlX6_28 rfl dX6_canSee_19 ?_
    refine lv_iload_n hx hb dX6_canSee_22 rfl (lv_at hl 1 rfl) ?_
    obtain ⟨g23, h⟩ := jh_gd h
    refine jr_ald (n := 6) hx hb hK hP jb_16 rfl g23 dX6_canSee_23 ?_
    refine lv_iconst (v := 1) hx hb dX6_canSee_24 jci_1 ?_
    refine lv_icmp_ne (tgt := 38) hx hb dX6_canSee_25 rfl (fun c25 => ?_) (fun c25 => ?_)
    · replace h := jh_f h c25
      refine lv_iconst (v := (-1)) hx hb dX6_canSee_38 jci_m1 ?_
      exact J39 v2 v3 (-1) _ h (lv_sub hl [0, 2, 3] rfl)
    · replace h := jh_t h c25
      refine lv_aload_n hx hb dX6_canSee_28 rfl (lv_at hl 0 rfl) ?_
      refine lv_iload_n hx hb dX6_canSee_29 rfl (lv_at hl 3 rfl) ?_
      obtain ⟨r3, e3, h⟩ := jh_b h
      refine jr_kp (jr_rv (As := [.int v3]) (rest := []) S hK hP jb_16 rfl (m_X6_reachOf l X M v3 r3 e3) jw_X6_reachOf ji_X6_reachOf jmX6_99 rfl rfl ⟨(Nat.le_of_ble_eq_true rfl), (Nat.le_of_ble_eq_true rfl)⟩ rfl hl.1 rfl (Nat.le_of_ble_eq_true rfl) dX6_canSee_30 ⟨Nat.zero_le _, Nat.zero_le _⟩) ?_
      refine lv_iconst (v := 2) hx hb dX6_canSee_33 jci_2 ?_
      refine lv_idiv hx hb dX6_canSee_34 (by decide) ?_
      refine lv_goto (tgt := 39) hx hb dX6_canSee_35 rfl ?_
      exact J39 v2 v3 (r3 / 2) _ h (lv_sub hl [0, 2, 3] rfl)
  · replace h := jh_t h c7
    refine lv_aload_n hx hb dX6_canSee_10 rfl (lv_at hl 0 rfl) ?_
    refine lv_iload_n hx hb dX6_canSee_11 rfl (lv_at hl 3 rfl) ?_
    obtain ⟨r4, e4, h⟩ := jh_b h
    refine jr_kp (jr_rv (As := [.int v3]) (rest := []) S hK hP jb_16 rfl (m_X6_reachOf l X M v3 r4 e4) jw_X6_reachOf ji_X6_reachOf jmX6_99 rfl rfl ⟨(Nat.le_of_ble_eq_true rfl), (Nat.le_of_ble_eq_true rfl)⟩ rfl hl.1 rfl (Nat.le_of_ble_eq_true rfl) dX6_canSee_12 ⟨Nat.zero_le _, Nat.zero_le _⟩) ?_
    refine lv_goto (tgt := 39) hx hb dX6_canSee_15 rfl ?_
    exact J39 v2 v3 r4 _ h (lv_sub hl [0, 2, 3] rfl)
def f_X6_seenFrom_l5 (M : jm) (v1_1 : Int32) (v2_1 : Int32) : Nat → Int32 → Int32 → Option Int32
  | 0, _, _ => none
  | k_1 + 1, v3_1, v4_1 => (if (M 16 0 0) ≤ v4_1 then (some v3_1) else (jb (f_X6_canSee M v1_1 v2_1 v4_1) fun r2 => (if r2 = 0 then ((f_X6_seenFrom_l5 M v1_1 v2_1 k_1) (v3_1 ||| 0) (v4_1 + 1)) else ((f_X6_seenFrom_l5 M v1_1 v2_1 k_1) (v3_1 ||| ((1 : Int32) <<< (v4_1 &&& 31))) (v4_1 + 1)))))
def f_X6_seenFrom (M : jm) (v1 : Int32) (v2 : Int32) : Option Int32 := (f_X6_seenFrom_l5 M v1 v2 10000 0 0)
set_option maxRecDepth 100000 in
theorem m_X6_seenFrom (l : Launch) (X : jX) (M : jm) (v1 : Int32) (v2 : Int32) (r : Int32) (h : f_X6_seenFrom M v1 v2 = some r) : Met l yX6_seenFrom (jws yX6_seenFrom cX6_seenFrom 5 (some .int)) (jrm 3 66) (va_Pc [.ref (jO X 16), .int v1, .int v2] (jB X M)) (jQ (.int r)) 0 0 (fun _ => False) := by
  refine jm_of (by decide) (Nat.le_of_ble_eq_true rfl) ?_
  intro p e s m args below meth c ls S hr hlocks hB hl
  have S : CallFix p m c cX6_seenFrom 5 s args jtb RX6 := S
  obtain ⟨hx, hb, hml, hown, hts⟩ := id S
  obtain ⟨hP, hK⟩ := hB
  have hN := hK.2
  have hl : lv_has ls 5 [(0, .ref (jO X 16)), (1, .int v1), (2, .int v2)] := hl
  refine lv_iconst (v := 0) hx hb dX6_seenFrom_0 jci_0 ?_
  refine lv_istore_n (lv' := [(3, .int 0), (0, .ref (jO X 16)), (1, .int v1), (2, .int v2)]) hx hb dX6_seenFrom_1 rfl hl (Nat.le_of_ble_eq_true rfl) rfl (fun ls hl => ?_)
  refine lv_iconst (v := 0) hx hb dX6_seenFrom_2 jci_0 ?_
  refine lv_istore (lv' := [(4, .int 0), (3, .int 0), (0, .ref (jO X 16)), (1, .int v1), (2, .int v2)]) hx hb dX6_seenFrom_3 hl (Nat.le_of_ble_eq_true rfl) rfl (fun ls hl => ?_)
  have L5 : ∀ (v1_1 : Int32) (v2_1 : Int32) (k_1 : Nat) (v3_1 : Int32) (v4_1 : Int32) (ls : Array Slot), f_X6_seenFrom_l5 M v1_1 v2_1 k_1 v3_1 v4_1 = some r → lv_has ls 5 [(0, .ref (jO X 16)), (1, .int v1_1), (2, .int v2_1), (3, .int v3_1), (4, .int v4_1)] → W p l e (jrm 3 66) s m args below meth c s.heap [] 0 0 (MQ below (jQ (.int r)) args s 0 0 (fun _ => False)) (F0 m 5 ls []) := by
    intro v1_1 v2_1 k_1
    induction k_1 with
    | zero => intro v3_1 v4_1 ls h; exact jh_0 h
    | succ k_1 ih5 =>
      intro v3_1 v4_1 ls h hl
      refine lv_iload hx hb dX6_seenFrom_5 (lv_at hl 4 rfl) ?_
      refine lv_aload_n hx hb dX6_seenFrom_7 rfl (lv_at hl 0 rfl) ?_
      refine jr_get (k := 0) hx hb hts hown hK hP jb_16 (Nat.le_of_ble_eq_true rfl) jlX6_89 rfl dX6_seenFrom_8 ?_
      refine lv_icmp_ge (tgt := 42) hx hb dX6_seenFrom_11 rfl (fun c11 => ?_) (fun c11 => ?_)
      · replace h := jh_t h c11
        refine lv_iload_n hx hb dX6_seenFrom_42 rfl (lv_at hl 3 rfl) ?_
        exact je_i hx hb hr hlocks (Option.some.inj h) dX6_seenFrom_43
      · replace h := jh_f h c11
        refine lv_iload_n hx hb dX6_seenFrom_14 rfl (lv_at hl 3 rfl) ?_
        refine lv_aload_n hx hb dX6_seenFrom_15 rfl (lv_at hl 0 rfl) ?_
        refine lv_iload_n hx hb dX6_seenFrom_16 rfl (lv_at hl 1 rfl) ?_
        refine lv_iload_n hx hb dX6_seenFrom_17 rfl (lv_at hl 2 rfl) ?_
        refine lv_iload hx hb dX6_seenFrom_18 (lv_at hl 4 rfl) ?_
        obtain ⟨r2, e2, h⟩ := jh_b h
        refine jr_kp (jr_rv (As := [.int v1_1, .int v2_1, .int v4_1]) (rest := [.int v3_1]) S hK hP jb_16 rfl (m_X6_canSee l X M v1_1 v2_1 v4_1 r2 e2) jw_X6_canSee ji_X6_canSee jmX6_106 rfl rfl ⟨(Nat.le_of_ble_eq_true rfl), (Nat.le_of_ble_eq_true rfl)⟩ rfl hl.1 rfl (Nat.le_of_ble_eq_true rfl) dX6_seenFrom_20 ⟨Nat.zero_le _, Nat.zero_le _⟩) ?_
        refine lv_if_eq (tgt := 33) hx hb dX6_seenFrom_23 rfl (fun c23 => ?_) (fun c23 => ?_)
        · replace h := jh_t h c23
          refine lv_iconst (v := 0) hx hb dX6_seenFrom_33 jci_0 ?_
          refine lv_ior hx hb dX6_seenFrom_34 ?_
          refine lv_istore_n (lv' := [(3, .int (v3_1 ||| 0)), (0, .ref (jO X 16)), (1, .int v1_1), (2, .int v2_1), (4, .int v4_1)]) hx hb dX6_seenFrom_35 rfl hl (Nat.le_of_ble_eq_true rfl) rfl (fun ls hl => ?_)
          refine lv_iinc (v := (v4_1 + 1)) (lv' := [(4, .int (v4_1 + 1)), (3, .int (v3_1 ||| 0)), (0, .ref (jO X 16)), (1, .int v1_1), (2, .int v2_1)]) hx hb dX6_seenFrom_36 hl (k := 4) rfl (congrArg _ jci_1) (Nat.le_of_ble_eq_true rfl) rfl (fun ls hl => ?_)
          refine lv_goto (tgt := 5) hx hb dX6_seenFrom_39 rfl ?_
          exact ih5 (v3_1 ||| 0) (v4_1 + 1) _ h (lv_sub hl [2, 3, 4, 1, 0] rfl)
        · replace h := jh_f h c23
          refine lv_iconst (v := 1) hx hb dX6_seenFrom_26 jci_1 ?_
          refine lv_iload hx hb dX6_seenFrom_27 (lv_at hl 4 rfl) ?_
          refine lv_ishl hx hb dX6_seenFrom_29 ?_
          refine lv_goto (tgt := 34) hx hb dX6_seenFrom_30 rfl ?_
          refine lv_ior hx hb dX6_seenFrom_34 ?_
          refine lv_istore_n (lv' := [(3, .int (v3_1 ||| ((1 : Int32) <<< (v4_1 &&& 31)))), (0, .ref (jO X 16)), (1, .int v1_1), (2, .int v2_1), (4, .int v4_1)]) hx hb dX6_seenFrom_35 rfl hl (Nat.le_of_ble_eq_true rfl) rfl (fun ls hl => ?_)
          refine lv_iinc (v := (v4_1 + 1)) (lv' := [(4, .int (v4_1 + 1)), (3, .int (v3_1 ||| ((1 : Int32) <<< (v4_1 &&& 31)))), (0, .ref (jO X 16)), (1, .int v1_1), (2, .int v2_1)]) hx hb dX6_seenFrom_36 hl (k := 4) rfl (congrArg _ jci_1) (Nat.le_of_ble_eq_true rfl) rfl (fun ls hl => ?_)
          refine lv_goto (tgt := 5) hx hb dX6_seenFrom_39 rfl ?_
          exact ih5 (v3_1 ||| ((1 : Int32) <<< (v4_1 &&& 31))) (v4_1 + 1) _ h (lv_sub hl [2, 3, 4, 1, 0] rfl)
  exact L5 v1 v2 10000 0 0 _ h (lv_sub hl [2, 3, 4, 1, 0] rfl)
def f_X6_owesBits_l4 (M : jm) (v1_1 : Int32) : Nat → Int32 → Int32 → Option Int32
  | 0, _, _ => none
  | k_1 + 1, v2_1, v3_1 => (if (M 16 0 0) ≤ v3_1 then (some v2_1) else (jgd ((7 * v1_1) + v3_1) 42 (if (M 16 9 (Int32.toNatClampNeg ((7 * v1_1) + v3_1))) ≤ 0 then ((f_X6_owesBits_l4 M v1_1 k_1) (v2_1 ||| 0) (v3_1 + 1)) else ((f_X6_owesBits_l4 M v1_1 k_1) (v2_1 ||| ((1 : Int32) <<< (v3_1 &&& 31))) (v3_1 + 1)))))
def f_X6_owesBits (M : jm) (v1 : Int32) : Option Int32 := (f_X6_owesBits_l4 M v1 10000 0 0)
set_option maxRecDepth 100000 in
theorem m_X6_owesBits (l : Launch) (X : jX) (M : jm) (v1 : Int32) (r : Int32) (h : f_X6_owesBits M v1 = some r) : Met l yX6_owesBits (jws yX6_owesBits cX6_owesBits 4 (some .int)) (jrm 0 0) (va_Pc [.ref (jO X 16), .int v1] (jB X M)) (jQ (.int r)) 0 0 (fun _ => False) := by
  refine jm_of (by decide) (Nat.le_of_ble_eq_true rfl) ?_
  intro p e s m args below meth c ls S hr hlocks hB hl
  have S : CallFix p m c cX6_owesBits 4 s args jtb RX6 := S
  obtain ⟨hx, hb, hml, hown, hts⟩ := id S
  obtain ⟨hP, hK⟩ := hB
  have hN := hK.2
  have hl : lv_has ls 4 [(0, .ref (jO X 16)), (1, .int v1)] := hl
  refine lv_iconst (v := 0) hx hb dX6_owesBits_0 jci_0 ?_
  refine lv_istore_n (lv' := [(2, .int 0), (0, .ref (jO X 16)), (1, .int v1)]) hx hb dX6_owesBits_1 rfl hl (Nat.le_of_ble_eq_true rfl) rfl (fun ls hl => ?_)
  refine lv_iconst (v := 0) hx hb dX6_owesBits_2 jci_0 ?_
  refine lv_istore_n (lv' := [(3, .int 0), (2, .int 0), (0, .ref (jO X 16)), (1, .int v1)]) hx hb dX6_owesBits_3 rfl hl (Nat.le_of_ble_eq_true rfl) rfl (fun ls hl => ?_)
  have L4 : ∀ (v1_1 : Int32) (k_1 : Nat) (v2_1 : Int32) (v3_1 : Int32) (ls : Array Slot), f_X6_owesBits_l4 M v1_1 k_1 v2_1 v3_1 = some r → lv_has ls 4 [(0, .ref (jO X 16)), (1, .int v1_1), (2, .int v2_1), (3, .int v3_1)] → W p l e (jrm 0 0) s m args below meth c s.heap [] 0 0 (MQ below (jQ (.int r)) args s 0 0 (fun _ => False)) (F0 m 4 ls []) := by
    intro v1_1 k_1
    induction k_1 with
    | zero => intro v2_1 v3_1 ls h; exact jh_0 h
    | succ k_1 ih4 =>
      intro v2_1 v3_1 ls h hl
      refine lv_iload_n hx hb dX6_owesBits_4 rfl (lv_at hl 3 rfl) ?_
      refine lv_aload_n hx hb dX6_owesBits_5 rfl (lv_at hl 0 rfl) ?_
      refine jr_get (k := 0) hx hb hts hown hK hP jb_16 (Nat.le_of_ble_eq_true rfl) jlX6_89 rfl dX6_owesBits_6 ?_
      refine lv_icmp_ge (tgt := 42) hx hb dX6_owesBits_9 rfl (fun c9 => ?_) (fun c9 => ?_)
      · replace h := jh_t h c9
        refine lv_iload_n hx hb dX6_owesBits_42 rfl (lv_at hl 2 rfl) ?_
        exact je_i hx hb hr hlocks (Option.some.inj h) dX6_owesBits_43
      · replace h := jh_f h c9
        refine lv_iload_n hx hb dX6_owesBits_12 rfl (lv_at hl 2 rfl) ?_
        refine lv_aload_n hx hb dX6_owesBits_13 rfl (lv_at hl 0 rfl) ?_
        refine jr_get (k := 9) hx hb hts hown hK hP jb_16 (Nat.le_of_ble_eq_true rfl) jlX6_31 rfl dX6_owesBits_14 ?_
        refine lv_bipush (v := 7) hx hb dX6_owesBits_17 jcb_7 ?_
        refine lv_iload_n hx hb dX6_owesBits_19 rfl (lv_at hl 1 rfl) ?_
        refine lv_imul hx hb dX6_owesBits_20 ?_
        refine lv_iload_n hx hb dX6_owesBits_21 rfl (lv_at hl 3 rfl) ?_
        refine lv_iadd hx hb dX6_owesBits_22 ?_
        obtain ⟨g23, h⟩ := jh_gd h
        refine jr_ald (n := 42) hx hb hK hP jb_16 rfl g23 dX6_owesBits_23 ?_
        refine lv_if_le (tgt := 33) hx hb dX6_owesBits_24 rfl (fun c24 => ?_) (fun c24 => ?_)
        · replace h := jh_t h c24
          refine lv_iconst (v := 0) hx hb dX6_owesBits_33 jci_0 ?_
          refine lv_ior hx hb dX6_owesBits_34 ?_
          refine lv_istore_n (lv' := [(2, .int (v2_1 ||| 0)), (0, .ref (jO X 16)), (1, .int v1_1), (3, .int v3_1)]) hx hb dX6_owesBits_35 rfl hl (Nat.le_of_ble_eq_true rfl) rfl (fun ls hl => ?_)
          refine lv_iinc (v := (v3_1 + 1)) (lv' := [(3, .int (v3_1 + 1)), (2, .int (v2_1 ||| 0)), (0, .ref (jO X 16)), (1, .int v1_1)]) hx hb dX6_owesBits_36 hl (k := 3) rfl (congrArg _ jci_1) (Nat.le_of_ble_eq_true rfl) rfl (fun ls hl => ?_)
          refine lv_goto (tgt := 4) hx hb dX6_owesBits_39 rfl ?_
          exact ih4 (v2_1 ||| 0) (v3_1 + 1) _ h (lv_sub hl [2, 3, 1, 0] rfl)
        · replace h := jh_f h c24
          refine lv_iconst (v := 1) hx hb dX6_owesBits_27 jci_1 ?_
          refine lv_iload_n hx hb dX6_owesBits_28 rfl (lv_at hl 3 rfl) ?_
          refine lv_ishl hx hb dX6_owesBits_29 ?_
          refine lv_goto (tgt := 34) hx hb dX6_owesBits_30 rfl ?_
          refine lv_ior hx hb dX6_owesBits_34 ?_
          refine lv_istore_n (lv' := [(2, .int (v2_1 ||| ((1 : Int32) <<< (v3_1 &&& 31)))), (0, .ref (jO X 16)), (1, .int v1_1), (3, .int v3_1)]) hx hb dX6_owesBits_35 rfl hl (Nat.le_of_ble_eq_true rfl) rfl (fun ls hl => ?_)
          refine lv_iinc (v := (v3_1 + 1)) (lv' := [(3, .int (v3_1 + 1)), (2, .int (v2_1 ||| ((1 : Int32) <<< (v3_1 &&& 31)))), (0, .ref (jO X 16)), (1, .int v1_1)]) hx hb dX6_owesBits_36 hl (k := 3) rfl (congrArg _ jci_1) (Nat.le_of_ble_eq_true rfl) rfl (fun ls hl => ?_)
          refine lv_goto (tgt := 4) hx hb dX6_owesBits_39 rfl ?_
          exact ih4 (v2_1 ||| ((1 : Int32) <<< (v3_1 &&& 31))) (v3_1 + 1) _ h (lv_sub hl [2, 3, 1, 0] rfl)
  exact L4 v1 10000 0 0 _ h (lv_sub hl [2, 3, 1, 0] rfl)
def f_X6_priceOf_l4 (M : jm) (v1_1 : Int32) : Nat → Int32 → Int32 → Option Int32
  | 0, _, _ => none
  | k_1 + 1, v2_1, v3_1 => (if (M 16 0 0) ≤ v3_1 then (some v2_1) else (jgd ((7 * v1_1) + v3_1) 42 (if (M 16 9 (Int32.toNatClampNeg ((7 * v1_1) + v3_1))) ≤ 0 then ((f_X6_priceOf_l4 M v1_1 k_1) (v2_1 + 0) (v3_1 + 1)) else (jb (f_X6_minutesOf M v3_1 ((M 16 9 (Int32.toNatClampNeg ((7 * v1_1) + v3_1))) - 1)) fun r2 => ((f_X6_priceOf_l4 M v1_1 k_1) (v2_1 + r2) (v3_1 + 1))))))
def f_X6_priceOf (M : jm) (v1 : Int32) : Option Int32 := (f_X6_priceOf_l4 M v1 10000 0 0)
set_option maxRecDepth 100000 in
theorem m_X6_priceOf (l : Launch) (X : jX) (M : jm) (v1 : Int32) (r : Int32) (h : f_X6_priceOf M v1 = some r) : Met l yX6_priceOf (jws yX6_priceOf cX6_priceOf 5 (some .int)) (jrm 1 23) (va_Pc [.ref (jO X 16), .int v1] (jB X M)) (jQ (.int r)) 0 0 (fun _ => False) := by
  refine jm_of (by decide) (Nat.le_of_ble_eq_true rfl) ?_
  intro p e s m args below meth c ls S hr hlocks hB hl
  have S : CallFix p m c cX6_priceOf 5 s args jtb RX6 := S
  obtain ⟨hx, hb, hml, hown, hts⟩ := id S
  obtain ⟨hP, hK⟩ := hB
  have hN := hK.2
  have hl : lv_has ls 5 [(0, .ref (jO X 16)), (1, .int v1)] := hl
  refine lv_iconst (v := 0) hx hb dX6_priceOf_0 jci_0 ?_
  refine lv_istore_n (lv' := [(2, .int 0), (0, .ref (jO X 16)), (1, .int v1)]) hx hb dX6_priceOf_1 rfl hl (Nat.le_of_ble_eq_true rfl) rfl (fun ls hl => ?_)
  refine lv_iconst (v := 0) hx hb dX6_priceOf_2 jci_0 ?_
  refine lv_istore_n (lv' := [(3, .int 0), (2, .int 0), (0, .ref (jO X 16)), (1, .int v1)]) hx hb dX6_priceOf_3 rfl hl (Nat.le_of_ble_eq_true rfl) rfl (fun ls hl => ?_)
  have L4 : ∀ (v1_1 : Int32) (k_1 : Nat) (v2_1 : Int32) (v3_1 : Int32) (ls : Array Slot), f_X6_priceOf_l4 M v1_1 k_1 v2_1 v3_1 = some r → lv_has ls 5 [(0, .ref (jO X 16)), (1, .int v1_1), (2, .int v2_1), (3, .int v3_1)] → W p l e (jrm 1 23) s m args below meth c s.heap [] 0 0 (MQ below (jQ (.int r)) args s 0 0 (fun _ => False)) (F0 m 4 ls []) := by
    intro v1_1 k_1
    induction k_1 with
    | zero => intro v2_1 v3_1 ls h; exact jh_0 h
    | succ k_1 ih4 =>
      intro v2_1 v3_1 ls h hl
      refine lv_iload_n hx hb dX6_priceOf_4 rfl (lv_at hl 3 rfl) ?_
      refine lv_aload_n hx hb dX6_priceOf_5 rfl (lv_at hl 0 rfl) ?_
      refine jr_get (k := 0) hx hb hts hown hK hP jb_16 (Nat.le_of_ble_eq_true rfl) jlX6_89 rfl dX6_priceOf_6 ?_
      refine lv_icmp_ge (tgt := 52) hx hb dX6_priceOf_9 rfl (fun c9 => ?_) (fun c9 => ?_)
      · replace h := jh_t h c9
        refine lv_iload_n hx hb dX6_priceOf_52 rfl (lv_at hl 2 rfl) ?_
        exact je_i hx hb hr hlocks (Option.some.inj h) dX6_priceOf_53
      · replace h := jh_f h c9
        refine lv_aload_n hx hb dX6_priceOf_12 rfl (lv_at hl 0 rfl) ?_
        refine jr_get (k := 9) hx hb hts hown hK hP jb_16 (Nat.le_of_ble_eq_true rfl) jlX6_31 rfl dX6_priceOf_13 ?_
        refine lv_bipush (v := 7) hx hb dX6_priceOf_16 jcb_7 ?_
        refine lv_iload_n hx hb dX6_priceOf_18 rfl (lv_at hl 1 rfl) ?_
        refine lv_imul hx hb dX6_priceOf_19 ?_
        refine lv_iload_n hx hb dX6_priceOf_20 rfl (lv_at hl 3 rfl) ?_
        refine lv_iadd hx hb dX6_priceOf_21 ?_
        obtain ⟨g22, h⟩ := jh_gd h
        refine jr_ald (n := 42) hx hb hK hP jb_16 rfl g22 dX6_priceOf_22 ?_
        refine lv_istore (lv' := [(4, .int (M 16 9 (Int32.toNatClampNeg ((7 * v1_1) + v3_1)))), (0, .ref (jO X 16)), (1, .int v1_1), (2, .int v2_1), (3, .int v3_1)]) hx hb dX6_priceOf_23 hl (Nat.le_of_ble_eq_true rfl) rfl (fun ls hl => ?_)
        refine lv_iload_n hx hb dX6_priceOf_25 rfl (lv_at hl 3 rfl) ?_
        refine lv_iload hx hb dX6_priceOf_26 (lv_at hl 0 rfl) ?_
        refine lv_if_le (tgt := 43) hx hb dX6_priceOf_28 rfl (fun c28 => ?_) (fun c28 => ?_)
        · replace h := jh_t h c28
          refine lv_iconst (v := 0) hx hb dX6_priceOf_43 jci_0 ?_
          refine lv_iadd hx hb dX6_priceOf_44 ?_
          refine lv_istore_n (lv' := [(2, .int (v2_1 + 0)), (4, .int (M 16 9 (Int32.toNatClampNeg ((7 * v1_1) + v3_1)))), (0, .ref (jO X 16)), (1, .int v1_1), (3, .int v3_1)]) hx hb dX6_priceOf_45 rfl hl (Nat.le_of_ble_eq_true rfl) rfl (fun ls hl => ?_)
          refine lv_iinc (v := (v3_1 + 1)) (lv' := [(3, .int (v3_1 + 1)), (2, .int (v2_1 + 0)), (4, .int (M 16 9 (Int32.toNatClampNeg ((7 * v1_1) + v3_1)))), (0, .ref (jO X 16)), (1, .int v1_1)]) hx hb dX6_priceOf_46 hl (k := 4) rfl (congrArg _ jci_1) (Nat.le_of_ble_eq_true rfl) rfl (fun ls hl => ?_)
          refine lv_goto (tgt := 4) hx hb dX6_priceOf_49 rfl ?_
          exact ih4 (v2_1 + 0) (v3_1 + 1) _ h (lv_sub hl [3, 4, 1, 0] rfl)
        · replace h := jh_f h c28
          refine lv_aload_n hx hb dX6_priceOf_31 rfl (lv_at hl 1 rfl) ?_
          refine lv_iload_n hx hb dX6_priceOf_32 rfl (lv_at hl 4 rfl) ?_
          refine lv_iload hx hb dX6_priceOf_33 (lv_at hl 0 rfl) ?_
          refine lv_iconst (v := 1) hx hb dX6_priceOf_35 jci_1 ?_
          refine lv_isub hx hb dX6_priceOf_36 ?_
          obtain ⟨r2, e2, h⟩ := jh_b h
          refine jr_kp (jr_rv (As := [.int v3_1, .int ((M 16 9 (Int32.toNatClampNeg ((7 * v1_1) + v3_1))) - 1)]) (rest := [.int v2_1]) S hK hP jb_16 rfl (m_X6_minutesOf l X M v3_1 ((M 16 9 (Int32.toNatClampNeg ((7 * v1_1) + v3_1))) - 1) r2 e2) jw_X6_minutesOf ji_X6_minutesOf jmX6_110 rfl rfl ⟨(Nat.le_of_ble_eq_true rfl), (Nat.le_of_ble_eq_true rfl)⟩ rfl hl.1 rfl (Nat.le_of_ble_eq_true rfl) dX6_priceOf_37 ⟨Nat.zero_le _, Nat.zero_le _⟩) ?_
          refine lv_goto (tgt := 44) hx hb dX6_priceOf_40 rfl ?_
          refine lv_iadd hx hb dX6_priceOf_44 ?_
          refine lv_istore_n (lv' := [(2, .int (v2_1 + r2)), (4, .int (M 16 9 (Int32.toNatClampNeg ((7 * v1_1) + v3_1)))), (0, .ref (jO X 16)), (1, .int v1_1), (3, .int v3_1)]) hx hb dX6_priceOf_45 rfl hl (Nat.le_of_ble_eq_true rfl) rfl (fun ls hl => ?_)
          refine lv_iinc (v := (v3_1 + 1)) (lv' := [(3, .int (v3_1 + 1)), (2, .int (v2_1 + r2)), (4, .int (M 16 9 (Int32.toNatClampNeg ((7 * v1_1) + v3_1)))), (0, .ref (jO X 16)), (1, .int v1_1)]) hx hb dX6_priceOf_46 hl (k := 4) rfl (congrArg _ jci_1) (Nat.le_of_ble_eq_true rfl) rfl (fun ls hl => ?_)
          refine lv_goto (tgt := 4) hx hb dX6_priceOf_49 rfl ?_
          exact ih4 (v2_1 + r2) (v3_1 + 1) _ h (lv_sub hl [3, 4, 1, 0] rfl)
  exact L4 v1 10000 0 0 _ h (lv_sub hl [2, 3, 1, 0] rfl)
def f_X6_allPrices_l4 (M : jm) : Nat → Int32 → Int32 → Option Int32
  | 0, _, _ => none
  | k_1 + 1, v1_1, v2_1 => (if (M 16 5 0) ≤ v2_1 then (some v1_1) else (jb (f_X6_priceOf M v2_1) fun r2 => ((f_X6_allPrices_l4 M k_1) (v1_1 + r2) (v2_1 + 1))))
def f_X6_allPrices (M : jm) : Option Int32 := (f_X6_allPrices_l4 M 10000 0 0)
set_option maxRecDepth 100000 in
theorem m_X6_allPrices (l : Launch) (X : jX) (M : jm) (r : Int32) (h : f_X6_allPrices M = some r) : Met l yX6_allPrices (jws yX6_allPrices cX6_allPrices 3 (some .int)) (jrm 2 47) (va_Pc [.ref (jO X 16)] (jB X M)) (jQ (.int r)) 0 0 (fun _ => False) := by
  refine jm_of (by decide) (Nat.le_of_ble_eq_true rfl) ?_
  intro p e s m args below meth c ls S hr hlocks hB hl
  have S : CallFix p m c cX6_allPrices 3 s args jtb RX6 := S
  obtain ⟨hx, hb, hml, hown, hts⟩ := id S
  obtain ⟨hP, hK⟩ := hB
  have hN := hK.2
  have hl : lv_has ls 3 [(0, .ref (jO X 16))] := hl
  refine lv_iconst (v := 0) hx hb dX6_allPrices_0 jci_0 ?_
  refine lv_istore_n (lv' := [(1, .int 0), (0, .ref (jO X 16))]) hx hb dX6_allPrices_1 rfl hl (Nat.le_of_ble_eq_true rfl) rfl (fun ls hl => ?_)
  refine lv_iconst (v := 0) hx hb dX6_allPrices_2 jci_0 ?_
  refine lv_istore_n (lv' := [(2, .int 0), (1, .int 0), (0, .ref (jO X 16))]) hx hb dX6_allPrices_3 rfl hl (Nat.le_of_ble_eq_true rfl) rfl (fun ls hl => ?_)
  have L4 : ∀ (k_1 : Nat) (v1_1 : Int32) (v2_1 : Int32) (ls : Array Slot), f_X6_allPrices_l4 M k_1 v1_1 v2_1 = some r → lv_has ls 3 [(0, .ref (jO X 16)), (1, .int v1_1), (2, .int v2_1)] → W p l e (jrm 2 47) s m args below meth c s.heap [] 0 0 (MQ below (jQ (.int r)) args s 0 0 (fun _ => False)) (F0 m 4 ls []) := by
    intro k_1
    induction k_1 with
    | zero => intro v1_1 v2_1 ls h; exact jh_0 h
    | succ k_1 ih4 =>
      intro v1_1 v2_1 ls h hl
      refine lv_iload_n hx hb dX6_allPrices_4 rfl (lv_at hl 2 rfl) ?_
      refine lv_aload_n hx hb dX6_allPrices_5 rfl (lv_at hl 0 rfl) ?_
      refine jr_get (k := 5) hx hb hts hown hK hP jb_16 (Nat.le_of_ble_eq_true rfl) jlX6_92 rfl dX6_allPrices_6 ?_
      refine lv_icmp_ge (tgt := 26) hx hb dX6_allPrices_9 rfl (fun c9 => ?_) (fun c9 => ?_)
      · replace h := jh_t h c9
        refine lv_iload_n hx hb dX6_allPrices_26 rfl (lv_at hl 1 rfl) ?_
        exact je_i hx hb hr hlocks (Option.some.inj h) dX6_allPrices_27
      · replace h := jh_f h c9
        refine lv_iload_n hx hb dX6_allPrices_12 rfl (lv_at hl 1 rfl) ?_
        refine lv_aload_n hx hb dX6_allPrices_13 rfl (lv_at hl 0 rfl) ?_
        refine lv_iload_n hx hb dX6_allPrices_14 rfl (lv_at hl 2 rfl) ?_
        obtain ⟨r2, e2, h⟩ := jh_b h
        refine jr_kp (jr_rv (As := [.int v2_1]) (rest := [.int v1_1]) S hK hP jb_16 rfl (m_X6_priceOf l X M v2_1 r2 e2) jw_X6_priceOf ji_X6_priceOf jmX6_113 rfl rfl ⟨(Nat.le_of_ble_eq_true rfl), (Nat.le_of_ble_eq_true rfl)⟩ rfl hl.1 rfl (Nat.le_of_ble_eq_true rfl) dX6_allPrices_15 ⟨Nat.zero_le _, Nat.zero_le _⟩) ?_
        refine lv_iadd hx hb dX6_allPrices_18 ?_
        refine lv_istore_n (lv' := [(1, .int (v1_1 + r2)), (0, .ref (jO X 16)), (2, .int v2_1)]) hx hb dX6_allPrices_19 rfl hl (Nat.le_of_ble_eq_true rfl) rfl (fun ls hl => ?_)
        refine lv_iinc (v := (v2_1 + 1)) (lv' := [(2, .int (v2_1 + 1)), (1, .int (v1_1 + r2)), (0, .ref (jO X 16))]) hx hb dX6_allPrices_20 hl (k := 2) rfl (congrArg _ jci_1) (Nat.le_of_ble_eq_true rfl) rfl (fun ls hl => ?_)
        refine lv_goto (tgt := 4) hx hb dX6_allPrices_23 rfl ?_
        exact ih4 (v1_1 + r2) (v2_1 + 1) _ h (lv_sub hl [2, 1, 0] rfl)
  exact L4 10000 0 0 _ h (lv_sub hl [2, 1, 0] rfl)
def f_X6_allDebts_l4 (M : jm) : Nat → Int32 → Int32 → Option Int32
  | 0, _, _ => none
  | k_1 + 1, v1_1, v2_1 => (if (M 16 5 0) ≤ v2_1 then (some v1_1) else (jb (f_X6_owesBits M v2_1) fun r2 => (jb (f_X6_onesOf r2) fun r3 => ((f_X6_allDebts_l4 M k_1) (v1_1 + r3) (v2_1 + 1)))))
def f_X6_allDebts (M : jm) : Option Int32 := (f_X6_allDebts_l4 M 10000 0 0)
set_option maxRecDepth 100000 in
theorem m_X6_allDebts (l : Launch) (X : jX) (M : jm) (r : Int32) (h : f_X6_allDebts M = some r) : Met l yX6_allDebts (jws yX6_allDebts cX6_allDebts 3 (some .int)) (jrm 1 23) (va_Pc [.ref (jO X 16)] (jB X M)) (jQ (.int r)) 0 0 (fun _ => False) := by
  refine jm_of (by decide) (Nat.le_of_ble_eq_true rfl) ?_
  intro p e s m args below meth c ls S hr hlocks hB hl
  have S : CallFix p m c cX6_allDebts 3 s args jtb RX6 := S
  obtain ⟨hx, hb, hml, hown, hts⟩ := id S
  obtain ⟨hP, hK⟩ := hB
  have hN := hK.2
  have hl : lv_has ls 3 [(0, .ref (jO X 16))] := hl
  refine lv_iconst (v := 0) hx hb dX6_allDebts_0 jci_0 ?_
  refine lv_istore_n (lv' := [(1, .int 0), (0, .ref (jO X 16))]) hx hb dX6_allDebts_1 rfl hl (Nat.le_of_ble_eq_true rfl) rfl (fun ls hl => ?_)
  refine lv_iconst (v := 0) hx hb dX6_allDebts_2 jci_0 ?_
  refine lv_istore_n (lv' := [(2, .int 0), (1, .int 0), (0, .ref (jO X 16))]) hx hb dX6_allDebts_3 rfl hl (Nat.le_of_ble_eq_true rfl) rfl (fun ls hl => ?_)
  have L4 : ∀ (k_1 : Nat) (v1_1 : Int32) (v2_1 : Int32) (ls : Array Slot), f_X6_allDebts_l4 M k_1 v1_1 v2_1 = some r → lv_has ls 3 [(0, .ref (jO X 16)), (1, .int v1_1), (2, .int v2_1)] → W p l e (jrm 1 23) s m args below meth c s.heap [] 0 0 (MQ below (jQ (.int r)) args s 0 0 (fun _ => False)) (F0 m 4 ls []) := by
    intro k_1
    induction k_1 with
    | zero => intro v1_1 v2_1 ls h; exact jh_0 h
    | succ k_1 ih4 =>
      intro v1_1 v2_1 ls h hl
      refine lv_iload_n hx hb dX6_allDebts_4 rfl (lv_at hl 2 rfl) ?_
      refine lv_aload_n hx hb dX6_allDebts_5 rfl (lv_at hl 0 rfl) ?_
      refine jr_get (k := 5) hx hb hts hown hK hP jb_16 (Nat.le_of_ble_eq_true rfl) jlX6_92 rfl dX6_allDebts_6 ?_
      refine lv_icmp_ge (tgt := 29) hx hb dX6_allDebts_9 rfl (fun c9 => ?_) (fun c9 => ?_)
      · replace h := jh_t h c9
        refine lv_iload_n hx hb dX6_allDebts_29 rfl (lv_at hl 1 rfl) ?_
        exact je_i hx hb hr hlocks (Option.some.inj h) dX6_allDebts_30
      · replace h := jh_f h c9
        refine lv_iload_n hx hb dX6_allDebts_12 rfl (lv_at hl 1 rfl) ?_
        refine lv_aload_n hx hb dX6_allDebts_13 rfl (lv_at hl 0 rfl) ?_
        refine lv_iload_n hx hb dX6_allDebts_14 rfl (lv_at hl 2 rfl) ?_
        obtain ⟨r2, e2, h⟩ := jh_b h
        refine jr_kp (jr_rv (As := [.int v2_1]) (rest := [.int v1_1]) S hK hP jb_16 rfl (m_X6_owesBits l X M v2_1 r2 e2) jw_X6_owesBits ji_X6_owesBits jmX6_116 rfl rfl ⟨(Nat.le_of_ble_eq_true rfl), (Nat.le_of_ble_eq_true rfl)⟩ rfl hl.1 rfl (Nat.le_of_ble_eq_true rfl) dX6_allDebts_15 ⟨Nat.zero_le _, Nat.zero_le _⟩) ?_
        obtain ⟨r3, e3, h⟩ := jh_b h
        refine jr_kp (jr_rs (As := [.int r2]) (rest := [.int v1_1]) S hN (m_X6_onesOf l r2 r3 e3) jw_X6_onesOf js_X6_onesOf jmX6_119 rfl rfl ⟨(Nat.le_of_ble_eq_true rfl), (Nat.le_of_ble_eq_true rfl)⟩ rfl hl.1 rfl (Nat.le_of_ble_eq_true rfl) dX6_allDebts_18 ⟨Nat.zero_le _, Nat.zero_le _⟩) ?_
        refine lv_iadd hx hb dX6_allDebts_21 ?_
        refine lv_istore_n (lv' := [(1, .int (v1_1 + r3)), (0, .ref (jO X 16)), (2, .int v2_1)]) hx hb dX6_allDebts_22 rfl hl (Nat.le_of_ble_eq_true rfl) rfl (fun ls hl => ?_)
        refine lv_iinc (v := (v2_1 + 1)) (lv' := [(2, .int (v2_1 + 1)), (1, .int (v1_1 + r3)), (0, .ref (jO X 16))]) hx hb dX6_allDebts_23 hl (k := 2) rfl (congrArg _ jci_1) (Nat.le_of_ble_eq_true rfl) rfl (fun ls hl => ?_)
        refine lv_goto (tgt := 4) hx hb dX6_allDebts_26 rfl ?_
        exact ih4 (v1_1 + r3) (v2_1 + 1) _ h (lv_sub hl [2, 1, 0] rfl)
  exact L4 10000 0 0 _ h (lv_sub hl [2, 1, 0] rfl)
def f_X6_owersOf_l4 (M : jm) (v1_1 : Int32) : Nat → Int32 → Int32 → Option Int32
  | 0, _, _ => none
  | k_1 + 1, v2_1, v3_1 => (if (M 16 5 0) ≤ v3_1 then (some v2_1) else (jgd ((7 * v3_1) + v1_1) 42 (if (M 16 9 (Int32.toNatClampNeg ((7 * v3_1) + v1_1))) ≤ 0 then ((f_X6_owersOf_l4 M v1_1 k_1) (v2_1 ||| 0) (v3_1 + 1)) else ((f_X6_owersOf_l4 M v1_1 k_1) (v2_1 ||| ((1 : Int32) <<< (v3_1 &&& 31))) (v3_1 + 1)))))
def f_X6_owersOf (M : jm) (v1 : Int32) : Option Int32 := (f_X6_owersOf_l4 M v1 10000 0 0)
set_option maxRecDepth 100000 in
theorem m_X6_owersOf (l : Launch) (X : jX) (M : jm) (v1 : Int32) (r : Int32) (h : f_X6_owersOf M v1 = some r) : Met l yX6_owersOf (jws yX6_owersOf cX6_owersOf 4 (some .int)) (jrm 0 0) (va_Pc [.ref (jO X 16), .int v1] (jB X M)) (jQ (.int r)) 0 0 (fun _ => False) := by
  refine jm_of (by decide) (Nat.le_of_ble_eq_true rfl) ?_
  intro p e s m args below meth c ls S hr hlocks hB hl
  have S : CallFix p m c cX6_owersOf 4 s args jtb RX6 := S
  obtain ⟨hx, hb, hml, hown, hts⟩ := id S
  obtain ⟨hP, hK⟩ := hB
  have hN := hK.2
  have hl : lv_has ls 4 [(0, .ref (jO X 16)), (1, .int v1)] := hl
  refine lv_iconst (v := 0) hx hb dX6_owersOf_0 jci_0 ?_
  refine lv_istore_n (lv' := [(2, .int 0), (0, .ref (jO X 16)), (1, .int v1)]) hx hb dX6_owersOf_1 rfl hl (Nat.le_of_ble_eq_true rfl) rfl (fun ls hl => ?_)
  refine lv_iconst (v := 0) hx hb dX6_owersOf_2 jci_0 ?_
  refine lv_istore_n (lv' := [(3, .int 0), (2, .int 0), (0, .ref (jO X 16)), (1, .int v1)]) hx hb dX6_owersOf_3 rfl hl (Nat.le_of_ble_eq_true rfl) rfl (fun ls hl => ?_)
  have L4 : ∀ (v1_1 : Int32) (k_1 : Nat) (v2_1 : Int32) (v3_1 : Int32) (ls : Array Slot), f_X6_owersOf_l4 M v1_1 k_1 v2_1 v3_1 = some r → lv_has ls 4 [(0, .ref (jO X 16)), (1, .int v1_1), (2, .int v2_1), (3, .int v3_1)] → W p l e (jrm 0 0) s m args below meth c s.heap [] 0 0 (MQ below (jQ (.int r)) args s 0 0 (fun _ => False)) (F0 m 4 ls []) := by
    intro v1_1 k_1
    induction k_1 with
    | zero => intro v2_1 v3_1 ls h; exact jh_0 h
    | succ k_1 ih4 =>
      intro v2_1 v3_1 ls h hl
      refine lv_iload_n hx hb dX6_owersOf_4 rfl (lv_at hl 3 rfl) ?_
      refine lv_aload_n hx hb dX6_owersOf_5 rfl (lv_at hl 0 rfl) ?_
      refine jr_get (k := 5) hx hb hts hown hK hP jb_16 (Nat.le_of_ble_eq_true rfl) jlX6_92 rfl dX6_owersOf_6 ?_
      refine lv_icmp_ge (tgt := 42) hx hb dX6_owersOf_9 rfl (fun c9 => ?_) (fun c9 => ?_)
      · replace h := jh_t h c9
        refine lv_iload_n hx hb dX6_owersOf_42 rfl (lv_at hl 2 rfl) ?_
        exact je_i hx hb hr hlocks (Option.some.inj h) dX6_owersOf_43
      · replace h := jh_f h c9
        refine lv_iload_n hx hb dX6_owersOf_12 rfl (lv_at hl 2 rfl) ?_
        refine lv_aload_n hx hb dX6_owersOf_13 rfl (lv_at hl 0 rfl) ?_
        refine jr_get (k := 9) hx hb hts hown hK hP jb_16 (Nat.le_of_ble_eq_true rfl) jlX6_31 rfl dX6_owersOf_14 ?_
        refine lv_bipush (v := 7) hx hb dX6_owersOf_17 jcb_7 ?_
        refine lv_iload_n hx hb dX6_owersOf_19 rfl (lv_at hl 3 rfl) ?_
        refine lv_imul hx hb dX6_owersOf_20 ?_
        refine lv_iload_n hx hb dX6_owersOf_21 rfl (lv_at hl 1 rfl) ?_
        refine lv_iadd hx hb dX6_owersOf_22 ?_
        obtain ⟨g23, h⟩ := jh_gd h
        refine jr_ald (n := 42) hx hb hK hP jb_16 rfl g23 dX6_owersOf_23 ?_
        refine lv_if_le (tgt := 33) hx hb dX6_owersOf_24 rfl (fun c24 => ?_) (fun c24 => ?_)
        · replace h := jh_t h c24
          refine lv_iconst (v := 0) hx hb dX6_owersOf_33 jci_0 ?_
          refine lv_ior hx hb dX6_owersOf_34 ?_
          refine lv_istore_n (lv' := [(2, .int (v2_1 ||| 0)), (0, .ref (jO X 16)), (1, .int v1_1), (3, .int v3_1)]) hx hb dX6_owersOf_35 rfl hl (Nat.le_of_ble_eq_true rfl) rfl (fun ls hl => ?_)
          refine lv_iinc (v := (v3_1 + 1)) (lv' := [(3, .int (v3_1 + 1)), (2, .int (v2_1 ||| 0)), (0, .ref (jO X 16)), (1, .int v1_1)]) hx hb dX6_owersOf_36 hl (k := 3) rfl (congrArg _ jci_1) (Nat.le_of_ble_eq_true rfl) rfl (fun ls hl => ?_)
          refine lv_goto (tgt := 4) hx hb dX6_owersOf_39 rfl ?_
          exact ih4 (v2_1 ||| 0) (v3_1 + 1) _ h (lv_sub hl [2, 3, 1, 0] rfl)
        · replace h := jh_f h c24
          refine lv_iconst (v := 1) hx hb dX6_owersOf_27 jci_1 ?_
          refine lv_iload_n hx hb dX6_owersOf_28 rfl (lv_at hl 3 rfl) ?_
          refine lv_ishl hx hb dX6_owersOf_29 ?_
          refine lv_goto (tgt := 34) hx hb dX6_owersOf_30 rfl ?_
          refine lv_ior hx hb dX6_owersOf_34 ?_
          refine lv_istore_n (lv' := [(2, .int (v2_1 ||| ((1 : Int32) <<< (v3_1 &&& 31)))), (0, .ref (jO X 16)), (1, .int v1_1), (3, .int v3_1)]) hx hb dX6_owersOf_35 rfl hl (Nat.le_of_ble_eq_true rfl) rfl (fun ls hl => ?_)
          refine lv_iinc (v := (v3_1 + 1)) (lv' := [(3, .int (v3_1 + 1)), (2, .int (v2_1 ||| ((1 : Int32) <<< (v3_1 &&& 31)))), (0, .ref (jO X 16)), (1, .int v1_1)]) hx hb dX6_owersOf_36 hl (k := 3) rfl (congrArg _ jci_1) (Nat.le_of_ble_eq_true rfl) rfl (fun ls hl => ?_)
          refine lv_goto (tgt := 4) hx hb dX6_owersOf_39 rfl ?_
          exact ih4 (v2_1 ||| ((1 : Int32) <<< (v3_1 &&& 31))) (v3_1 + 1) _ h (lv_sub hl [2, 3, 1, 0] rfl)
  exact L4 v1 10000 0 0 _ h (lv_sub hl [2, 3, 1, 0] rfl)
def f_X6_towards (v0 : Int32) (v1 : Int32) : Int32 := (if (v0 / 7) = (v1 / 7) then (if v1 ≤ v0 then (if v0 ≤ v1 then v0 else (v0 - 1)) else (v0 + 1)) else (if (v1 / 7) ≤ (v0 / 7) then (v0 - 7) else (v0 + 7)))
set_option maxRecDepth 100000 in
theorem m_X6_towards (l : Launch) (v0 : Int32) (v1 : Int32) (r : Int32) (h : f_X6_towards v0 v1 = r) : Met l yX6_towards (jws yX6_towards cX6_towards 2 (some .int)) (jrm 0 0) (va_Pc [.int v0, .int v1] jN) (jQ (.int r)) 0 0 (fun _ => False) := by
  refine jm_of (by decide) (Nat.le_of_ble_eq_true rfl) ?_
  intro p e s m args below meth c ls S hr hlocks hB hl
  have S : CallFix p m c cX6_towards 2 s args jtb RX6 := S
  obtain ⟨hx, hb, hml, hown, hts⟩ := id S
  have hN := hB
  have hl : lv_has ls 2 [(0, .int v0), (1, .int v1)] := hl
  refine lv_iload_n hx hb dX6_towards_0 rfl (lv_at hl 0 rfl) ?_
  refine lv_bipush (v := 7) hx hb dX6_towards_1 jcb_7 ?_
  refine lv_idiv hx hb dX6_towards_3 (by decide) ?_
  refine lv_iload_n hx hb dX6_towards_4 rfl (lv_at hl 1 rfl) ?_
  refine lv_bipush (v := 7) hx hb dX6_towards_5 jcb_7 ?_
  refine lv_idiv hx hb dX6_towards_7 (by decide) ?_
  refine lv_icmp_eq (tgt := 34) hx hb dX6_towards_8 rfl (fun c8 => ?_) (fun c8 => ?_)
  · replace h := jh_t h c8
    refine lv_iload_n hx hb dX6_towards_34 rfl (lv_at hl 0 rfl) ?_
    refine lv_iload_n hx hb dX6_towards_35 rfl (lv_at hl 1 rfl) ?_
    refine lv_icmp_ge (tgt := 45) hx hb dX6_towards_36 rfl (fun c36 => ?_) (fun c36 => ?_)
    · replace h := jh_t h c36
      refine lv_iload_n hx hb dX6_towards_45 rfl (lv_at hl 0 rfl) ?_
      refine lv_iload_n hx hb dX6_towards_46 rfl (lv_at hl 1 rfl) ?_
      refine lv_icmp_le (tgt := 56) hx hb dX6_towards_47 rfl (fun c47 => ?_) (fun c47 => ?_)
      · replace h := jh_t h c47
        refine lv_iload_n hx hb dX6_towards_56 rfl (lv_at hl 0 rfl) ?_
        exact je_i hx hb hr hlocks h dX6_towards_57
      · replace h := jh_f h c47
        refine lv_iload_n hx hb dX6_towards_50 rfl (lv_at hl 0 rfl) ?_
        refine lv_iconst (v := 1) hx hb dX6_towards_51 jci_1 ?_
        refine lv_isub hx hb dX6_towards_52 ?_
        refine lv_goto (tgt := 57) hx hb dX6_towards_53 rfl ?_
        exact je_i hx hb hr hlocks h dX6_towards_57
    · replace h := jh_f h c36
      refine lv_iload_n hx hb dX6_towards_39 rfl (lv_at hl 0 rfl) ?_
      refine lv_iconst (v := 1) hx hb dX6_towards_40 jci_1 ?_
      refine lv_iadd hx hb dX6_towards_41 ?_
      refine lv_goto (tgt := 57) hx hb dX6_towards_42 rfl ?_
      exact je_i hx hb hr hlocks h dX6_towards_57
  · replace h := jh_f h c8
    refine lv_iload_n hx hb dX6_towards_11 rfl (lv_at hl 0 rfl) ?_
    refine lv_bipush (v := 7) hx hb dX6_towards_12 jcb_7 ?_
    refine lv_idiv hx hb dX6_towards_14 (by decide) ?_
    refine lv_iload_n hx hb dX6_towards_15 rfl (lv_at hl 1 rfl) ?_
    refine lv_bipush (v := 7) hx hb dX6_towards_16 jcb_7 ?_
    refine lv_idiv hx hb dX6_towards_18 (by decide) ?_
    refine lv_icmp_ge (tgt := 29) hx hb dX6_towards_19 rfl (fun c19 => ?_) (fun c19 => ?_)
    · replace h := jh_t h c19
      refine lv_iload_n hx hb dX6_towards_29 rfl (lv_at hl 0 rfl) ?_
      refine lv_bipush (v := 7) hx hb dX6_towards_30 jcb_7 ?_
      refine lv_isub hx hb dX6_towards_32 ?_
      exact je_i hx hb hr hlocks h dX6_towards_33
    · replace h := jh_f h c19
      refine lv_iload_n hx hb dX6_towards_22 rfl (lv_at hl 0 rfl) ?_
      refine lv_bipush (v := 7) hx hb dX6_towards_23 jcb_7 ?_
      refine lv_iadd hx hb dX6_towards_25 ?_
      refine lv_goto (tgt := 33) hx hb dX6_towards_26 rfl ?_
      exact je_i hx hb hr hlocks h dX6_towards_33
def f_X6_eveningBy_j160 (M_6 : jm) (K60_6 : jm → Int32 → Option jm) (K112_6 : jm → Int32 → Option jm) (v1_2 : Int32) (v2_5 : Int32) (v3_5 : Int32) (v4_6 : Int32) (t0_6 : Int32) : Option jm := (jgd ((7 * v2_5) + v4_6) 42 (jgd t0_6 42 (K112_6 (ju M_6 16 9 (Int32.toNatClampNeg t0_6) (M_6 16 9 (Int32.toNatClampNeg ((7 * v2_5) + v4_6)))) (v4_6 + 1))))
def f_X6_eveningBy_l112 (K60_5 : jm → Int32 → Option jm) (v1_2 : Int32) (v2_5 : Int32) (v3_5 : Int32) : Nat → jm → Int32 → Option jm
  | 0, _, _ => none
  | k_5 + 1, M_5, v4_5 => (if (M_5 16 0 0) ≤ v4_5 then (K60_5 M_5 (v2_5 + 1)) else (jgd ((7 * v2_5) + v4_5) 42 (if (M_5 16 9 (Int32.toNatClampNeg ((7 * v2_5) + v4_5))) = 0 then (if (f_X6_hasBit v3_5 v4_5) = 0 then (f_X6_eveningBy_j160 M_5 K60_5 (f_X6_eveningBy_l112 K60_5 v1_2 v2_5 v3_5 k_5) v1_2 v2_5 v3_5 v4_5 ((7 * v2_5) + v4_5)) else (jgd ((7 * v2_5) + v4_5) 42 ((f_X6_eveningBy_l112 K60_5 v1_2 v2_5 v3_5 k_5) (ju M_5 16 9 (Int32.toNatClampNeg ((7 * v2_5) + v4_5)) 1) (v4_5 + 1)))) else (f_X6_eveningBy_j160 M_5 K60_5 (f_X6_eveningBy_l112 K60_5 v1_2 v2_5 v3_5 k_5) v1_2 v2_5 v3_5 v4_5 ((7 * v2_5) + v4_5)))))
def f_X6_eveningBy_j108 (M_4 : jm) (K60_4 : jm → Int32 → Option jm) (v1_2 : Int32) (v2_4 : Int32) (t0_4 : Int32) : Option jm := (f_X6_eveningBy_l112 K60_4 v1_2 v2_4 t0_4 10000 M_4 0)
def f_X6_eveningBy_l60 (v1_2 : Int32) : Nat → jm → Int32 → Option jm
  | 0, _, _ => none
  | k_2 + 1, M_2, v2_2 => (if (M_2 16 5 0) ≤ v2_2 then (some M_2) else (jgd v2_2 6 (jgd v2_2 6 (jgd v2_2 6 (if v1_2 = 0 then (jgd v2_2 6 (jb (f_X6_seenFrom (ju M_2 16 6 (Int32.toNatClampNeg v2_2) (f_X6_towards (M_2 16 6 (Int32.toNatClampNeg v2_2)) (M_2 16 7 (Int32.toNatClampNeg v2_2)))) v2_2 ((ju M_2 16 6 (Int32.toNatClampNeg v2_2) (f_X6_towards (M_2 16 6 (Int32.toNatClampNeg v2_2)) (M_2 16 7 (Int32.toNatClampNeg v2_2)))) 16 6 (Int32.toNatClampNeg v2_2))) fun r8 => (f_X6_eveningBy_j108 (ju M_2 16 6 (Int32.toNatClampNeg v2_2) (f_X6_towards (M_2 16 6 (Int32.toNatClampNeg v2_2)) (M_2 16 7 (Int32.toNatClampNeg v2_2)))) (f_X6_eveningBy_l60 v1_2 k_2) v1_2 v2_2 r8))) else (f_X6_eveningBy_j108 (ju M_2 16 6 (Int32.toNatClampNeg v2_2) (f_X6_towards (M_2 16 6 (Int32.toNatClampNeg v2_2)) (M_2 16 7 (Int32.toNatClampNeg v2_2)))) (f_X6_eveningBy_l60 v1_2 k_2) v1_2 v2_2 0))))))
def f_X6_eveningBy_l12 (v1_1 : Int32) : Nat → jm → Int32 → Option jm
  | 0, _, _ => none
  | k_1 + 1, M_1, v2_1 => (if 42 ≤ v2_1 then (f_X6_eveningBy_l60 v1_1 10000 M_1 0) else (jgd v2_1 42 (jgd v2_1 42 (if (M_1 16 9 (Int32.toNatClampNeg v2_1)) ≤ 0 then (jgd v2_1 42 ((f_X6_eveningBy_l12 v1_1 k_1) (ju M_1 16 9 (Int32.toNatClampNeg v2_1) ((M_1 16 9 (Int32.toNatClampNeg v2_1)) + 0)) (v2_1 + 1))) else (jgd v2_1 42 (if 100 ≤ (M_1 16 9 (Int32.toNatClampNeg v2_1)) then (jgd v2_1 42 ((f_X6_eveningBy_l12 v1_1 k_1) (ju M_1 16 9 (Int32.toNatClampNeg v2_1) ((M_1 16 9 (Int32.toNatClampNeg v2_1)) + 0)) (v2_1 + 1))) else (jgd v2_1 42 ((f_X6_eveningBy_l12 v1_1 k_1) (ju M_1 16 9 (Int32.toNatClampNeg v2_1) ((M_1 16 9 (Int32.toNatClampNeg v2_1)) + 1)) (v2_1 + 1)))))))))
def f_X6_eveningBy (M : jm) (v1 : Int32) : Option jm := (f_X6_eveningBy_l12 v1 10000 (ju M 16 10 0 ((M 16 10 0) + 1)) 0)
set_option maxRecDepth 100000 in
theorem m_X6_eveningBy (l : Launch) (X : jX) (A : Nat → Prop) (hs : jst X A) (M : jm) (v1 : Int32) (N : jm) (h : f_X6_eveningBy M v1 = some N) : Met l yX6_eveningBy (jws yX6_eveningBy cX6_eveningBy 5 none) (jrm 4 90) (va_Pc [.ref (jO X 16), .int v1] (jB X M)) (jQm X A none N) 0 0 A := by
  refine jm_of (by decide) (Nat.le_of_ble_eq_true rfl) ?_
  intro p e s m args below meth c ls S hr hlocks hB hl
  have S : CallFix p m c cX6_eveningBy 5 s args jtb RX6 := S
  obtain ⟨hx, hb, hml, hown, hts⟩ := id S
  obtain ⟨hP, hK⟩ := hB
  have hN := hK.2
  have hS : va_S A s.heap s.heap [] := va_S.rf
  have hl : lv_has ls 5 [(0, .ref (jO X 16)), (1, .int v1)] := hl
  refine lv_aload_n hx hb dX6_eveningBy_0 rfl (lv_at hl 0 rfl) ?_
  refine lv_dup hx hb dX6_eveningBy_1 rfl ?_
  refine jr_get (k := 10) hx hb hts hown hK hP jb_16 (Nat.le_of_ble_eq_true rfl) jlX6_122 rfl dX6_eveningBy_2 ?_
  refine lv_iconst (v := 1) hx hb dX6_eveningBy_5 jci_1 ?_
  refine lv_iadd hx hb dX6_eveningBy_6 ?_
  refine jr_put (k := 10) (z := ((M 16 10 0) + 1)) hx hb hts hown hK hP hs hS jb_16 (Nat.le_of_ble_eq_true rfl) jlX6_122 rfl (Or.inl rfl) rfl rfl rfl dX6_eveningBy_7 (fun H locs hP hS => ?_)
  refine lv_iconst (v := 0) hx hb dX6_eveningBy_10 jci_0 ?_
  refine lv_istore_n (lv' := [(2, .int 0), (0, .ref (jO X 16)), (1, .int v1)]) hx hb dX6_eveningBy_11 rfl hl (Nat.le_of_ble_eq_true rfl) rfl (fun ls hl => ?_)
  have L12 : ∀ (v1_1 : Int32) (k_1 : Nat) (M_1 : jm) (H : Heap) (locs : List Loc) (v2_1 : Int32) (ls : Array Slot), f_X6_eveningBy_l12 v1_1 k_1 M_1 v2_1 = some N → jrp X M_1 H → va_S A s.heap H locs → lv_has ls 5 [(0, .ref (jO X 16)), (1, .int v1_1), (2, .int v2_1)] → W p l e (jrm 4 90) s m args below meth c H locs 0 0 (MQ below (jQm X A none N) args s 0 0 A) (F0 m 12 ls []) := by
    intro v1_1 k_1
    induction k_1 with
    | zero => intro M_1 H locs v2_1 ls h; exact jh_0 h
    | succ k_1 ih12 =>
      intro M_1 H locs v2_1 ls h hP hS hl
      refine lv_iload_n hx hb dX6_eveningBy_12 rfl (lv_at hl 2 rfl) ?_
      refine lv_bipush (v := 42) hx hb dX6_eveningBy_13 jcb_42 ?_
      refine lv_icmp_ge (tgt := 58) hx hb dX6_eveningBy_15 rfl (fun c15 => ?_) (fun c15 => ?_)
      · replace h := jh_t h c15
        refine lv_iconst (v := 0) hx hb dX6_eveningBy_58 jci_0 ?_
        refine lv_istore_n (lv' := [(2, .int 0), (0, .ref (jO X 16)), (1, .int v1_1)]) hx hb dX6_eveningBy_59 rfl hl (Nat.le_of_ble_eq_true rfl) rfl (fun ls hl => ?_)
        have L60 : ∀ (v1_2 : Int32) (k_2 : Nat) (M_2 : jm) (H : Heap) (locs : List Loc) (v2_2 : Int32) (ls : Array Slot), f_X6_eveningBy_l60 v1_2 k_2 M_2 v2_2 = some N → jrp X M_2 H → va_S A s.heap H locs → lv_has ls 5 [(0, .ref (jO X 16)), (1, .int v1_2), (2, .int v2_2)] → W p l e (jrm 4 90) s m args below meth c H locs 0 0 (MQ below (jQm X A none N) args s 0 0 A) (F0 m 60 ls []) := by
          intro v1_2 k_2
          induction k_2 with
          | zero => intro M_2 H locs v2_2 ls h; exact jh_0 h
          | succ k_2 ih60 =>
            intro M_2 H locs v2_2 ls h hP hS hl
            refine lv_iload_n hx hb dX6_eveningBy_60 rfl (lv_at hl 2 rfl) ?_
            refine lv_aload_n hx hb dX6_eveningBy_61 rfl (lv_at hl 0 rfl) ?_
            refine jr_get (k := 5) hx hb hts hown hK hP jb_16 (Nat.le_of_ble_eq_true rfl) jlX6_92 rfl dX6_eveningBy_62 ?_
            refine lv_icmp_ge (tgt := 185) hx hb dX6_eveningBy_65 rfl (fun c65 => ?_) (fun c65 => ?_)
            · replace h := jh_t h c65
              exact je_mv hx hb hr hlocks hK hP hS h dX6_eveningBy_185
            · replace h := jh_f h c65
              refine lv_aload_n hx hb dX6_eveningBy_68 rfl (lv_at hl 0 rfl) ?_
              refine jr_get (k := 6) hx hb hts hown hK hP jb_16 (Nat.le_of_ble_eq_true rfl) jlX6_22 rfl dX6_eveningBy_69 ?_
              refine lv_iload_n hx hb dX6_eveningBy_72 rfl (lv_at hl 2 rfl) ?_
              refine lv_aload_n hx hb dX6_eveningBy_73 rfl (lv_at hl 0 rfl) ?_
              refine jr_get (k := 6) hx hb hts hown hK hP jb_16 (Nat.le_of_ble_eq_true rfl) jlX6_22 rfl dX6_eveningBy_74 ?_
              refine lv_iload_n hx hb dX6_eveningBy_77 rfl (lv_at hl 2 rfl) ?_
              obtain ⟨g78, h⟩ := jh_gd h
              refine jr_ald (n := 6) hx hb hK hP jb_16 rfl g78 dX6_eveningBy_78 ?_
              refine lv_aload_n hx hb dX6_eveningBy_79 rfl (lv_at hl 0 rfl) ?_
              refine jr_get (k := 7) hx hb hts hown hK hP jb_16 (Nat.le_of_ble_eq_true rfl) jlX6_25 rfl dX6_eveningBy_80 ?_
              refine lv_iload_n hx hb dX6_eveningBy_83 rfl (lv_at hl 2 rfl) ?_
              obtain ⟨g84, h⟩ := jh_gd h
              refine jr_ald (n := 6) hx hb hK hP jb_16 rfl g84 dX6_eveningBy_84 ?_
              refine jr_kp (jr_rs (As := [.int (M_2 16 6 (Int32.toNatClampNeg v2_2)), .int (M_2 16 7 (Int32.toNatClampNeg v2_2))]) (rest := [.int v2_2, .ref (jA X 16 6)]) S hN (m_X6_towards l (M_2 16 6 (Int32.toNatClampNeg v2_2)) (M_2 16 7 (Int32.toNatClampNeg v2_2)) _ rfl) jw_X6_towards js_X6_towards jmX6_125 rfl rfl ⟨(Nat.le_of_ble_eq_true rfl), (Nat.le_of_ble_eq_true rfl)⟩ rfl hl.1 rfl (Nat.le_of_ble_eq_true rfl) dX6_eveningBy_85 ⟨Nat.zero_le _, Nat.zero_le _⟩) ?_
              obtain ⟨g88, h⟩ := jh_gd h
              refine jr_ast (n := 6) hx hb hK hP hs hS jb_16 rfl g88 dX6_eveningBy_88 (fun H locs hP hS => ?_)
              refine lv_iload_n hx hb dX6_eveningBy_89 rfl (lv_at hl 1 rfl) ?_
              have J108 : ∀ (M_4 : jm) (H : Heap) (locs : List Loc) (v2_4 : Int32) (t0_4 : Int32) (ls : Array Slot), f_X6_eveningBy_j108 M_4 (f_X6_eveningBy_l60 v1_2 k_2) v1_2 v2_4 t0_4 = some N → jrp X M_4 H → va_S A s.heap H locs → lv_has ls 5 [(0, .ref (jO X 16)), (1, .int v1_2), (2, .int v2_4)] → W p l e (jrm 4 90) s m args below meth c H locs 0 0 (MQ below (jQm X A none N) args s 0 0 A) (F0 m 108 ls [.int t0_4]) := by
                intro M_4 H locs v2_4 t0_4 ls h hP hS hl
                refine lv_istore_n (lv' := [(3, .int t0_4), (0, .ref (jO X 16)), (1, .int v1_2), (2, .int v2_4)]) hx hb dX6_eveningBy_108 rfl hl (Nat.le_of_ble_eq_true rfl) rfl (fun ls hl => ?_)
                refine lv_iconst (v := 0) hx hb dX6_eveningBy_109 jci_0 ?_
                refine lv_istore (lv' := [(4, .int 0), (3, .int t0_4), (0, .ref (jO X 16)), (1, .int v1_2), (2, .int v2_4)]) hx hb dX6_eveningBy_110 hl (Nat.le_of_ble_eq_true rfl) rfl (fun ls hl => ?_)
                have L112 : ∀ (v2_5 : Int32) (v3_5 : Int32) (k_5 : Nat) (M_5 : jm) (H : Heap) (locs : List Loc) (v4_5 : Int32) (ls : Array Slot), f_X6_eveningBy_l112 (f_X6_eveningBy_l60 v1_2 k_2) v1_2 v2_5 v3_5 k_5 M_5 v4_5 = some N → jrp X M_5 H → va_S A s.heap H locs → lv_has ls 5 [(0, .ref (jO X 16)), (1, .int v1_2), (2, .int v2_5), (3, .int v3_5), (4, .int v4_5)] → W p l e (jrm 4 90) s m args below meth c H locs 0 0 (MQ below (jQm X A none N) args s 0 0 A) (F0 m 112 ls []) := by
                  intro v2_5 v3_5 k_5
                  induction k_5 with
                  | zero => intro M_5 H locs v4_5 ls h; exact jh_0 h
                  | succ k_5 ih112 =>
                    intro M_5 H locs v4_5 ls h hP hS hl
                    refine lv_iload hx hb dX6_eveningBy_112 (lv_at hl 4 rfl) ?_
                    refine lv_aload_n hx hb dX6_eveningBy_114 rfl (lv_at hl 0 rfl) ?_
                    refine jr_get (k := 0) hx hb hts hown hK hP jb_16 (Nat.le_of_ble_eq_true rfl) jlX6_89 rfl dX6_eveningBy_115 ?_
                    refine lv_icmp_ge (tgt := 179) hx hb dX6_eveningBy_118 rfl (fun c118 => ?_) (fun c118 => ?_)
                    · replace h := jh_t h c118
                      refine lv_iinc (v := (v2_5 + 1)) (lv' := [(2, .int (v2_5 + 1)), (0, .ref (jO X 16)), (1, .int v1_2), (3, .int v3_5), (4, .int v4_5)]) hx hb dX6_eveningBy_179 hl (k := 2) rfl (congrArg _ jci_1) (Nat.le_of_ble_eq_true rfl) rfl (fun ls hl => ?_)
                      refine lv_goto (tgt := 60) hx hb dX6_eveningBy_182 rfl ?_
                      exact ih60 M_5 _ _ (v2_5 + 1) _ h hP hS (lv_sub hl [1, 2, 0] rfl)
                    · replace h := jh_f h c118
                      refine lv_aload_n hx hb dX6_eveningBy_121 rfl (lv_at hl 0 rfl) ?_
                      refine jr_get (k := 9) hx hb hts hown hK hP jb_16 (Nat.le_of_ble_eq_true rfl) jlX6_31 rfl dX6_eveningBy_122 ?_
                      refine lv_bipush (v := 7) hx hb dX6_eveningBy_125 jcb_7 ?_
                      refine lv_iload_n hx hb dX6_eveningBy_127 rfl (lv_at hl 2 rfl) ?_
                      refine lv_imul hx hb dX6_eveningBy_128 ?_
                      refine lv_iload hx hb dX6_eveningBy_129 (lv_at hl 4 rfl) ?_
                      refine lv_iadd hx hb dX6_eveningBy_131 ?_
                      refine lv_aload_n hx hb dX6_eveningBy_132 rfl (lv_at hl 0 rfl) ?_
                      refine jr_get (k := 9) hx hb hts hown hK hP jb_16 (Nat.le_of_ble_eq_true rfl) jlX6_31 rfl dX6_eveningBy_133 ?_
                      refine lv_bipush (v := 7) hx hb dX6_eveningBy_136 jcb_7 ?_
                      refine lv_iload_n hx hb dX6_eveningBy_138 rfl (lv_at hl 2 rfl) ?_
                      refine lv_imul hx hb dX6_eveningBy_139 ?_
                      refine lv_iload hx hb dX6_eveningBy_140 (lv_at hl 4 rfl) ?_
                      refine lv_iadd hx hb dX6_eveningBy_142 ?_
                      obtain ⟨g143, h⟩ := jh_gd h
                      refine jr_ald (n := 42) hx hb hK hP jb_16 rfl g143 dX6_eveningBy_143 ?_
                      have J160 : ∀ (M_6 : jm) (H : Heap) (locs : List Loc) (v4_6 : Int32) (t0_6 : Int32) (ls : Array Slot), f_X6_eveningBy_j160 M_6 (f_X6_eveningBy_l60 v1_2 k_2) (f_X6_eveningBy_l112 (f_X6_eveningBy_l60 v1_2 k_2) v1_2 v2_5 v3_5 k_5) v1_2 v2_5 v3_5 v4_6 t0_6 = some N → jrp X M_6 H → va_S A s.heap H locs → lv_has ls 5 [(0, .ref (jO X 16)), (1, .int v1_2), (2, .int v2_5), (3, .int v3_5), (4, .int v4_6)] → W p l e (jrm 4 90) s m args below meth c H locs 0 0 (MQ below (jQm X A none N) args s 0 0 A) (F0 m 160 ls [.int t0_6, .ref (jA X 16 9)]) := by
                        intro M_6 H locs v4_6 t0_6 ls h hP hS hl
                        refine lv_aload_n hx hb dX6_eveningBy_160 rfl (lv_at hl 0 rfl) ?_
                        refine jr_get (k := 9) hx hb hts hown hK hP jb_16 (Nat.le_of_ble_eq_true rfl) jlX6_31 rfl dX6_eveningBy_161 ?_
                        refine lv_bipush (v := 7) hx hb dX6_eveningBy_164 jcb_7 ?_
                        refine lv_iload_n hx hb dX6_eveningBy_166 rfl (lv_at hl 2 rfl) ?_
                        refine lv_imul hx hb dX6_eveningBy_167 ?_
                        refine lv_iload hx hb dX6_eveningBy_168 (lv_at hl 4 rfl) ?_
                        refine lv_iadd hx hb dX6_eveningBy_170 ?_
                        obtain ⟨g171, h⟩ := jh_gd h
                        refine jr_ald (n := 42) hx hb hK hP jb_16 rfl g171 dX6_eveningBy_171 ?_
                        obtain ⟨g172, h⟩ := jh_gd h
                        refine jr_ast (n := 42) hx hb hK hP hs hS jb_16 rfl g172 dX6_eveningBy_172 (fun H locs hP hS => ?_)
                        refine lv_iinc (v := (v4_6 + 1)) (lv' := [(4, .int (v4_6 + 1)), (0, .ref (jO X 16)), (1, .int v1_2), (2, .int v2_5), (3, .int v3_5)]) hx hb dX6_eveningBy_173 hl (k := 4) rfl (congrArg _ jci_1) (Nat.le_of_ble_eq_true rfl) rfl (fun ls hl => ?_)
                        refine lv_goto (tgt := 112) hx hb dX6_eveningBy_176 rfl ?_
                        exact ih112 (ju M_6 16 9 (Int32.toNatClampNeg t0_6) (M_6 16 9 (Int32.toNatClampNeg ((7 * v2_5) + v4_6)))) _ _ (v4_6 + 1) _ h hP hS (lv_sub hl [1, 2, 3, 4, 0] rfl)
                      refine lv_if_ne (tgt := 160) hx hb dX6_eveningBy_144 rfl (fun c144 => ?_) (fun c144 => ?_)
                      · replace h := jh_f h c144
                        exact J160 M_5 _ _ v4_5 ((7 * v2_5) + v4_5) _ h hP hS hl
                      · replace h := jh_t h c144
                        refine lv_iload_n hx hb dX6_eveningBy_147 rfl (lv_at hl 3 rfl) ?_
                        refine lv_iload hx hb dX6_eveningBy_148 (lv_at hl 4 rfl) ?_
                        refine jr_kp (jr_rs (As := [.int v3_5, .int v4_5]) (rest := [.int ((7 * v2_5) + v4_5), .ref (jA X 16 9)]) S hN (m_X6_hasBit l v3_5 v4_5 _ rfl) jw_X6_hasBit js_X6_hasBit jmX6_131 rfl rfl ⟨(Nat.le_of_ble_eq_true rfl), (Nat.le_of_ble_eq_true rfl)⟩ rfl hl.1 rfl (Nat.le_of_ble_eq_true rfl) dX6_eveningBy_150 ⟨Nat.zero_le _, Nat.zero_le _⟩) ?_
                        refine lv_if_eq (tgt := 160) hx hb dX6_eveningBy_153 rfl (fun c153 => ?_) (fun c153 => ?_)
                        · replace h := jh_t h c153
                          exact J160 M_5 _ _ v4_5 ((7 * v2_5) + v4_5) _ h hP hS hl
                        · replace h := jh_f h c153
                          refine lv_iconst (v := 1) hx hb dX6_eveningBy_156 jci_1 ?_
                          refine lv_goto (tgt := 172) hx hb dX6_eveningBy_157 rfl ?_
                          obtain ⟨g172, h⟩ := jh_gd h
                          refine jr_ast (n := 42) hx hb hK hP hs hS jb_16 rfl g172 dX6_eveningBy_172 (fun H locs hP hS => ?_)
                          refine lv_iinc (v := (v4_5 + 1)) (lv' := [(4, .int (v4_5 + 1)), (0, .ref (jO X 16)), (1, .int v1_2), (2, .int v2_5), (3, .int v3_5)]) hx hb dX6_eveningBy_173 hl (k := 4) rfl (congrArg _ jci_1) (Nat.le_of_ble_eq_true rfl) rfl (fun ls hl => ?_)
                          refine lv_goto (tgt := 112) hx hb dX6_eveningBy_176 rfl ?_
                          exact ih112 (ju M_5 16 9 (Int32.toNatClampNeg ((7 * v2_5) + v4_5)) 1) _ _ (v4_5 + 1) _ h hP hS (lv_sub hl [1, 2, 3, 4, 0] rfl)
                exact L112 v2_4 t0_4 10000 M_4 _ _ 0 _ h hP hS (lv_sub hl [2, 3, 4, 1, 0] rfl)
              refine lv_if_eq (tgt := 97) hx hb dX6_eveningBy_90 rfl (fun c90 => ?_) (fun c90 => ?_)
              · replace h := jh_t h c90
                refine lv_aload_n hx hb dX6_eveningBy_97 rfl (lv_at hl 0 rfl) ?_
                refine lv_iload_n hx hb dX6_eveningBy_98 rfl (lv_at hl 2 rfl) ?_
                refine lv_aload_n hx hb dX6_eveningBy_99 rfl (lv_at hl 0 rfl) ?_
                refine jr_get (k := 6) hx hb hts hown hK hP jb_16 (Nat.le_of_ble_eq_true rfl) jlX6_22 rfl dX6_eveningBy_100 ?_
                refine lv_iload_n hx hb dX6_eveningBy_103 rfl (lv_at hl 2 rfl) ?_
                obtain ⟨g104, h⟩ := jh_gd h
                refine jr_ald (n := 6) hx hb hK hP jb_16 rfl g104 dX6_eveningBy_104 ?_
                obtain ⟨r8, e8, h⟩ := jh_b h
                refine jr_kp (jr_rv (As := [.int v2_2, .int ((ju M_2 16 6 (Int32.toNatClampNeg v2_2) (f_X6_towards (M_2 16 6 (Int32.toNatClampNeg v2_2)) (M_2 16 7 (Int32.toNatClampNeg v2_2)))) 16 6 (Int32.toNatClampNeg v2_2))]) (rest := []) S hK hP jb_16 rfl (m_X6_seenFrom l X (ju M_2 16 6 (Int32.toNatClampNeg v2_2) (f_X6_towards (M_2 16 6 (Int32.toNatClampNeg v2_2)) (M_2 16 7 (Int32.toNatClampNeg v2_2)))) v2_2 ((ju M_2 16 6 (Int32.toNatClampNeg v2_2) (f_X6_towards (M_2 16 6 (Int32.toNatClampNeg v2_2)) (M_2 16 7 (Int32.toNatClampNeg v2_2)))) 16 6 (Int32.toNatClampNeg v2_2)) r8 e8) jw_X6_seenFrom ji_X6_seenFrom jmX6_128 rfl rfl ⟨(Nat.le_of_ble_eq_true rfl), (Nat.le_of_ble_eq_true rfl)⟩ rfl hl.1 rfl (Nat.le_of_ble_eq_true rfl) dX6_eveningBy_105 ⟨Nat.zero_le _, Nat.zero_le _⟩) ?_
                exact J108 (ju M_2 16 6 (Int32.toNatClampNeg v2_2) (f_X6_towards (M_2 16 6 (Int32.toNatClampNeg v2_2)) (M_2 16 7 (Int32.toNatClampNeg v2_2)))) _ _ v2_2 r8 _ h hP hS hl
              · replace h := jh_f h c90
                refine lv_iconst (v := 0) hx hb dX6_eveningBy_93 jci_0 ?_
                refine lv_goto (tgt := 108) hx hb dX6_eveningBy_94 rfl ?_
                exact J108 (ju M_2 16 6 (Int32.toNatClampNeg v2_2) (f_X6_towards (M_2 16 6 (Int32.toNatClampNeg v2_2)) (M_2 16 7 (Int32.toNatClampNeg v2_2)))) _ _ v2_2 0 _ h hP hS hl
        exact L60 v1_1 10000 M_1 _ _ 0 _ h hP hS (lv_sub hl [1, 2, 0] rfl)
      · replace h := jh_f h c15
        refine lv_aload_n hx hb dX6_eveningBy_18 rfl (lv_at hl 0 rfl) ?_
        refine jr_get (k := 9) hx hb hts hown hK hP jb_16 (Nat.le_of_ble_eq_true rfl) jlX6_31 rfl dX6_eveningBy_19 ?_
        refine lv_iload_n hx hb dX6_eveningBy_22 rfl (lv_at hl 2 rfl) ?_
        refine lv_dup2_11 hx hb dX6_eveningBy_23 rfl rfl ?_
        obtain ⟨g24, h⟩ := jh_gd h
        refine jr_ald (n := 42) hx hb hK hP jb_16 rfl g24 dX6_eveningBy_24 ?_
        refine lv_aload_n hx hb dX6_eveningBy_25 rfl (lv_at hl 0 rfl) ?_
        refine jr_get (k := 9) hx hb hts hown hK hP jb_16 (Nat.le_of_ble_eq_true rfl) jlX6_31 rfl dX6_eveningBy_26 ?_
        refine lv_iload_n hx hb dX6_eveningBy_29 rfl (lv_at hl 2 rfl) ?_
        obtain ⟨g30, h⟩ := jh_gd h
        refine jr_ald (n := 42) hx hb hK hP jb_16 rfl g30 dX6_eveningBy_30 ?_
        refine lv_if_le (tgt := 49) hx hb dX6_eveningBy_31 rfl (fun c31 => ?_) (fun c31 => ?_)
        · replace h := jh_t h c31
          refine lv_iconst (v := 0) hx hb dX6_eveningBy_49 jci_0 ?_
          refine lv_iadd hx hb dX6_eveningBy_50 ?_
          obtain ⟨g51, h⟩ := jh_gd h
          refine jr_ast (n := 42) hx hb hK hP hs hS jb_16 rfl g51 dX6_eveningBy_51 (fun H locs hP hS => ?_)
          refine lv_iinc (v := (v2_1 + 1)) (lv' := [(2, .int (v2_1 + 1)), (0, .ref (jO X 16)), (1, .int v1_1)]) hx hb dX6_eveningBy_52 hl (k := 2) rfl (congrArg _ jci_1) (Nat.le_of_ble_eq_true rfl) rfl (fun ls hl => ?_)
          refine lv_goto (tgt := 12) hx hb dX6_eveningBy_55 rfl ?_
          exact ih12 (ju M_1 16 9 (Int32.toNatClampNeg v2_1) ((M_1 16 9 (Int32.toNatClampNeg v2_1)) + 0)) _ _ (v2_1 + 1) _ h hP hS (lv_sub hl [1, 2, 0] rfl)
        · replace h := jh_f h c31
          refine lv_aload_n hx hb dX6_eveningBy_34 rfl (lv_at hl 0 rfl) ?_
          refine jr_get (k := 9) hx hb hts hown hK hP jb_16 (Nat.le_of_ble_eq_true rfl) jlX6_31 rfl dX6_eveningBy_35 ?_
          refine lv_iload_n hx hb dX6_eveningBy_38 rfl (lv_at hl 2 rfl) ?_
          obtain ⟨g39, h⟩ := jh_gd h
          refine jr_ald (n := 42) hx hb hK hP jb_16 rfl g39 dX6_eveningBy_39 ?_
          refine lv_bipush (v := 100) hx hb dX6_eveningBy_40 jcb_100 ?_
          refine lv_icmp_ge (tgt := 49) hx hb dX6_eveningBy_42 rfl (fun c42 => ?_) (fun c42 => ?_)
          · replace h := jh_t h c42
            refine lv_iconst (v := 0) hx hb dX6_eveningBy_49 jci_0 ?_
            refine lv_iadd hx hb dX6_eveningBy_50 ?_
            obtain ⟨g51, h⟩ := jh_gd h
            refine jr_ast (n := 42) hx hb hK hP hs hS jb_16 rfl g51 dX6_eveningBy_51 (fun H locs hP hS => ?_)
            refine lv_iinc (v := (v2_1 + 1)) (lv' := [(2, .int (v2_1 + 1)), (0, .ref (jO X 16)), (1, .int v1_1)]) hx hb dX6_eveningBy_52 hl (k := 2) rfl (congrArg _ jci_1) (Nat.le_of_ble_eq_true rfl) rfl (fun ls hl => ?_)
            refine lv_goto (tgt := 12) hx hb dX6_eveningBy_55 rfl ?_
            exact ih12 (ju M_1 16 9 (Int32.toNatClampNeg v2_1) ((M_1 16 9 (Int32.toNatClampNeg v2_1)) + 0)) _ _ (v2_1 + 1) _ h hP hS (lv_sub hl [1, 2, 0] rfl)
          · replace h := jh_f h c42
            refine lv_iconst (v := 1) hx hb dX6_eveningBy_45 jci_1 ?_
            refine lv_goto (tgt := 50) hx hb dX6_eveningBy_46 rfl ?_
            refine lv_iadd hx hb dX6_eveningBy_50 ?_
            obtain ⟨g51, h⟩ := jh_gd h
            refine jr_ast (n := 42) hx hb hK hP hs hS jb_16 rfl g51 dX6_eveningBy_51 (fun H locs hP hS => ?_)
            refine lv_iinc (v := (v2_1 + 1)) (lv' := [(2, .int (v2_1 + 1)), (0, .ref (jO X 16)), (1, .int v1_1)]) hx hb dX6_eveningBy_52 hl (k := 2) rfl (congrArg _ jci_1) (Nat.le_of_ble_eq_true rfl) rfl (fun ls hl => ?_)
            refine lv_goto (tgt := 12) hx hb dX6_eveningBy_55 rfl ?_
            exact ih12 (ju M_1 16 9 (Int32.toNatClampNeg v2_1) ((M_1 16 9 (Int32.toNatClampNeg v2_1)) + 1)) _ _ (v2_1 + 1) _ h hP hS (lv_sub hl [1, 2, 0] rfl)
  exact L12 v1 10000 (ju M 16 10 0 ((M 16 10 0) + 1)) _ _ 0 _ h hP hS (lv_sub hl [1, 2, 0] rfl)
def f_X6_goEvenings_l2 (v1_1 : Int32) : Nat → jm → Int32 → Option jm
  | 0, _, _ => none
  | k_1 + 1, M_1, v2_1 => (if v1_1 ≤ v2_1 then (some M_1) else (jb (f_X6_eveningBy M_1 0) fun M_2 => ((f_X6_goEvenings_l2 v1_1 k_1) M_2 (v2_1 + 1))))
def f_X6_goEvenings (M : jm) (v1 : Int32) : Option jm := (f_X6_goEvenings_l2 v1 10000 M 0)
set_option maxRecDepth 100000 in
theorem m_X6_goEvenings (l : Launch) (X : jX) (A : Nat → Prop) (hs : jst X A) (M : jm) (v1 : Int32) (N : jm) (h : f_X6_goEvenings M v1 = some N) : Met l yX6_goEvenings (jws yX6_goEvenings cX6_goEvenings 3 none) (jrm 5 114) (va_Pc [.ref (jO X 16), .int v1] (jB X M)) (jQm X A none N) 0 0 A := by
  refine jm_of (by decide) (Nat.le_of_ble_eq_true rfl) ?_
  intro p e s m args below meth c ls S hr hlocks hB hl
  have S : CallFix p m c cX6_goEvenings 3 s args jtb RX6 := S
  obtain ⟨hx, hb, hml, hown, hts⟩ := id S
  obtain ⟨hP, hK⟩ := hB
  have hN := hK.2
  have hS : va_S A s.heap s.heap [] := va_S.rf
  have hl : lv_has ls 3 [(0, .ref (jO X 16)), (1, .int v1)] := hl
  refine lv_iconst (v := 0) hx hb dX6_goEvenings_0 jci_0 ?_
  refine lv_istore_n (lv' := [(2, .int 0), (0, .ref (jO X 16)), (1, .int v1)]) hx hb dX6_goEvenings_1 rfl hl (Nat.le_of_ble_eq_true rfl) rfl (fun ls hl => ?_)
  have L2 : ∀ (v1_1 : Int32) (k_1 : Nat) (M_1 : jm) (H : Heap) (locs : List Loc) (v2_1 : Int32) (ls : Array Slot), f_X6_goEvenings_l2 v1_1 k_1 M_1 v2_1 = some N → jrp X M_1 H → va_S A s.heap H locs → lv_has ls 3 [(0, .ref (jO X 16)), (1, .int v1_1), (2, .int v2_1)] → W p l e (jrm 5 114) s m args below meth c H locs 0 0 (MQ below (jQm X A none N) args s 0 0 A) (F0 m 2 ls []) := by
    intro v1_1 k_1
    induction k_1 with
    | zero => intro M_1 H locs v2_1 ls h; exact jh_0 h
    | succ k_1 ih2 =>
      intro M_1 H locs v2_1 ls h hP hS hl
      refine lv_iload_n hx hb dX6_goEvenings_2 rfl (lv_at hl 2 rfl) ?_
      refine lv_iload_n hx hb dX6_goEvenings_3 rfl (lv_at hl 1 rfl) ?_
      refine lv_icmp_ge (tgt := 18) hx hb dX6_goEvenings_4 rfl (fun c4 => ?_) (fun c4 => ?_)
      · replace h := jh_t h c4
        exact je_mv hx hb hr hlocks hK hP hS h dX6_goEvenings_18
      · replace h := jh_f h c4
        refine lv_aload_n hx hb dX6_goEvenings_7 rfl (lv_at hl 0 rfl) ?_
        refine lv_iconst (v := 0) hx hb dX6_goEvenings_8 jci_0 ?_
        obtain ⟨M_2, e2, h⟩ := jh_b h
        refine jr_kv (jr_rv (As := [.int 0]) (rest := []) S hK hP jb_16 rfl (m_X6_eveningBy l X A hs M_1 0 M_2 e2) jw_X6_eveningBy ji_X6_eveningBy jmX6_135 rfl rfl ⟨(Nat.le_of_ble_eq_true rfl), (Nat.le_of_ble_eq_true rfl)⟩ rfl hl.1 rfl (Nat.le_of_ble_eq_true rfl) dX6_goEvenings_9 ⟨Nat.zero_le _, Nat.zero_le _⟩) hS (fun H locs hP hS => ?_)
        refine lv_iinc (v := (v2_1 + 1)) (lv' := [(2, .int (v2_1 + 1)), (0, .ref (jO X 16)), (1, .int v1_1)]) hx hb dX6_goEvenings_12 hl (k := 2) rfl (congrArg _ jci_1) (Nat.le_of_ble_eq_true rfl) rfl (fun ls hl => ?_)
        refine lv_goto (tgt := 2) hx hb dX6_goEvenings_15 rfl ?_
        exact ih2 M_2 _ _ (v2_1 + 1) _ h hP hS (lv_sub hl [1, 2, 0] rfl)
  exact L2 v1 10000 M _ _ 0 _ h hP hS (lv_sub hl [1, 2, 0] rfl)
def f_X6_houseComes_l77 (v4_2 : Int32) : Nat → jm → Int32 → Option (Int32 × jm)
  | 0, _, _ => none
  | k_2 + 1, M_2, v5_2 => (if 6 ≤ v5_2 then (jgb v4_2 (some (v4_2, (ju M_2 16 0 0 ((M_2 16 0 0) + 1))))) else (jgd ((7 * v5_2) + (M_2 16 0 0)) 42 ((f_X6_houseComes_l77 v4_2 k_2) (ju M_2 16 9 (Int32.toNatClampNeg ((7 * v5_2) + (M_2 16 0 0))) 0) (v5_2 + 1))))
def f_X6_houseComes_j27 (M_1 : jm) (v1_1 : Int32) (v2_1 : Int32) (v3_1 : Int32) (t0_1 : Int32) : Option (Int32 × jm) := (if t0_1 = 0 then (jgb t0_1 (some (t0_1, M_1))) else (jgd (M_1 16 0 0) 8 (jgd ((ju M_1 16 1 (Int32.toNatClampNeg (M_1 16 0 0)) v1_1) 16 0 0) 8 (jgd ((ju (ju M_1 16 1 (Int32.toNatClampNeg (M_1 16 0 0)) v1_1) 16 2 (Int32.toNatClampNeg ((ju M_1 16 1 (Int32.toNatClampNeg (M_1 16 0 0)) v1_1) 16 0 0)) v2_1) 16 0 0) 8 (jgd ((ju (ju (ju M_1 16 1 (Int32.toNatClampNeg (M_1 16 0 0)) v1_1) 16 2 (Int32.toNatClampNeg ((ju M_1 16 1 (Int32.toNatClampNeg (M_1 16 0 0)) v1_1) 16 0 0)) v2_1) 16 3 (Int32.toNatClampNeg ((ju (ju M_1 16 1 (Int32.toNatClampNeg (M_1 16 0 0)) v1_1) 16 2 (Int32.toNatClampNeg ((ju M_1 16 1 (Int32.toNatClampNeg (M_1 16 0 0)) v1_1) 16 0 0)) v2_1) 16 0 0)) v3_1) 16 0 0) 8 (f_X6_houseComes_l77 t0_1 10000 (ju (ju (ju (ju M_1 16 1 (Int32.toNatClampNeg (M_1 16 0 0)) v1_1) 16 2 (Int32.toNatClampNeg ((ju M_1 16 1 (Int32.toNatClampNeg (M_1 16 0 0)) v1_1) 16 0 0)) v2_1) 16 3 (Int32.toNatClampNeg ((ju (ju M_1 16 1 (Int32.toNatClampNeg (M_1 16 0 0)) v1_1) 16 2 (Int32.toNatClampNeg ((ju M_1 16 1 (Int32.toNatClampNeg (M_1 16 0 0)) v1_1) 16 0 0)) v2_1) 16 0 0)) v3_1) 16 4 (Int32.toNatClampNeg ((ju (ju (ju M_1 16 1 (Int32.toNatClampNeg (M_1 16 0 0)) v1_1) 16 2 (Int32.toNatClampNeg ((ju M_1 16 1 (Int32.toNatClampNeg (M_1 16 0 0)) v1_1) 16 0 0)) v2_1) 16 3 (Int32.toNatClampNeg ((ju (ju M_1 16 1 (Int32.toNatClampNeg (M_1 16 0 0)) v1_1) 16 2 (Int32.toNatClampNeg ((ju M_1 16 1 (Int32.toNatClampNeg (M_1 16 0 0)) v1_1) 16 0 0)) v2_1) 16 0 0)) v3_1) 16 0 0)) 1) 0))))))
def f_X6_houseComes_j26 (M_3 : jm) (v1_3 : Int32) (v2_3 : Int32) (v3_3 : Int32) : Option (Int32 × jm) := (f_X6_houseComes_j27 M_3 v1_3 v2_3 v3_3 0)
def f_X6_houseComes (M : jm) (v1 : Int32) (v2 : Int32) (v3 : Int32) : Option (Int32 × jm) := (if 6 ≤ v1 then (f_X6_houseComes_j26 M v1 v2 v3) else (if (f_X6_isCell v3) = 0 then (f_X6_houseComes_j26 M v1 v2 v3) else (if 7 ≤ (M 16 0 0) then (f_X6_houseComes_j26 M v1 v2 v3) else (f_X6_houseComes_j27 M v1 v2 v3 1))))
set_option maxRecDepth 100000 in
theorem m_X6_houseComes (l : Launch) (X : jX) (A : Nat → Prop) (hs : jst X A) (M : jm) (v1 : Int32) (v2 : Int32) (v3 : Int32) (r : Int32) (N : jm) (h : f_X6_houseComes M v1 v2 v3 = some (r, N)) : Met l yX6_houseComes (jws yX6_houseComes cX6_houseComes 6 (some .boolean)) (jrm 2 45) (va_Pc [.ref (jO X 16), .int v1, .int v2, .int v3] (jB X M)) (jQm X A (some (.int r)) N) 0 0 A := by
  refine jm_of (by decide) (Nat.le_of_ble_eq_true rfl) ?_
  intro p e s m args below meth c ls S hr hlocks hB hl
  have S : CallFix p m c cX6_houseComes 6 s args jtb RX6 := S
  obtain ⟨hx, hb, hml, hown, hts⟩ := id S
  obtain ⟨hP, hK⟩ := hB
  have hN := hK.2
  have hS : va_S A s.heap s.heap [] := va_S.rf
  have hl : lv_has ls 6 [(0, .ref (jO X 16)), (1, .int v1), (2, .int v2), (3, .int v3)] := hl
  refine lv_iload_n hx hb dX6_houseComes_0 rfl (lv_at hl 1 rfl) ?_
  refine lv_bipush (v := 6) hx hb dX6_houseComes_1 jcb_6 ?_
  have J27 : ∀ (M_1 : jm) (H : Heap) (locs : List Loc) (v1_1 : Int32) (v2_1 : Int32) (v3_1 : Int32) (t0_1 : Int32) (ls : Array Slot), f_X6_houseComes_j27 M_1 v1_1 v2_1 v3_1 t0_1 = some (r, N) → jrp X M_1 H → va_S A s.heap H locs → lv_has ls 6 [(0, .ref (jO X 16)), (1, .int v1_1), (2, .int v2_1), (3, .int v3_1)] → W p l e (jrm 2 45) s m args below meth c H locs 0 0 (MQ below (jQm X A (some (.int r)) N) args s 0 0 A) (F0 m 27 ls [.int t0_1]) := by
    intro M_1 H locs v1_1 v2_1 v3_1 t0_1 ls h hP hS hl
    refine lv_istore (lv' := [(4, .int t0_1), (0, .ref (jO X 16)), (1, .int v1_1), (2, .int v2_1), (3, .int v3_1)]) hx hb dX6_houseComes_27 hl (Nat.le_of_ble_eq_true rfl) rfl (fun ls hl => ?_)
    refine lv_iload hx hb dX6_houseComes_29 (lv_at hl 0 rfl) ?_
    refine lv_if_eq (tgt := 116) hx hb dX6_houseComes_31 rfl (fun c31 => ?_) (fun c31 => ?_)
    · replace h := jh_t h c31
      refine lv_iload hx hb dX6_houseComes_116 (lv_at hl 0 rfl) ?_
      obtain ⟨gz, h⟩ := jh_gb h
      exact je_mz hx hb hr hlocks hK hP hS gz h dX6_houseComes_118
    · replace h := jh_f h c31
      refine lv_aload_n hx hb dX6_houseComes_34 rfl (lv_at hl 1 rfl) ?_
      refine jr_get (k := 1) hx hb hts hown hK hP jb_16 (Nat.le_of_ble_eq_true rfl) jlX6_7 rfl dX6_houseComes_35 ?_
      refine lv_aload_n hx hb dX6_houseComes_38 rfl (lv_at hl 1 rfl) ?_
      refine jr_get (k := 0) hx hb hts hown hK hP jb_16 (Nat.le_of_ble_eq_true rfl) jlX6_89 rfl dX6_houseComes_39 ?_
      refine lv_iload_n hx hb dX6_houseComes_42 rfl (lv_at hl 2 rfl) ?_
      obtain ⟨g43, h⟩ := jh_gd h
      refine jr_ast (n := 8) hx hb hK hP hs hS jb_16 rfl g43 dX6_houseComes_43 (fun H locs hP hS => ?_)
      refine lv_aload_n hx hb dX6_houseComes_44 rfl (lv_at hl 1 rfl) ?_
      refine jr_get (k := 2) hx hb hts hown hK hP jb_16 (Nat.le_of_ble_eq_true rfl) jlX6_13 rfl dX6_houseComes_45 ?_
      refine lv_aload_n hx hb dX6_houseComes_48 rfl (lv_at hl 1 rfl) ?_
      refine jr_get (k := 0) hx hb hts hown hK hP jb_16 (Nat.le_of_ble_eq_true rfl) jlX6_89 rfl dX6_houseComes_49 ?_
      refine lv_iload_n hx hb dX6_houseComes_52 rfl (lv_at hl 3 rfl) ?_
      obtain ⟨g53, h⟩ := jh_gd h
      refine jr_ast (n := 8) hx hb hK hP hs hS jb_16 rfl g53 dX6_houseComes_53 (fun H locs hP hS => ?_)
      refine lv_aload_n hx hb dX6_houseComes_54 rfl (lv_at hl 1 rfl) ?_
      refine jr_get (k := 3) hx hb hts hown hK hP jb_16 (Nat.le_of_ble_eq_true rfl) jlX6_16 rfl dX6_houseComes_55 ?_
      refine lv_aload_n hx hb dX6_houseComes_58 rfl (lv_at hl 1 rfl) ?_
      refine jr_get (k := 0) hx hb hts hown hK hP jb_16 (Nat.le_of_ble_eq_true rfl) jlX6_89 rfl dX6_houseComes_59 ?_
      refine lv_iload_n hx hb dX6_houseComes_62 rfl (lv_at hl 4 rfl) ?_
      obtain ⟨g63, h⟩ := jh_gd h
      refine jr_ast (n := 8) hx hb hK hP hs hS jb_16 rfl g63 dX6_houseComes_63 (fun H locs hP hS => ?_)
      refine lv_aload_n hx hb dX6_houseComes_64 rfl (lv_at hl 1 rfl) ?_
      refine jr_get (k := 4) hx hb hts hown hK hP jb_16 (Nat.le_of_ble_eq_true rfl) jlX6_19 rfl dX6_houseComes_65 ?_
      refine lv_aload_n hx hb dX6_houseComes_68 rfl (lv_at hl 1 rfl) ?_
      refine jr_get (k := 0) hx hb hts hown hK hP jb_16 (Nat.le_of_ble_eq_true rfl) jlX6_89 rfl dX6_houseComes_69 ?_
      refine lv_iconst (v := 1) hx hb dX6_houseComes_72 jci_1 ?_
      obtain ⟨g73, h⟩ := jh_gd h
      refine jr_ast (n := 8) hx hb hK hP hs hS jb_16 rfl g73 dX6_houseComes_73 (fun H locs hP hS => ?_)
      refine lv_iconst (v := 0) hx hb dX6_houseComes_74 jci_0 ?_
      refine lv_istore (lv' := [(5, .int 0), (4, .int t0_1), (0, .ref (jO X 16)), (1, .int v1_1), (2, .int v2_1), (3, .int v3_1)]) hx hb dX6_houseComes_75 hl (Nat.le_of_ble_eq_true rfl) rfl (fun ls hl => ?_)
      have L77 : ∀ (v4_2 : Int32) (k_2 : Nat) (M_2 : jm) (H : Heap) (locs : List Loc) (v5_2 : Int32) (ls : Array Slot), f_X6_houseComes_l77 v4_2 k_2 M_2 v5_2 = some (r, N) → jrp X M_2 H → va_S A s.heap H locs → lv_has ls 6 [(0, .ref (jO X 16)), (4, .int v4_2), (5, .int v5_2)] → W p l e (jrm 2 45) s m args below meth c H locs 0 0 (MQ below (jQm X A (some (.int r)) N) args s 0 0 A) (F0 m 77 ls []) := by
        intro v4_2 k_2
        induction k_2 with
        | zero => intro M_2 H locs v5_2 ls h; exact jh_0 h
        | succ k_2 ih77 =>
          intro M_2 H locs v5_2 ls h hP hS hl
          refine lv_iload hx hb dX6_houseComes_77 (lv_at hl 2 rfl) ?_
          refine lv_bipush (v := 6) hx hb dX6_houseComes_79 jcb_6 ?_
          refine lv_icmp_ge (tgt := 106) hx hb dX6_houseComes_81 rfl (fun c81 => ?_) (fun c81 => ?_)
          · replace h := jh_t h c81
            refine lv_aload_n hx hb dX6_houseComes_106 rfl (lv_at hl 0 rfl) ?_
            refine lv_dup hx hb dX6_houseComes_107 rfl ?_
            refine jr_get (k := 0) hx hb hts hown hK hP jb_16 (Nat.le_of_ble_eq_true rfl) jlX6_89 rfl dX6_houseComes_108 ?_
            refine lv_iconst (v := 1) hx hb dX6_houseComes_111 jci_1 ?_
            refine lv_iadd hx hb dX6_houseComes_112 ?_
            refine jr_put (k := 0) (z := ((M_2 16 0 0) + 1)) hx hb hts hown hK hP hs hS jb_16 (Nat.le_of_ble_eq_true rfl) jlX6_89 rfl (Or.inl rfl) rfl rfl rfl dX6_houseComes_113 (fun H locs hP hS => ?_)
            refine lv_iload hx hb dX6_houseComes_116 (lv_at hl 1 rfl) ?_
            obtain ⟨gz, h⟩ := jh_gb h
            exact je_mz hx hb hr hlocks hK hP hS gz h dX6_houseComes_118
          · replace h := jh_f h c81
            refine lv_aload_n hx hb dX6_houseComes_84 rfl (lv_at hl 0 rfl) ?_
            refine jr_get (k := 9) hx hb hts hown hK hP jb_16 (Nat.le_of_ble_eq_true rfl) jlX6_31 rfl dX6_houseComes_85 ?_
            refine lv_bipush (v := 7) hx hb dX6_houseComes_88 jcb_7 ?_
            refine lv_iload hx hb dX6_houseComes_90 (lv_at hl 2 rfl) ?_
            refine lv_imul hx hb dX6_houseComes_92 ?_
            refine lv_aload_n hx hb dX6_houseComes_93 rfl (lv_at hl 0 rfl) ?_
            refine jr_get (k := 0) hx hb hts hown hK hP jb_16 (Nat.le_of_ble_eq_true rfl) jlX6_89 rfl dX6_houseComes_94 ?_
            refine lv_iadd hx hb dX6_houseComes_97 ?_
            refine lv_iconst (v := 0) hx hb dX6_houseComes_98 jci_0 ?_
            obtain ⟨g99, h⟩ := jh_gd h
            refine jr_ast (n := 42) hx hb hK hP hs hS jb_16 rfl g99 dX6_houseComes_99 (fun H locs hP hS => ?_)
            refine lv_iinc (v := (v5_2 + 1)) (lv' := [(5, .int (v5_2 + 1)), (0, .ref (jO X 16)), (4, .int v4_2)]) hx hb dX6_houseComes_100 hl (k := 2) rfl (congrArg _ jci_1) (Nat.le_of_ble_eq_true rfl) rfl (fun ls hl => ?_)
            refine lv_goto (tgt := 77) hx hb dX6_houseComes_103 rfl ?_
            exact ih77 (ju M_2 16 9 (Int32.toNatClampNeg ((7 * v5_2) + (M_2 16 0 0))) 0) _ _ (v5_2 + 1) _ h hP hS (lv_sub hl [1, 2, 0] rfl)
      exact L77 t0_1 10000 (ju (ju (ju (ju M_1 16 1 (Int32.toNatClampNeg (M_1 16 0 0)) v1_1) 16 2 (Int32.toNatClampNeg ((ju M_1 16 1 (Int32.toNatClampNeg (M_1 16 0 0)) v1_1) 16 0 0)) v2_1) 16 3 (Int32.toNatClampNeg ((ju (ju M_1 16 1 (Int32.toNatClampNeg (M_1 16 0 0)) v1_1) 16 2 (Int32.toNatClampNeg ((ju M_1 16 1 (Int32.toNatClampNeg (M_1 16 0 0)) v1_1) 16 0 0)) v2_1) 16 0 0)) v3_1) 16 4 (Int32.toNatClampNeg ((ju (ju (ju M_1 16 1 (Int32.toNatClampNeg (M_1 16 0 0)) v1_1) 16 2 (Int32.toNatClampNeg ((ju M_1 16 1 (Int32.toNatClampNeg (M_1 16 0 0)) v1_1) 16 0 0)) v2_1) 16 3 (Int32.toNatClampNeg ((ju (ju M_1 16 1 (Int32.toNatClampNeg (M_1 16 0 0)) v1_1) 16 2 (Int32.toNatClampNeg ((ju M_1 16 1 (Int32.toNatClampNeg (M_1 16 0 0)) v1_1) 16 0 0)) v2_1) 16 0 0)) v3_1) 16 0 0)) 1) _ _ 0 _ h hP hS (lv_sub hl [2, 1, 0] rfl)
  have J26 : ∀ (M_3 : jm) (H : Heap) (locs : List Loc) (v1_3 : Int32) (v2_3 : Int32) (v3_3 : Int32) (ls : Array Slot), f_X6_houseComes_j26 M_3 v1_3 v2_3 v3_3 = some (r, N) → jrp X M_3 H → va_S A s.heap H locs → lv_has ls 6 [(0, .ref (jO X 16)), (1, .int v1_3), (2, .int v2_3), (3, .int v3_3)] → W p l e (jrm 2 45) s m args below meth c H locs 0 0 (MQ below (jQm X A (some (.int r)) N) args s 0 0 A) (F0 m 26 ls []) := by
    intro M_3 H locs v1_3 v2_3 v3_3 ls h hP hS hl
    refine lv_iconst (v := 0) hx hb dX6_houseComes_26 jci_0 ?_
    exact J27 M_3 _ _ v1_3 v2_3 v3_3 0 _ h hP hS hl
  refine lv_icmp_ge (tgt := 26) hx hb dX6_houseComes_3 rfl (fun c3 => ?_) (fun c3 => ?_)
  · replace h := jh_t h c3
    exact J26 M _ _ v1 v2 v3 _ h hP hS hl
  · replace h := jh_f h c3
    refine lv_iload_n hx hb dX6_houseComes_6 rfl (lv_at hl 3 rfl) ?_
    refine jr_kp (jr_rs (As := [.int v3]) (rest := []) S hN (m_X6_isCell l v3 _ rfl) jw_X6_isCell js_X6_isCell jmX6_139 rfl rfl ⟨(Nat.le_of_ble_eq_true rfl), (Nat.le_of_ble_eq_true rfl)⟩ rfl hl.1 rfl (Nat.le_of_ble_eq_true rfl) dX6_houseComes_7 ⟨Nat.zero_le _, Nat.zero_le _⟩) ?_
    refine lv_if_eq (tgt := 26) hx hb dX6_houseComes_10 rfl (fun c10 => ?_) (fun c10 => ?_)
    · replace h := jh_t h c10
      exact J26 M _ _ v1 v2 v3 _ h hP hS hl
    · replace h := jh_f h c10
      refine lv_aload_n hx hb dX6_houseComes_13 rfl (lv_at hl 0 rfl) ?_
      refine jr_get (k := 0) hx hb hts hown hK hP jb_16 (Nat.le_of_ble_eq_true rfl) jlX6_89 rfl dX6_houseComes_14 ?_
      refine lv_bipush (v := 7) hx hb dX6_houseComes_17 jcb_7 ?_
      refine lv_icmp_ge (tgt := 26) hx hb dX6_houseComes_19 rfl (fun c19 => ?_) (fun c19 => ?_)
      · replace h := jh_t h c19
        exact J26 M _ _ v1 v2 v3 _ h hP hS hl
      · replace h := jh_f h c19
        refine lv_iconst (v := 1) hx hb dX6_houseComes_22 jci_1 ?_
        refine lv_goto (tgt := 27) hx hb dX6_houseComes_23 rfl ?_
        exact J27 M _ _ v1 v2 v3 1 _ h hP hS hl
def f_X6_walkerComes_l73 (v4_3 : Int32) : Nat → jm → Int32 → Option (Int32 × jm)
  | 0, _, _ => none
  | k_3 + 1, M_3, v5_3 => (if 7 ≤ v5_3 then (jgb v4_3 (some (v4_3, (ju M_3 16 5 0 ((M_3 16 5 0) + 1))))) else (jgd ((7 * (M_3 16 5 0)) + v5_3) 42 ((f_X6_walkerComes_l73 v4_3 k_3) (ju M_3 16 9 (Int32.toNatClampNeg ((7 * (M_3 16 5 0)) + v5_3)) 0) (v5_3 + 1))))
def f_X6_walkerComes_j33 (M_2 : jm) (v1_2 : Int32) (v2_2 : Int32) (v3_2 : Int32) (t0_2 : Int32) : Option (Int32 × jm) := (if t0_2 = 0 then (jgb t0_2 (some (t0_2, M_2))) else (jgd (M_2 16 5 0) 6 (jgd ((ju M_2 16 6 (Int32.toNatClampNeg (M_2 16 5 0)) v1_2) 16 5 0) 6 (jgd ((ju (ju M_2 16 6 (Int32.toNatClampNeg (M_2 16 5 0)) v1_2) 16 7 (Int32.toNatClampNeg ((ju M_2 16 6 (Int32.toNatClampNeg (M_2 16 5 0)) v1_2) 16 5 0)) v2_2) 16 5 0) 6 (f_X6_walkerComes_l73 t0_2 10000 (ju (ju (ju M_2 16 6 (Int32.toNatClampNeg (M_2 16 5 0)) v1_2) 16 7 (Int32.toNatClampNeg ((ju M_2 16 6 (Int32.toNatClampNeg (M_2 16 5 0)) v1_2) 16 5 0)) v2_2) 16 8 (Int32.toNatClampNeg ((ju (ju M_2 16 6 (Int32.toNatClampNeg (M_2 16 5 0)) v1_2) 16 7 (Int32.toNatClampNeg ((ju M_2 16 6 (Int32.toNatClampNeg (M_2 16 5 0)) v1_2) 16 5 0)) v2_2) 16 5 0)) v3_2) 0)))))
def f_X6_walkerComes_j32 (M_4 : jm) (v1_4 : Int32) (v2_4 : Int32) (v3_4 : Int32) : Option (Int32 × jm) := (f_X6_walkerComes_j33 M_4 v1_4 v2_4 v3_4 0)
def f_X6_walkerComes (M : jm) (v1 : Int32) (v2 : Int32) (v3 : Int32) : Option (Int32 × jm) := (if (f_X6_isCell v1) = 0 then (f_X6_walkerComes_j32 M v1 v2 v3) else (if (f_X6_isCell v2) = 0 then (f_X6_walkerComes_j32 M v1 v2 v3) else (if 2 < v3 then (f_X6_walkerComes_j32 M v1 v2 v3) else (if 6 ≤ (M 16 5 0) then (f_X6_walkerComes_j32 M v1 v2 v3) else (f_X6_walkerComes_j33 M v1 v2 v3 1)))))
set_option maxRecDepth 100000 in
theorem m_X6_walkerComes (l : Launch) (X : jX) (A : Nat → Prop) (hs : jst X A) (M : jm) (v1 : Int32) (v2 : Int32) (v3 : Int32) (r : Int32) (N : jm) (h : f_X6_walkerComes M v1 v2 v3 = some (r, N)) : Met l yX6_walkerComes (jws yX6_walkerComes cX6_walkerComes 6 (some .boolean)) (jrm 2 45) (va_Pc [.ref (jO X 16), .int v1, .int v2, .int v3] (jB X M)) (jQm X A (some (.int r)) N) 0 0 A := by
  refine jm_of (by decide) (Nat.le_of_ble_eq_true rfl) ?_
  intro p e s m args below meth c ls S hr hlocks hB hl
  have S : CallFix p m c cX6_walkerComes 6 s args jtb RX6 := S
  obtain ⟨hx, hb, hml, hown, hts⟩ := id S
  obtain ⟨hP, hK⟩ := hB
  have hN := hK.2
  have hS : va_S A s.heap s.heap [] := va_S.rf
  have hl : lv_has ls 6 [(0, .ref (jO X 16)), (1, .int v1), (2, .int v2), (3, .int v3)] := hl
  refine lv_iload_n hx hb dX6_walkerComes_0 rfl (lv_at hl 1 rfl) ?_
  refine jr_kp (jr_rs (As := [.int v1]) (rest := []) S hN (m_X6_isCell l v1 _ rfl) jw_X6_isCell js_X6_isCell jmX6_139 rfl rfl ⟨(Nat.le_of_ble_eq_true rfl), (Nat.le_of_ble_eq_true rfl)⟩ rfl hl.1 rfl (Nat.le_of_ble_eq_true rfl) dX6_walkerComes_1 ⟨Nat.zero_le _, Nat.zero_le _⟩) ?_
  have J33 : ∀ (M_2 : jm) (H : Heap) (locs : List Loc) (v1_2 : Int32) (v2_2 : Int32) (v3_2 : Int32) (t0_2 : Int32) (ls : Array Slot), f_X6_walkerComes_j33 M_2 v1_2 v2_2 v3_2 t0_2 = some (r, N) → jrp X M_2 H → va_S A s.heap H locs → lv_has ls 6 [(0, .ref (jO X 16)), (1, .int v1_2), (2, .int v2_2), (3, .int v3_2)] → W p l e (jrm 2 45) s m args below meth c H locs 0 0 (MQ below (jQm X A (some (.int r)) N) args s 0 0 A) (F0 m 33 ls [.int t0_2]) := by
    intro M_2 H locs v1_2 v2_2 v3_2 t0_2 ls h hP hS hl
    refine lv_istore (lv' := [(4, .int t0_2), (0, .ref (jO X 16)), (1, .int v1_2), (2, .int v2_2), (3, .int v3_2)]) hx hb dX6_walkerComes_33 hl (Nat.le_of_ble_eq_true rfl) rfl (fun ls hl => ?_)
    refine lv_iload hx hb dX6_walkerComes_35 (lv_at hl 0 rfl) ?_
    refine lv_if_eq (tgt := 112) hx hb dX6_walkerComes_37 rfl (fun c37 => ?_) (fun c37 => ?_)
    · replace h := jh_t h c37
      refine lv_iload hx hb dX6_walkerComes_112 (lv_at hl 0 rfl) ?_
      obtain ⟨gz, h⟩ := jh_gb h
      exact je_mz hx hb hr hlocks hK hP hS gz h dX6_walkerComes_114
    · replace h := jh_f h c37
      refine lv_aload_n hx hb dX6_walkerComes_40 rfl (lv_at hl 1 rfl) ?_
      refine jr_get (k := 6) hx hb hts hown hK hP jb_16 (Nat.le_of_ble_eq_true rfl) jlX6_22 rfl dX6_walkerComes_41 ?_
      refine lv_aload_n hx hb dX6_walkerComes_44 rfl (lv_at hl 1 rfl) ?_
      refine jr_get (k := 5) hx hb hts hown hK hP jb_16 (Nat.le_of_ble_eq_true rfl) jlX6_92 rfl dX6_walkerComes_45 ?_
      refine lv_iload_n hx hb dX6_walkerComes_48 rfl (lv_at hl 2 rfl) ?_
      obtain ⟨g49, h⟩ := jh_gd h
      refine jr_ast (n := 6) hx hb hK hP hs hS jb_16 rfl g49 dX6_walkerComes_49 (fun H locs hP hS => ?_)
      refine lv_aload_n hx hb dX6_walkerComes_50 rfl (lv_at hl 1 rfl) ?_
      refine jr_get (k := 7) hx hb hts hown hK hP jb_16 (Nat.le_of_ble_eq_true rfl) jlX6_25 rfl dX6_walkerComes_51 ?_
      refine lv_aload_n hx hb dX6_walkerComes_54 rfl (lv_at hl 1 rfl) ?_
      refine jr_get (k := 5) hx hb hts hown hK hP jb_16 (Nat.le_of_ble_eq_true rfl) jlX6_92 rfl dX6_walkerComes_55 ?_
      refine lv_iload_n hx hb dX6_walkerComes_58 rfl (lv_at hl 3 rfl) ?_
      obtain ⟨g59, h⟩ := jh_gd h
      refine jr_ast (n := 6) hx hb hK hP hs hS jb_16 rfl g59 dX6_walkerComes_59 (fun H locs hP hS => ?_)
      refine lv_aload_n hx hb dX6_walkerComes_60 rfl (lv_at hl 1 rfl) ?_
      refine jr_get (k := 8) hx hb hts hown hK hP jb_16 (Nat.le_of_ble_eq_true rfl) jlX6_28 rfl dX6_walkerComes_61 ?_
      refine lv_aload_n hx hb dX6_walkerComes_64 rfl (lv_at hl 1 rfl) ?_
      refine jr_get (k := 5) hx hb hts hown hK hP jb_16 (Nat.le_of_ble_eq_true rfl) jlX6_92 rfl dX6_walkerComes_65 ?_
      refine lv_iload_n hx hb dX6_walkerComes_68 rfl (lv_at hl 4 rfl) ?_
      obtain ⟨g69, h⟩ := jh_gd h
      refine jr_ast (n := 6) hx hb hK hP hs hS jb_16 rfl g69 dX6_walkerComes_69 (fun H locs hP hS => ?_)
      refine lv_iconst (v := 0) hx hb dX6_walkerComes_70 jci_0 ?_
      refine lv_istore (lv' := [(5, .int 0), (4, .int t0_2), (0, .ref (jO X 16)), (1, .int v1_2), (2, .int v2_2), (3, .int v3_2)]) hx hb dX6_walkerComes_71 hl (Nat.le_of_ble_eq_true rfl) rfl (fun ls hl => ?_)
      have L73 : ∀ (v4_3 : Int32) (k_3 : Nat) (M_3 : jm) (H : Heap) (locs : List Loc) (v5_3 : Int32) (ls : Array Slot), f_X6_walkerComes_l73 v4_3 k_3 M_3 v5_3 = some (r, N) → jrp X M_3 H → va_S A s.heap H locs → lv_has ls 6 [(0, .ref (jO X 16)), (4, .int v4_3), (5, .int v5_3)] → W p l e (jrm 2 45) s m args below meth c H locs 0 0 (MQ below (jQm X A (some (.int r)) N) args s 0 0 A) (F0 m 73 ls []) := by
        intro v4_3 k_3
        induction k_3 with
        | zero => intro M_3 H locs v5_3 ls h; exact jh_0 h
        | succ k_3 ih73 =>
          intro M_3 H locs v5_3 ls h hP hS hl
          refine lv_iload hx hb dX6_walkerComes_73 (lv_at hl 2 rfl) ?_
          refine lv_bipush (v := 7) hx hb dX6_walkerComes_75 jcb_7 ?_
          refine lv_icmp_ge (tgt := 102) hx hb dX6_walkerComes_77 rfl (fun c77 => ?_) (fun c77 => ?_)
          · replace h := jh_t h c77
            refine lv_aload_n hx hb dX6_walkerComes_102 rfl (lv_at hl 0 rfl) ?_
            refine lv_dup hx hb dX6_walkerComes_103 rfl ?_
            refine jr_get (k := 5) hx hb hts hown hK hP jb_16 (Nat.le_of_ble_eq_true rfl) jlX6_92 rfl dX6_walkerComes_104 ?_
            refine lv_iconst (v := 1) hx hb dX6_walkerComes_107 jci_1 ?_
            refine lv_iadd hx hb dX6_walkerComes_108 ?_
            refine jr_put (k := 5) (z := ((M_3 16 5 0) + 1)) hx hb hts hown hK hP hs hS jb_16 (Nat.le_of_ble_eq_true rfl) jlX6_92 rfl (Or.inl rfl) rfl rfl rfl dX6_walkerComes_109 (fun H locs hP hS => ?_)
            refine lv_iload hx hb dX6_walkerComes_112 (lv_at hl 1 rfl) ?_
            obtain ⟨gz, h⟩ := jh_gb h
            exact je_mz hx hb hr hlocks hK hP hS gz h dX6_walkerComes_114
          · replace h := jh_f h c77
            refine lv_aload_n hx hb dX6_walkerComes_80 rfl (lv_at hl 0 rfl) ?_
            refine jr_get (k := 9) hx hb hts hown hK hP jb_16 (Nat.le_of_ble_eq_true rfl) jlX6_31 rfl dX6_walkerComes_81 ?_
            refine lv_bipush (v := 7) hx hb dX6_walkerComes_84 jcb_7 ?_
            refine lv_aload_n hx hb dX6_walkerComes_86 rfl (lv_at hl 0 rfl) ?_
            refine jr_get (k := 5) hx hb hts hown hK hP jb_16 (Nat.le_of_ble_eq_true rfl) jlX6_92 rfl dX6_walkerComes_87 ?_
            refine lv_imul hx hb dX6_walkerComes_90 ?_
            refine lv_iload hx hb dX6_walkerComes_91 (lv_at hl 2 rfl) ?_
            refine lv_iadd hx hb dX6_walkerComes_93 ?_
            refine lv_iconst (v := 0) hx hb dX6_walkerComes_94 jci_0 ?_
            obtain ⟨g95, h⟩ := jh_gd h
            refine jr_ast (n := 42) hx hb hK hP hs hS jb_16 rfl g95 dX6_walkerComes_95 (fun H locs hP hS => ?_)
            refine lv_iinc (v := (v5_3 + 1)) (lv' := [(5, .int (v5_3 + 1)), (0, .ref (jO X 16)), (4, .int v4_3)]) hx hb dX6_walkerComes_96 hl (k := 2) rfl (congrArg _ jci_1) (Nat.le_of_ble_eq_true rfl) rfl (fun ls hl => ?_)
            refine lv_goto (tgt := 73) hx hb dX6_walkerComes_99 rfl ?_
            exact ih73 (ju M_3 16 9 (Int32.toNatClampNeg ((7 * (M_3 16 5 0)) + v5_3)) 0) _ _ (v5_3 + 1) _ h hP hS (lv_sub hl [1, 2, 0] rfl)
      exact L73 t0_2 10000 (ju (ju (ju M_2 16 6 (Int32.toNatClampNeg (M_2 16 5 0)) v1_2) 16 7 (Int32.toNatClampNeg ((ju M_2 16 6 (Int32.toNatClampNeg (M_2 16 5 0)) v1_2) 16 5 0)) v2_2) 16 8 (Int32.toNatClampNeg ((ju (ju M_2 16 6 (Int32.toNatClampNeg (M_2 16 5 0)) v1_2) 16 7 (Int32.toNatClampNeg ((ju M_2 16 6 (Int32.toNatClampNeg (M_2 16 5 0)) v1_2) 16 5 0)) v2_2) 16 5 0)) v3_2) _ _ 0 _ h hP hS (lv_sub hl [2, 1, 0] rfl)
  have J32 : ∀ (M_4 : jm) (H : Heap) (locs : List Loc) (v1_4 : Int32) (v2_4 : Int32) (v3_4 : Int32) (ls : Array Slot), f_X6_walkerComes_j32 M_4 v1_4 v2_4 v3_4 = some (r, N) → jrp X M_4 H → va_S A s.heap H locs → lv_has ls 6 [(0, .ref (jO X 16)), (1, .int v1_4), (2, .int v2_4), (3, .int v3_4)] → W p l e (jrm 2 45) s m args below meth c H locs 0 0 (MQ below (jQm X A (some (.int r)) N) args s 0 0 A) (F0 m 32 ls []) := by
    intro M_4 H locs v1_4 v2_4 v3_4 ls h hP hS hl
    refine lv_iconst (v := 0) hx hb dX6_walkerComes_32 jci_0 ?_
    exact J33 M_4 _ _ v1_4 v2_4 v3_4 0 _ h hP hS hl
  refine lv_if_eq (tgt := 32) hx hb dX6_walkerComes_4 rfl (fun c4 => ?_) (fun c4 => ?_)
  · replace h := jh_t h c4
    exact J32 M _ _ v1 v2 v3 _ h hP hS hl
  · replace h := jh_f h c4
    refine lv_iload_n hx hb dX6_walkerComes_7 rfl (lv_at hl 2 rfl) ?_
    refine jr_kp (jr_rs (As := [.int v2]) (rest := []) S hN (m_X6_isCell l v2 _ rfl) jw_X6_isCell js_X6_isCell jmX6_139 rfl rfl ⟨(Nat.le_of_ble_eq_true rfl), (Nat.le_of_ble_eq_true rfl)⟩ rfl hl.1 rfl (Nat.le_of_ble_eq_true rfl) dX6_walkerComes_8 ⟨Nat.zero_le _, Nat.zero_le _⟩) ?_
    refine lv_if_eq (tgt := 32) hx hb dX6_walkerComes_11 rfl (fun c11 => ?_) (fun c11 => ?_)
    · replace h := jh_t h c11
      exact J32 M _ _ v1 v2 v3 _ h hP hS hl
    · replace h := jh_f h c11
      refine lv_iload_n hx hb dX6_walkerComes_14 rfl (lv_at hl 3 rfl) ?_
      refine lv_iconst (v := 2) hx hb dX6_walkerComes_15 jci_2 ?_
      refine lv_icmp_gt (tgt := 32) hx hb dX6_walkerComes_16 rfl (fun c16 => ?_) (fun c16 => ?_)
      · replace h := jh_t h c16
        exact J32 M _ _ v1 v2 v3 _ h hP hS hl
      · replace h := jh_f h c16
        refine lv_aload_n hx hb dX6_walkerComes_19 rfl (lv_at hl 0 rfl) ?_
        refine jr_get (k := 5) hx hb hts hown hK hP jb_16 (Nat.le_of_ble_eq_true rfl) jlX6_92 rfl dX6_walkerComes_20 ?_
        refine lv_bipush (v := 6) hx hb dX6_walkerComes_23 jcb_6 ?_
        refine lv_icmp_ge (tgt := 32) hx hb dX6_walkerComes_25 rfl (fun c25 => ?_) (fun c25 => ?_)
        · replace h := jh_t h c25
          exact J32 M _ _ v1 v2 v3 _ h hP hS hl
        · replace h := jh_f h c25
          refine lv_iconst (v := 1) hx hb dX6_walkerComes_28 jci_1 ?_
          refine lv_goto (tgt := 33) hx hb dX6_walkerComes_29 rfl ?_
          exact J33 M _ _ v1 v2 v3 1 _ h hP hS hl
def f_X6_feed (M : jm) (v1 : Int32) : Option (Int32 × jm) := (if 0 ≤ v1 then (if 255 < v1 then (jb2 (f_X6_refuse (ju M 16 11 0 0) (-6)) fun r1 M_1 => (some (r1, M_1))) else (if ((ju M 16 11 0 0) 16 14 0) = 96 then (jb2 (f_X6_refuse (ju M 16 11 0 0) (-6)) fun r2 M_2 => (some (r2, M_2))) else (jgd ((ju M 16 11 0 0) 16 14 0) 96 (some (((ju (ju (ju M 16 11 0 0) 16 13 (Int32.toNatClampNeg ((ju M 16 11 0 0) 16 14 0)) v1) 16 14 0 (((ju (ju M 16 11 0 0) 16 13 (Int32.toNatClampNeg ((ju M 16 11 0 0) 16 14 0)) v1) 16 14 0) + 1)) 16 14 0), (ju (ju (ju M 16 11 0 0) 16 13 (Int32.toNatClampNeg ((ju M 16 11 0 0) 16 14 0)) v1) 16 14 0 (((ju (ju M 16 11 0 0) 16 13 (Int32.toNatClampNeg ((ju M 16 11 0 0) 16 14 0)) v1) 16 14 0) + 1))))))) else (jb2 (f_X6_refuse (ju M 16 11 0 0) (-4)) fun r3 M_3 => (some (r3, M_3))))
set_option maxRecDepth 100000 in
theorem m_X6_feed (l : Launch) (X : jX) (A : Nat → Prop) (hs : jst X A) (M : jm) (v1 : Int32) (r : Int32) (N : jm) (h : f_X6_feed M v1 = some (r, N)) : Met l yX6_feed (jws yX6_feed cX6_feed 2 (some .int)) (jrm 1 21) (va_Pc [.ref (jO X 16), .int v1] (jB X M)) (jQm X A (some (.int r)) N) 0 0 A := by
  refine jm_of (by decide) (Nat.le_of_ble_eq_true rfl) ?_
  intro p e s m args below meth c ls S hr hlocks hB hl
  have S : CallFix p m c cX6_feed 2 s args jtb RX6 := S
  obtain ⟨hx, hb, hml, hown, hts⟩ := id S
  obtain ⟨hP, hK⟩ := hB
  have hN := hK.2
  have hS : va_S A s.heap s.heap [] := va_S.rf
  have hl : lv_has ls 2 [(0, .ref (jO X 16)), (1, .int v1)] := hl
  refine lv_aload_n hx hb dX6_feed_0 rfl (lv_at hl 0 rfl) ?_
  refine lv_iconst (v := 0) hx hb dX6_feed_1 jci_0 ?_
  refine jr_put (k := 11) (z := 0) hx hb hts hown hK hP hs hS jb_16 (Nat.le_of_ble_eq_true rfl) jlX6_79 rfl (Or.inl rfl) rfl rfl rfl dX6_feed_2 (fun H locs hP hS => ?_)
  refine lv_iload_n hx hb dX6_feed_5 rfl (lv_at hl 1 rfl) ?_
  refine lv_if_ge (tgt := 16) hx hb dX6_feed_6 rfl (fun c6 => ?_) (fun c6 => ?_)
  · replace h := jh_t h c6
    refine lv_iload_n hx hb dX6_feed_16 rfl (lv_at hl 1 rfl) ?_
    refine lv_sipush (v := 255) hx hb dX6_feed_17 jcs_255 ?_
    refine lv_icmp_gt (tgt := 32) hx hb dX6_feed_20 rfl (fun c20 => ?_) (fun c20 => ?_)
    · replace h := jh_t h c20
      refine lv_aload_n hx hb dX6_feed_32 rfl (lv_at hl 0 rfl) ?_
      refine lv_bipush (v := (-6)) hx hb dX6_feed_33 jcb_m6 ?_
      obtain ⟨r1, M_1, e1, h⟩ := jh_b2 h
      refine jr_km (jr_rv (As := [.int (-6)]) (rest := []) S hK hP jb_16 rfl (m_X6_refuse l X A hs (ju M 16 11 0 0) (-6) r1 M_1 e1) jw_X6_refuse ji_X6_refuse jmX6_143 rfl rfl ⟨(Nat.le_of_ble_eq_true rfl), (Nat.le_of_ble_eq_true rfl)⟩ rfl hl.1 rfl (Nat.le_of_ble_eq_true rfl) dX6_feed_35 ⟨Nat.zero_le _, Nat.zero_le _⟩) hS (fun H locs hP hS => ?_)
      exact je_mi hx hb hr hlocks hK hP hS h dX6_feed_38
    · replace h := jh_f h c20
      refine lv_aload_n hx hb dX6_feed_23 rfl (lv_at hl 0 rfl) ?_
      refine jr_get (k := 14) hx hb hts hown hK hP jb_16 (Nat.le_of_ble_eq_true rfl) jlX6_146 rfl dX6_feed_24 ?_
      refine lv_bipush (v := 96) hx hb dX6_feed_27 jcb_96 ?_
      refine lv_icmp_ne (tgt := 39) hx hb dX6_feed_29 rfl (fun c29 => ?_) (fun c29 => ?_)
      · replace h := jh_f h c29
        refine lv_aload_n hx hb dX6_feed_39 rfl (lv_at hl 0 rfl) ?_
        refine jr_get (k := 13) hx hb hts hown hK hP jb_16 (Nat.le_of_ble_eq_true rfl) jlX6_37 rfl dX6_feed_40 ?_
        refine lv_aload_n hx hb dX6_feed_43 rfl (lv_at hl 0 rfl) ?_
        refine jr_get (k := 14) hx hb hts hown hK hP jb_16 (Nat.le_of_ble_eq_true rfl) jlX6_146 rfl dX6_feed_44 ?_
        refine lv_iload_n hx hb dX6_feed_47 rfl (lv_at hl 1 rfl) ?_
        obtain ⟨g48, h⟩ := jh_gd h
        refine jr_ast (n := 96) hx hb hK hP hs hS jb_16 rfl g48 dX6_feed_48 (fun H locs hP hS => ?_)
        refine lv_aload_n hx hb dX6_feed_49 rfl (lv_at hl 0 rfl) ?_
        refine lv_dup hx hb dX6_feed_50 rfl ?_
        refine jr_get (k := 14) hx hb hts hown hK hP jb_16 (Nat.le_of_ble_eq_true rfl) jlX6_146 rfl dX6_feed_51 ?_
        refine lv_iconst (v := 1) hx hb dX6_feed_54 jci_1 ?_
        refine lv_iadd hx hb dX6_feed_55 ?_
        refine jr_put (k := 14) (z := (((ju (ju M 16 11 0 0) 16 13 (Int32.toNatClampNeg ((ju M 16 11 0 0) 16 14 0)) v1) 16 14 0) + 1)) hx hb hts hown hK hP hs hS jb_16 (Nat.le_of_ble_eq_true rfl) jlX6_146 rfl (Or.inl rfl) rfl rfl rfl dX6_feed_56 (fun H locs hP hS => ?_)
        refine lv_aload_n hx hb dX6_feed_59 rfl (lv_at hl 0 rfl) ?_
        refine jr_get (k := 14) hx hb hts hown hK hP jb_16 (Nat.le_of_ble_eq_true rfl) jlX6_146 rfl dX6_feed_60 ?_
        exact je_mi hx hb hr hlocks hK hP hS h dX6_feed_63
      · replace h := jh_t h c29
        refine lv_aload_n hx hb dX6_feed_32 rfl (lv_at hl 0 rfl) ?_
        refine lv_bipush (v := (-6)) hx hb dX6_feed_33 jcb_m6 ?_
        obtain ⟨r2, M_2, e2, h⟩ := jh_b2 h
        refine jr_km (jr_rv (As := [.int (-6)]) (rest := []) S hK hP jb_16 rfl (m_X6_refuse l X A hs (ju M 16 11 0 0) (-6) r2 M_2 e2) jw_X6_refuse ji_X6_refuse jmX6_143 rfl rfl ⟨(Nat.le_of_ble_eq_true rfl), (Nat.le_of_ble_eq_true rfl)⟩ rfl hl.1 rfl (Nat.le_of_ble_eq_true rfl) dX6_feed_35 ⟨Nat.zero_le _, Nat.zero_le _⟩) hS (fun H locs hP hS => ?_)
        exact je_mi hx hb hr hlocks hK hP hS h dX6_feed_38
  · replace h := jh_f h c6
    refine lv_aload_n hx hb dX6_feed_9 rfl (lv_at hl 0 rfl) ?_
    refine lv_bipush (v := (-4)) hx hb dX6_feed_10 jcb_m4 ?_
    obtain ⟨r3, M_3, e3, h⟩ := jh_b2 h
    refine jr_km (jr_rv (As := [.int (-4)]) (rest := []) S hK hP jb_16 rfl (m_X6_refuse l X A hs (ju M 16 11 0 0) (-4) r3 M_3 e3) jw_X6_refuse ji_X6_refuse jmX6_143 rfl rfl ⟨(Nat.le_of_ble_eq_true rfl), (Nat.le_of_ble_eq_true rfl)⟩ rfl hl.1 rfl (Nat.le_of_ble_eq_true rfl) dX6_feed_12 ⟨Nat.zero_le _, Nat.zero_le _⟩) hS (fun H locs hP hS => ?_)
    exact je_mi hx hb hr hlocks hK hP hS h dX6_feed_15
def f_X6_here (M : jm) : Option Int32 := (if (M 16 14 0) ≤ (M 16 15 0) then (some (-1)) else (jgd (M 16 15 0) 96 (some (M 16 13 (Int32.toNatClampNeg (M 16 15 0))))))
set_option maxRecDepth 100000 in
theorem m_X6_here (l : Launch) (X : jX) (M : jm) (r : Int32) (h : f_X6_here M = some r) : Met l yX6_here (jws yX6_here cX6_here 1 (some .int)) (jrm 0 0) (va_Pc [.ref (jO X 16)] (jB X M)) (jQ (.int r)) 0 0 (fun _ => False) := by
  refine jm_of (by decide) (Nat.le_of_ble_eq_true rfl) ?_
  intro p e s m args below meth c ls S hr hlocks hB hl
  have S : CallFix p m c cX6_here 1 s args jtb RX6 := S
  obtain ⟨hx, hb, hml, hown, hts⟩ := id S
  obtain ⟨hP, hK⟩ := hB
  have hN := hK.2
  have hl : lv_has ls 1 [(0, .ref (jO X 16))] := hl
  refine lv_aload_n hx hb dX6_here_0 rfl (lv_at hl 0 rfl) ?_
  refine jr_get (k := 15) hx hb hts hown hK hP jb_16 (Nat.le_of_ble_eq_true rfl) jlX6_149 rfl dX6_here_1 ?_
  refine lv_aload_n hx hb dX6_here_4 rfl (lv_at hl 0 rfl) ?_
  refine jr_get (k := 14) hx hb hts hown hK hP jb_16 (Nat.le_of_ble_eq_true rfl) jlX6_146 rfl dX6_here_5 ?_
  refine lv_icmp_ge (tgt := 23) hx hb dX6_here_8 rfl (fun c8 => ?_) (fun c8 => ?_)
  · replace h := jh_t h c8
    refine lv_iconst (v := (-1)) hx hb dX6_here_23 jci_m1 ?_
    exact je_i hx hb hr hlocks (Option.some.inj h) dX6_here_24
  · replace h := jh_f h c8
    refine lv_aload_n hx hb dX6_here_11 rfl (lv_at hl 0 rfl) ?_
    refine jr_get (k := 13) hx hb hts hown hK hP jb_16 (Nat.le_of_ble_eq_true rfl) jlX6_37 rfl dX6_here_12 ?_
    refine lv_aload_n hx hb dX6_here_15 rfl (lv_at hl 0 rfl) ?_
    refine jr_get (k := 15) hx hb hts hown hK hP jb_16 (Nat.le_of_ble_eq_true rfl) jlX6_149 rfl dX6_here_16 ?_
    obtain ⟨g19, h⟩ := jh_gd h
    refine jr_ald (n := 96) hx hb hK hP jb_16 rfl g19 dX6_here_19 ?_
    refine lv_goto (tgt := 24) hx hb dX6_here_20 rfl ?_
    exact je_i hx hb hr hlocks (Option.some.inj h) dX6_here_24
def f_X6_readDigits_j70 (M_3 : jm) (K4_3 : jm → Int32 → Int32 → Option (Int32 × jm)) (v1_1 : Int32) (v3_3 : Int32) (t0_3 : Int32) : Option (Int32 × jm) := (if (M_3 16 16 0) = 0 then (K4_3 (ju M_3 16 15 0 ((M_3 16 15 0) + 1)) t0_3 (v3_3 + 1)) else (K4_3 (ju M_3 16 15 0 ((M_3 16 15 0) + 0)) t0_3 (v3_3 + 1)))
def f_X6_readDigits_j39 (M_2 : jm) (K4_2 : jm → Int32 → Int32 → Option (Int32 × jm)) (v1_1 : Int32) (v2_2 : Int32) (v3_2 : Int32) (t0_2 : Int32) : Option (Int32 × jm) := (jgb t0_2 (if ((ju M_2 16 16 0 t0_2) 16 16 0) = 0 then (jgd ((ju M_2 16 16 0 t0_2) 16 15 0) 96 (f_X6_readDigits_j70 (ju M_2 16 16 0 t0_2) K4_2 v1_1 v3_2 (((10 * v2_2) + ((ju M_2 16 16 0 t0_2) 16 13 (Int32.toNatClampNeg ((ju M_2 16 16 0 t0_2) 16 15 0)))) - 48))) else (f_X6_readDigits_j70 (ju M_2 16 16 0 t0_2) K4_2 v1_1 v3_2 0)))
def f_X6_readDigits_j34 (M_4 : jm) (K4_4 : jm → Int32 → Int32 → Option (Int32 × jm)) (v1_1 : Int32) (v2_4 : Int32) (v3_4 : Int32) : Option (Int32 × jm) := (f_X6_readDigits_j39 M_4 K4_4 v1_1 v2_4 v3_4 1)
def f_X6_readDigits_l4 (v1_1 : Int32) : Nat → jm → Int32 → Int32 → Option (Int32 × jm)
  | 0, _, _, _ => none
  | k_1 + 1, M_1, v2_1, v3_1 => (if v1_1 ≤ v3_1 then (some (v2_1, M_1)) else (if (M_1 16 16 0) = 0 then (jb (f_X6_here M_1) fun r5 => (if (f_X6_in (Int32.toInt64 r5) 48 57) = 0 then (f_X6_readDigits_j34 M_1 (f_X6_readDigits_l4 v1_1 k_1) v1_1 v2_1 v3_1) else (f_X6_readDigits_j39 M_1 (f_X6_readDigits_l4 v1_1 k_1) v1_1 v2_1 v3_1 0))) else (f_X6_readDigits_j34 M_1 (f_X6_readDigits_l4 v1_1 k_1) v1_1 v2_1 v3_1)))
def f_X6_readDigits (M : jm) (v1 : Int32) : Option (Int32 × jm) := (f_X6_readDigits_l4 v1 10000 M 0 0)
set_option maxRecDepth 100000 in
theorem m_X6_readDigits (l : Launch) (X : jX) (A : Nat → Prop) (hs : jst X A) (M : jm) (v1 : Int32) (r : Int32) (N : jm) (h : f_X6_readDigits M v1 = some (r, N)) : Met l yX6_readDigits (jws yX6_readDigits cX6_readDigits 4 (some .int)) (jrm 1 25) (va_Pc [.ref (jO X 16), .int v1] (jB X M)) (jQm X A (some (.int r)) N) 0 0 A := by
  refine jm_of (by decide) (Nat.le_of_ble_eq_true rfl) ?_
  intro p e s m args below meth c ls S hr hlocks hB hl
  have S : CallFix p m c cX6_readDigits 4 s args jtb RX6 := S
  obtain ⟨hx, hb, hml, hown, hts⟩ := id S
  obtain ⟨hP, hK⟩ := hB
  have hN := hK.2
  have hS : va_S A s.heap s.heap [] := va_S.rf
  have hl : lv_has ls 4 [(0, .ref (jO X 16)), (1, .int v1)] := hl
  refine lv_iconst (v := 0) hx hb dX6_readDigits_0 jci_0 ?_
  refine lv_istore_n (lv' := [(2, .int 0), (0, .ref (jO X 16)), (1, .int v1)]) hx hb dX6_readDigits_1 rfl hl (Nat.le_of_ble_eq_true rfl) rfl (fun ls hl => ?_)
  refine lv_iconst (v := 0) hx hb dX6_readDigits_2 jci_0 ?_
  refine lv_istore_n (lv' := [(3, .int 0), (2, .int 0), (0, .ref (jO X 16)), (1, .int v1)]) hx hb dX6_readDigits_3 rfl hl (Nat.le_of_ble_eq_true rfl) rfl (fun ls hl => ?_)
  have L4 : ∀ (v1_1 : Int32) (k_1 : Nat) (M_1 : jm) (H : Heap) (locs : List Loc) (v2_1 : Int32) (v3_1 : Int32) (ls : Array Slot), f_X6_readDigits_l4 v1_1 k_1 M_1 v2_1 v3_1 = some (r, N) → jrp X M_1 H → va_S A s.heap H locs → lv_has ls 4 [(0, .ref (jO X 16)), (1, .int v1_1), (2, .int v2_1), (3, .int v3_1)] → W p l e (jrm 1 25) s m args below meth c H locs 0 0 (MQ below (jQm X A (some (.int r)) N) args s 0 0 A) (F0 m 4 ls []) := by
    intro v1_1 k_1
    induction k_1 with
    | zero => intro M_1 H locs v2_1 v3_1 ls h; exact jh_0 h
    | succ k_1 ih4 =>
      intro M_1 H locs v2_1 v3_1 ls h hP hS hl
      refine lv_iload_n hx hb dX6_readDigits_4 rfl (lv_at hl 3 rfl) ?_
      refine lv_iload_n hx hb dX6_readDigits_5 rfl (lv_at hl 1 rfl) ?_
      refine lv_icmp_ge (tgt := 98) hx hb dX6_readDigits_6 rfl (fun c6 => ?_) (fun c6 => ?_)
      · replace h := jh_t h c6
        refine lv_iload_n hx hb dX6_readDigits_98 rfl (lv_at hl 2 rfl) ?_
        exact je_mi hx hb hr hlocks hK hP hS h dX6_readDigits_99
      · replace h := jh_f h c6
        refine lv_aload_n hx hb dX6_readDigits_9 rfl (lv_at hl 0 rfl) ?_
        refine lv_aload_n hx hb dX6_readDigits_10 rfl (lv_at hl 0 rfl) ?_
        refine jr_get (k := 16) hx hb hts hown hK hP jb_16 (Nat.le_of_ble_eq_true rfl) jlX6_152 rfl dX6_readDigits_11 ?_
        have J39 : ∀ (M_2 : jm) (H : Heap) (locs : List Loc) (v2_2 : Int32) (v3_2 : Int32) (t0_2 : Int32) (ls : Array Slot), f_X6_readDigits_j39 M_2 (f_X6_readDigits_l4 v1_1 k_1) v1_1 v2_2 v3_2 t0_2 = some (r, N) → jrp X M_2 H → va_S A s.heap H locs → lv_has ls 4 [(0, .ref (jO X 16)), (1, .int v1_1), (2, .int v2_2), (3, .int v3_2)] → W p l e (jrm 1 25) s m args below meth c H locs 0 0 (MQ below (jQm X A (some (.int r)) N) args s 0 0 A) (F0 m 39 ls [.int t0_2, .ref (jO X 16)]) := by
          intro M_2 H locs v2_2 v3_2 t0_2 ls h hP hS hl
          obtain ⟨gb39, h⟩ := jh_gb h
          refine jr_put (k := 16) (z := t0_2) hx hb hts hown hK hP hs hS jb_16 (Nat.le_of_ble_eq_true rfl) jlX6_152 rfl (Or.inl rfl) rfl (jn_b gb39) (jf_b gb39) dX6_readDigits_39 (fun H locs hP hS => ?_)
          refine lv_aload_n hx hb dX6_readDigits_42 rfl (lv_at hl 0 rfl) ?_
          refine jr_get (k := 16) hx hb hts hown hK hP jb_16 (Nat.le_of_ble_eq_true rfl) jlX6_152 rfl dX6_readDigits_43 ?_
          have J70 : ∀ (M_3 : jm) (H : Heap) (locs : List Loc) (v3_3 : Int32) (t0_3 : Int32) (ls : Array Slot), f_X6_readDigits_j70 M_3 (f_X6_readDigits_l4 v1_1 k_1) v1_1 v3_3 t0_3 = some (r, N) → jrp X M_3 H → va_S A s.heap H locs → lv_has ls 4 [(0, .ref (jO X 16)), (1, .int v1_1), (3, .int v3_3)] → W p l e (jrm 1 25) s m args below meth c H locs 0 0 (MQ below (jQm X A (some (.int r)) N) args s 0 0 A) (F0 m 70 ls [.int t0_3]) := by
            intro M_3 H locs v3_3 t0_3 ls h hP hS hl
            refine lv_istore_n (lv' := [(2, .int t0_3), (0, .ref (jO X 16)), (1, .int v1_1), (3, .int v3_3)]) hx hb dX6_readDigits_70 rfl hl (Nat.le_of_ble_eq_true rfl) rfl (fun ls hl => ?_)
            refine lv_aload_n hx hb dX6_readDigits_71 rfl (lv_at hl 1 rfl) ?_
            refine lv_dup hx hb dX6_readDigits_72 rfl ?_
            refine jr_get (k := 15) hx hb hts hown hK hP jb_16 (Nat.le_of_ble_eq_true rfl) jlX6_149 rfl dX6_readDigits_73 ?_
            refine lv_aload_n hx hb dX6_readDigits_76 rfl (lv_at hl 1 rfl) ?_
            refine jr_get (k := 16) hx hb hts hown hK hP jb_16 (Nat.le_of_ble_eq_true rfl) jlX6_152 rfl dX6_readDigits_77 ?_
            refine lv_if_eq (tgt := 87) hx hb dX6_readDigits_80 rfl (fun c80 => ?_) (fun c80 => ?_)
            · replace h := jh_t h c80
              refine lv_iconst (v := 1) hx hb dX6_readDigits_87 jci_1 ?_
              refine lv_iadd hx hb dX6_readDigits_88 ?_
              refine jr_put (k := 15) (z := ((M_3 16 15 0) + 1)) hx hb hts hown hK hP hs hS jb_16 (Nat.le_of_ble_eq_true rfl) jlX6_149 rfl (Or.inl rfl) rfl rfl rfl dX6_readDigits_89 (fun H locs hP hS => ?_)
              refine lv_iinc (v := (v3_3 + 1)) (lv' := [(3, .int (v3_3 + 1)), (2, .int t0_3), (0, .ref (jO X 16)), (1, .int v1_1)]) hx hb dX6_readDigits_92 hl (k := 3) rfl (congrArg _ jci_1) (Nat.le_of_ble_eq_true rfl) rfl (fun ls hl => ?_)
              refine lv_goto (tgt := 4) hx hb dX6_readDigits_95 rfl ?_
              exact ih4 (ju M_3 16 15 0 ((M_3 16 15 0) + 1)) _ _ t0_3 (v3_3 + 1) _ h hP hS (lv_sub hl [2, 3, 1, 0] rfl)
            · replace h := jh_f h c80
              refine lv_iconst (v := 0) hx hb dX6_readDigits_83 jci_0 ?_
              refine lv_goto (tgt := 88) hx hb dX6_readDigits_84 rfl ?_
              refine lv_iadd hx hb dX6_readDigits_88 ?_
              refine jr_put (k := 15) (z := ((M_3 16 15 0) + 0)) hx hb hts hown hK hP hs hS jb_16 (Nat.le_of_ble_eq_true rfl) jlX6_149 rfl (Or.inl rfl) rfl rfl rfl dX6_readDigits_89 (fun H locs hP hS => ?_)
              refine lv_iinc (v := (v3_3 + 1)) (lv' := [(3, .int (v3_3 + 1)), (2, .int t0_3), (0, .ref (jO X 16)), (1, .int v1_1)]) hx hb dX6_readDigits_92 hl (k := 3) rfl (congrArg _ jci_1) (Nat.le_of_ble_eq_true rfl) rfl (fun ls hl => ?_)
              refine lv_goto (tgt := 4) hx hb dX6_readDigits_95 rfl ?_
              exact ih4 (ju M_3 16 15 0 ((M_3 16 15 0) + 0)) _ _ t0_3 (v3_3 + 1) _ h hP hS (lv_sub hl [2, 3, 1, 0] rfl)
          refine lv_if_eq (tgt := 53) hx hb dX6_readDigits_46 rfl (fun c46 => ?_) (fun c46 => ?_)
          · replace h := jh_t h c46
            refine lv_bipush (v := 10) hx hb dX6_readDigits_53 jcb_10 ?_
            refine lv_iload_n hx hb dX6_readDigits_55 rfl (lv_at hl 2 rfl) ?_
            refine lv_imul hx hb dX6_readDigits_56 ?_
            refine lv_aload_n hx hb dX6_readDigits_57 rfl (lv_at hl 0 rfl) ?_
            refine jr_get (k := 13) hx hb hts hown hK hP jb_16 (Nat.le_of_ble_eq_true rfl) jlX6_37 rfl dX6_readDigits_58 ?_
            refine lv_aload_n hx hb dX6_readDigits_61 rfl (lv_at hl 0 rfl) ?_
            refine jr_get (k := 15) hx hb hts hown hK hP jb_16 (Nat.le_of_ble_eq_true rfl) jlX6_149 rfl dX6_readDigits_62 ?_
            obtain ⟨g65, h⟩ := jh_gd h
            refine jr_ald (n := 96) hx hb hK hP jb_16 rfl g65 dX6_readDigits_65 ?_
            refine lv_iadd hx hb dX6_readDigits_66 ?_
            refine lv_bipush (v := 48) hx hb dX6_readDigits_67 jcb_48 ?_
            refine lv_isub hx hb dX6_readDigits_69 ?_
            exact J70 (ju M_2 16 16 0 t0_2) _ _ v3_2 (((10 * v2_2) + ((ju M_2 16 16 0 t0_2) 16 13 (Int32.toNatClampNeg ((ju M_2 16 16 0 t0_2) 16 15 0)))) - 48) _ h hP hS (lv_sub hl [0, 1, 3] rfl)
          · replace h := jh_f h c46
            refine lv_iconst (v := 0) hx hb dX6_readDigits_49 jci_0 ?_
            refine lv_goto (tgt := 70) hx hb dX6_readDigits_50 rfl ?_
            exact J70 (ju M_2 16 16 0 t0_2) _ _ v3_2 0 _ h hP hS (lv_sub hl [0, 1, 3] rfl)
        have J34 : ∀ (M_4 : jm) (H : Heap) (locs : List Loc) (v2_4 : Int32) (v3_4 : Int32) (ls : Array Slot), f_X6_readDigits_j34 M_4 (f_X6_readDigits_l4 v1_1 k_1) v1_1 v2_4 v3_4 = some (r, N) → jrp X M_4 H → va_S A s.heap H locs → lv_has ls 4 [(0, .ref (jO X 16)), (1, .int v1_1), (2, .int v2_4), (3, .int v3_4)] → W p l e (jrm 1 25) s m args below meth c H locs 0 0 (MQ below (jQm X A (some (.int r)) N) args s 0 0 A) (F0 m 34 ls [.ref (jO X 16)]) := by
          intro M_4 H locs v2_4 v3_4 ls h hP hS hl
          refine lv_iconst (v := 1) hx hb dX6_readDigits_34 jci_1 ?_
          refine lv_goto (tgt := 39) hx hb dX6_readDigits_35 rfl ?_
          exact J39 M_4 _ _ v2_4 v3_4 1 _ h hP hS hl
        refine lv_if_ne (tgt := 34) hx hb dX6_readDigits_14 rfl (fun c14 => ?_) (fun c14 => ?_)
        · replace h := jh_f h c14
          exact J34 M_1 _ _ v2_1 v3_1 _ h hP hS hl
        · replace h := jh_t h c14
          refine lv_aload_n hx hb dX6_readDigits_17 rfl (lv_at hl 0 rfl) ?_
          obtain ⟨r5, e5, h⟩ := jh_b h
          refine jr_kp (jr_rv (As := []) (rest := [.ref (jO X 16)]) S hK hP jb_16 rfl (m_X6_here l X M_1  r5 e5) jw_X6_here ji_X6_here jmX6_156 rfl rfl ⟨(Nat.le_of_ble_eq_true rfl), (Nat.le_of_ble_eq_true rfl)⟩ rfl hl.1 rfl (Nat.le_of_ble_eq_true rfl) dX6_readDigits_18 ⟨Nat.zero_le _, Nat.zero_le _⟩) ?_
          refine lv_i2l hx hb dX6_readDigits_21 rfl ?_
          refine lv_ldc2 hx hb hown (hts _ jkX6_83) dX6_readDigits_22 ?_
          refine lv_ldc2 hx hb hown (hts _ jkX6_160) dX6_readDigits_25 ?_
          refine jr_kp (jr_rs (As := [.long (Int32.toInt64 r5), .long 48, .long 57]) (rest := [.ref (jO X 16)]) S hN (m_X6_in l (Int32.toInt64 r5) 48 57 _ rfl) jw_X6_in js_X6_in jmX6_85 rfl rfl ⟨(Nat.le_of_ble_eq_true rfl), (Nat.le_of_ble_eq_true rfl)⟩ rfl hl.1 rfl (Nat.le_of_ble_eq_true rfl) dX6_readDigits_28 ⟨Nat.zero_le _, Nat.zero_le _⟩) ?_
          refine lv_if_ne (tgt := 38) hx hb dX6_readDigits_31 rfl (fun c31 => ?_) (fun c31 => ?_)
          · replace h := jh_f h c31
            refine lv_iconst (v := 0) hx hb dX6_readDigits_38 jci_0 ?_
            exact J39 M_1 _ _ v2_1 v3_1 0 _ h hP hS hl
          · replace h := jh_t h c31
            exact J34 M_1 _ _ v2_1 v3_1 _ h hP hS hl
  exact L4 v1 10000 M _ _ 0 0 _ h hP hS (lv_sub hl [2, 3, 1, 0] rfl)
def f_X6_isLetter (v0 : Int32) : Int32 := (if v0 = 104 then 1 else (if v0 = 119 then 1 else (if v0 = 108 then 1 else (if v0 = 103 then 1 else (if v0 = 111 then 1 else (if v0 = 101 then 1 else 0))))))
theorem z_X6_isLetter (v0 : Int32) : f_X6_isLetter v0 = 0 ∨ f_X6_isLetter v0 = 1 := by
  unfold f_X6_isLetter
  repeat' split
  all_goals first | exact Or.inl rfl | exact Or.inr rfl | exact z_X6_in _ _ _
set_option maxRecDepth 100000 in
theorem m_X6_isLetter (l : Launch) (v0 : Int32) (r : Int32) (h : f_X6_isLetter v0 = r) : Met l yX6_isLetter (jws yX6_isLetter cX6_isLetter 1 (some .boolean)) (jrm 0 0) (va_Pc [.int v0] jN) (jQ (.int r)) 0 0 (fun _ => False) := by
  refine jm_of (by decide) (Nat.le_of_ble_eq_true rfl) ?_
  intro p e s m args below meth c ls S hr hlocks hB hl
  have S : CallFix p m c cX6_isLetter 1 s args jtb RX6 := S
  obtain ⟨hx, hb, hml, hown, hts⟩ := id S
  have hN := hB
  have hl : lv_has ls 1 [(0, .int v0)] := hl
  refine lv_iload_n hx hb dX6_isLetter_0 rfl (lv_at hl 0 rfl) ?_
  refine lv_bipush (v := 104) hx hb dX6_isLetter_1 jcb_104 ?_
  refine lv_icmp_eq (tgt := 36) hx hb dX6_isLetter_3 rfl (fun c3 => ?_) (fun c3 => ?_)
  · replace h := jh_t h c3
    refine lv_iconst (v := 1) hx hb dX6_isLetter_36 jci_1 ?_
    refine lv_goto (tgt := 41) hx hb dX6_isLetter_37 rfl ?_
    exact je_z hx hb hr hlocks (Or.inr rfl) h dX6_isLetter_41
  · replace h := jh_f h c3
    refine lv_iload_n hx hb dX6_isLetter_6 rfl (lv_at hl 0 rfl) ?_
    refine lv_bipush (v := 119) hx hb dX6_isLetter_7 jcb_119 ?_
    refine lv_icmp_eq (tgt := 36) hx hb dX6_isLetter_9 rfl (fun c9 => ?_) (fun c9 => ?_)
    · replace h := jh_t h c9
      refine lv_iconst (v := 1) hx hb dX6_isLetter_36 jci_1 ?_
      refine lv_goto (tgt := 41) hx hb dX6_isLetter_37 rfl ?_
      exact je_z hx hb hr hlocks (Or.inr rfl) h dX6_isLetter_41
    · replace h := jh_f h c9
      refine lv_iload_n hx hb dX6_isLetter_12 rfl (lv_at hl 0 rfl) ?_
      refine lv_bipush (v := 108) hx hb dX6_isLetter_13 jcb_108 ?_
      refine lv_icmp_eq (tgt := 36) hx hb dX6_isLetter_15 rfl (fun c15 => ?_) (fun c15 => ?_)
      · replace h := jh_t h c15
        refine lv_iconst (v := 1) hx hb dX6_isLetter_36 jci_1 ?_
        refine lv_goto (tgt := 41) hx hb dX6_isLetter_37 rfl ?_
        exact je_z hx hb hr hlocks (Or.inr rfl) h dX6_isLetter_41
      · replace h := jh_f h c15
        refine lv_iload_n hx hb dX6_isLetter_18 rfl (lv_at hl 0 rfl) ?_
        refine lv_bipush (v := 103) hx hb dX6_isLetter_19 jcb_103 ?_
        refine lv_icmp_eq (tgt := 36) hx hb dX6_isLetter_21 rfl (fun c21 => ?_) (fun c21 => ?_)
        · replace h := jh_t h c21
          refine lv_iconst (v := 1) hx hb dX6_isLetter_36 jci_1 ?_
          refine lv_goto (tgt := 41) hx hb dX6_isLetter_37 rfl ?_
          exact je_z hx hb hr hlocks (Or.inr rfl) h dX6_isLetter_41
        · replace h := jh_f h c21
          refine lv_iload_n hx hb dX6_isLetter_24 rfl (lv_at hl 0 rfl) ?_
          refine lv_bipush (v := 111) hx hb dX6_isLetter_25 jcb_111 ?_
          refine lv_icmp_eq (tgt := 36) hx hb dX6_isLetter_27 rfl (fun c27 => ?_) (fun c27 => ?_)
          · replace h := jh_t h c27
            refine lv_iconst (v := 1) hx hb dX6_isLetter_36 jci_1 ?_
            refine lv_goto (tgt := 41) hx hb dX6_isLetter_37 rfl ?_
            exact je_z hx hb hr hlocks (Or.inr rfl) h dX6_isLetter_41
          · replace h := jh_f h c27
            refine lv_iload_n hx hb dX6_isLetter_30 rfl (lv_at hl 0 rfl) ?_
            refine lv_bipush (v := 101) hx hb dX6_isLetter_31 jcb_101 ?_
            refine lv_icmp_ne (tgt := 40) hx hb dX6_isLetter_33 rfl (fun c33 => ?_) (fun c33 => ?_)
            · replace h := jh_f h c33
              refine lv_iconst (v := 0) hx hb dX6_isLetter_40 jci_0 ?_
              exact je_z hx hb hr hlocks (Or.inl rfl) h dX6_isLetter_41
            · replace h := jh_t h c33
              refine lv_iconst (v := 1) hx hb dX6_isLetter_36 jci_1 ?_
              refine lv_goto (tgt := 41) hx hb dX6_isLetter_37 rfl ?_
              exact je_z hx hb hr hlocks (Or.inr rfl) h dX6_isLetter_41
def f_X6_readNumbers_j23 (M_1 : jm) (v1_1 : Int32) (v2_1 : Int32) (t0_1 : Int32) (t2_1 : Int32) : Option jm := (jb2 (f_X6_readDigits M_1 t0_1) fun r2 M_2 => (jgd t2_1 147 (if v1_1 = 104 then (jb2 (f_X6_readDigits (ju M_2 16 20 (Int32.toNatClampNeg t2_1) r2) 1) fun r7 M_7 => (jgd (v2_1 + 1) 147 (jb2 (f_X6_readDigits (ju M_7 16 20 (Int32.toNatClampNeg (v2_1 + 1)) r7) 2) fun r8 M_8 => (jgd (v2_1 + 2) 147 (some (ju M_8 16 20 (Int32.toNatClampNeg (v2_1 + 2)) r8)))))) else (if v1_1 = 119 then (jb2 (f_X6_readDigits (ju M_2 16 20 (Int32.toNatClampNeg t2_1) r2) 2) fun r5 M_5 => (jgd (v2_1 + 1) 147 (jb2 (f_X6_readDigits (ju M_5 16 20 (Int32.toNatClampNeg (v2_1 + 1)) r5) 1) fun r6 M_6 => (jgd (v2_1 + 2) 147 (some (ju M_6 16 20 (Int32.toNatClampNeg (v2_1 + 2)) r6)))))) else (if v1_1 = 103 then (jb2 (f_X6_readDigits (ju M_2 16 20 (Int32.toNatClampNeg t2_1) r2) 2) fun r4 M_4 => (jgd (v2_1 + 1) 147 (some (ju M_4 16 20 (Int32.toNatClampNeg (v2_1 + 1)) r4)))) else (if v1_1 = 111 then (jb2 (f_X6_readDigits (ju M_2 16 20 (Int32.toNatClampNeg t2_1) r2) 1) fun r3 M_3 => (jgd (v2_1 + 1) 147 (some (ju M_3 16 20 (Int32.toNatClampNeg (v2_1 + 1)) r3)))) else (some (ju M_2 16 20 (Int32.toNatClampNeg t2_1) r2))))))))
def f_X6_readNumbers_j18 (M_9 : jm) (v1_9 : Int32) (v2_9 : Int32) (t1_9 : Int32) : Option jm := (f_X6_readNumbers_j23 M_9 v1_9 v2_9 2 t1_9)
def f_X6_readNumbers (M : jm) (v1 : Int32) (v2 : Int32) : Option jm := (if v1 = 119 then (f_X6_readNumbers_j18 M v1 v2 v2) else (if v1 = 101 then (f_X6_readNumbers_j18 M v1 v2 v2) else (f_X6_readNumbers_j23 M v1 v2 1 v2)))
set_option maxRecDepth 100000 in
theorem m_X6_readNumbers (l : Launch) (X : jX) (A : Nat → Prop) (hs : jst X A) (M : jm) (v1 : Int32) (v2 : Int32) (N : jm) (h : f_X6_readNumbers M v1 v2 = some N) : Met l yX6_readNumbers (jws yX6_readNumbers cX6_readNumbers 3 none) (jrm 2 48) (va_Pc [.ref (jO X 16), .int v1, .int v2] (jB X M)) (jQm X A none N) 0 0 A := by
  refine jm_of (by decide) (Nat.le_of_ble_eq_true rfl) ?_
  intro p e s m args below meth c ls S hr hlocks hB hl
  have S : CallFix p m c cX6_readNumbers 3 s args jtb RX6 := S
  obtain ⟨hx, hb, hml, hown, hts⟩ := id S
  obtain ⟨hP, hK⟩ := hB
  have hN := hK.2
  have hS : va_S A s.heap s.heap [] := va_S.rf
  have hl : lv_has ls 3 [(0, .ref (jO X 16)), (1, .int v1), (2, .int v2)] := hl
  refine lv_aload_n hx hb dX6_readNumbers_0 rfl (lv_at hl 0 rfl) ?_
  refine jr_get (k := 20) hx hb hts hown hK hP jb_16 (Nat.le_of_ble_eq_true rfl) jlX6_46 rfl dX6_readNumbers_1 ?_
  refine lv_iload_n hx hb dX6_readNumbers_4 rfl (lv_at hl 2 rfl) ?_
  refine lv_aload_n hx hb dX6_readNumbers_5 rfl (lv_at hl 0 rfl) ?_
  refine lv_iload_n hx hb dX6_readNumbers_6 rfl (lv_at hl 1 rfl) ?_
  refine lv_bipush (v := 119) hx hb dX6_readNumbers_7 jcb_119 ?_
  have J23 : ∀ (M_1 : jm) (H : Heap) (locs : List Loc) (v1_1 : Int32) (v2_1 : Int32) (t0_1 : Int32) (t2_1 : Int32) (ls : Array Slot), f_X6_readNumbers_j23 M_1 v1_1 v2_1 t0_1 t2_1 = some N → jrp X M_1 H → va_S A s.heap H locs → lv_has ls 3 [(0, .ref (jO X 16)), (1, .int v1_1), (2, .int v2_1)] → W p l e (jrm 2 48) s m args below meth c H locs 0 0 (MQ below (jQm X A none N) args s 0 0 A) (F0 m 23 ls [.int t0_1, .ref (jO X 16), .int t2_1, .ref (jA X 16 20)]) := by
    intro M_1 H locs v1_1 v2_1 t0_1 t2_1 ls h hP hS hl
    obtain ⟨r2, M_2, e2, h⟩ := jh_b2 h
    refine jr_km (jr_rv (As := [.int t0_1]) (rest := [.int t2_1, .ref (jA X 16 20)]) S hK hP jb_16 rfl (m_X6_readDigits l X A hs M_1 t0_1 r2 M_2 e2) jw_X6_readDigits ji_X6_readDigits jmX6_162 rfl rfl ⟨(Nat.le_of_ble_eq_true rfl), (Nat.le_of_ble_eq_true rfl)⟩ rfl hl.1 rfl (Nat.le_of_ble_eq_true rfl) dX6_readNumbers_23 ⟨Nat.zero_le _, Nat.zero_le _⟩) hS (fun H locs hP hS => ?_)
    obtain ⟨g26, h⟩ := jh_gd h
    refine jr_ast (n := 147) hx hb hK hP hs hS jb_16 rfl g26 dX6_readNumbers_26 (fun H locs hP hS => ?_)
    refine lv_iload_n hx hb dX6_readNumbers_27 rfl (lv_at hl 1 rfl) ?_
    refine lv_bipush (v := 104) hx hb dX6_readNumbers_28 jcb_104 ?_
    refine lv_icmp_ne (tgt := 62) hx hb dX6_readNumbers_30 rfl (fun c30 => ?_) (fun c30 => ?_)
    · replace h := jh_f h c30
      refine lv_iload_n hx hb dX6_readNumbers_62 rfl (lv_at hl 1 rfl) ?_
      refine lv_bipush (v := 119) hx hb dX6_readNumbers_63 jcb_119 ?_
      refine lv_icmp_ne (tgt := 97) hx hb dX6_readNumbers_65 rfl (fun c65 => ?_) (fun c65 => ?_)
      · replace h := jh_f h c65
        refine lv_iload_n hx hb dX6_readNumbers_97 rfl (lv_at hl 1 rfl) ?_
        refine lv_bipush (v := 103) hx hb dX6_readNumbers_98 jcb_103 ?_
        refine lv_icmp_ne (tgt := 119) hx hb dX6_readNumbers_100 rfl (fun c100 => ?_) (fun c100 => ?_)
        · replace h := jh_f h c100
          refine lv_iload_n hx hb dX6_readNumbers_119 rfl (lv_at hl 1 rfl) ?_
          refine lv_bipush (v := 111) hx hb dX6_readNumbers_120 jcb_111 ?_
          refine lv_icmp_ne (tgt := 138) hx hb dX6_readNumbers_122 rfl (fun c122 => ?_) (fun c122 => ?_)
          · replace h := jh_f h c122
            exact je_mv hx hb hr hlocks hK hP hS h dX6_readNumbers_138
          · replace h := jh_t h c122
            refine lv_aload_n hx hb dX6_readNumbers_125 rfl (lv_at hl 0 rfl) ?_
            refine jr_get (k := 20) hx hb hts hown hK hP jb_16 (Nat.le_of_ble_eq_true rfl) jlX6_46 rfl dX6_readNumbers_126 ?_
            refine lv_iload_n hx hb dX6_readNumbers_129 rfl (lv_at hl 2 rfl) ?_
            refine lv_iconst (v := 1) hx hb dX6_readNumbers_130 jci_1 ?_
            refine lv_iadd hx hb dX6_readNumbers_131 ?_
            refine lv_aload_n hx hb dX6_readNumbers_132 rfl (lv_at hl 0 rfl) ?_
            refine lv_iconst (v := 1) hx hb dX6_readNumbers_133 jci_1 ?_
            obtain ⟨r3, M_3, e3, h⟩ := jh_b2 h
            refine jr_km (jr_rv (As := [.int 1]) (rest := [.int (v2_1 + 1), .ref (jA X 16 20)]) S hK hP jb_16 rfl (m_X6_readDigits l X A hs (ju M_2 16 20 (Int32.toNatClampNeg t2_1) r2) 1 r3 M_3 e3) jw_X6_readDigits ji_X6_readDigits jmX6_162 rfl rfl ⟨(Nat.le_of_ble_eq_true rfl), (Nat.le_of_ble_eq_true rfl)⟩ rfl hl.1 rfl (Nat.le_of_ble_eq_true rfl) dX6_readNumbers_134 ⟨Nat.zero_le _, Nat.zero_le _⟩) hS (fun H locs hP hS => ?_)
            obtain ⟨g137, h⟩ := jh_gd h
            refine jr_ast (n := 147) hx hb hK hP hs hS jb_16 rfl g137 dX6_readNumbers_137 (fun H locs hP hS => ?_)
            exact je_mv hx hb hr hlocks hK hP hS h dX6_readNumbers_138
        · replace h := jh_t h c100
          refine lv_aload_n hx hb dX6_readNumbers_103 rfl (lv_at hl 0 rfl) ?_
          refine jr_get (k := 20) hx hb hts hown hK hP jb_16 (Nat.le_of_ble_eq_true rfl) jlX6_46 rfl dX6_readNumbers_104 ?_
          refine lv_iload_n hx hb dX6_readNumbers_107 rfl (lv_at hl 2 rfl) ?_
          refine lv_iconst (v := 1) hx hb dX6_readNumbers_108 jci_1 ?_
          refine lv_iadd hx hb dX6_readNumbers_109 ?_
          refine lv_aload_n hx hb dX6_readNumbers_110 rfl (lv_at hl 0 rfl) ?_
          refine lv_iconst (v := 2) hx hb dX6_readNumbers_111 jci_2 ?_
          obtain ⟨r4, M_4, e4, h⟩ := jh_b2 h
          refine jr_km (jr_rv (As := [.int 2]) (rest := [.int (v2_1 + 1), .ref (jA X 16 20)]) S hK hP jb_16 rfl (m_X6_readDigits l X A hs (ju M_2 16 20 (Int32.toNatClampNeg t2_1) r2) 2 r4 M_4 e4) jw_X6_readDigits ji_X6_readDigits jmX6_162 rfl rfl ⟨(Nat.le_of_ble_eq_true rfl), (Nat.le_of_ble_eq_true rfl)⟩ rfl hl.1 rfl (Nat.le_of_ble_eq_true rfl) dX6_readNumbers_112 ⟨Nat.zero_le _, Nat.zero_le _⟩) hS (fun H locs hP hS => ?_)
          obtain ⟨g115, h⟩ := jh_gd h
          refine jr_ast (n := 147) hx hb hK hP hs hS jb_16 rfl g115 dX6_readNumbers_115 (fun H locs hP hS => ?_)
          refine lv_goto (tgt := 138) hx hb dX6_readNumbers_116 rfl ?_
          exact je_mv hx hb hr hlocks hK hP hS h dX6_readNumbers_138
      · replace h := jh_t h c65
        refine lv_aload_n hx hb dX6_readNumbers_68 rfl (lv_at hl 0 rfl) ?_
        refine jr_get (k := 20) hx hb hts hown hK hP jb_16 (Nat.le_of_ble_eq_true rfl) jlX6_46 rfl dX6_readNumbers_69 ?_
        refine lv_iload_n hx hb dX6_readNumbers_72 rfl (lv_at hl 2 rfl) ?_
        refine lv_iconst (v := 1) hx hb dX6_readNumbers_73 jci_1 ?_
        refine lv_iadd hx hb dX6_readNumbers_74 ?_
        refine lv_aload_n hx hb dX6_readNumbers_75 rfl (lv_at hl 0 rfl) ?_
        refine lv_iconst (v := 2) hx hb dX6_readNumbers_76 jci_2 ?_
        obtain ⟨r5, M_5, e5, h⟩ := jh_b2 h
        refine jr_km (jr_rv (As := [.int 2]) (rest := [.int (v2_1 + 1), .ref (jA X 16 20)]) S hK hP jb_16 rfl (m_X6_readDigits l X A hs (ju M_2 16 20 (Int32.toNatClampNeg t2_1) r2) 2 r5 M_5 e5) jw_X6_readDigits ji_X6_readDigits jmX6_162 rfl rfl ⟨(Nat.le_of_ble_eq_true rfl), (Nat.le_of_ble_eq_true rfl)⟩ rfl hl.1 rfl (Nat.le_of_ble_eq_true rfl) dX6_readNumbers_77 ⟨Nat.zero_le _, Nat.zero_le _⟩) hS (fun H locs hP hS => ?_)
        obtain ⟨g80, h⟩ := jh_gd h
        refine jr_ast (n := 147) hx hb hK hP hs hS jb_16 rfl g80 dX6_readNumbers_80 (fun H locs hP hS => ?_)
        refine lv_aload_n hx hb dX6_readNumbers_81 rfl (lv_at hl 0 rfl) ?_
        refine jr_get (k := 20) hx hb hts hown hK hP jb_16 (Nat.le_of_ble_eq_true rfl) jlX6_46 rfl dX6_readNumbers_82 ?_
        refine lv_iload_n hx hb dX6_readNumbers_85 rfl (lv_at hl 2 rfl) ?_
        refine lv_iconst (v := 2) hx hb dX6_readNumbers_86 jci_2 ?_
        refine lv_iadd hx hb dX6_readNumbers_87 ?_
        refine lv_aload_n hx hb dX6_readNumbers_88 rfl (lv_at hl 0 rfl) ?_
        refine lv_iconst (v := 1) hx hb dX6_readNumbers_89 jci_1 ?_
        obtain ⟨r6, M_6, e6, h⟩ := jh_b2 h
        refine jr_km (jr_rv (As := [.int 1]) (rest := [.int (v2_1 + 2), .ref (jA X 16 20)]) S hK hP jb_16 rfl (m_X6_readDigits l X A hs (ju M_5 16 20 (Int32.toNatClampNeg (v2_1 + 1)) r5) 1 r6 M_6 e6) jw_X6_readDigits ji_X6_readDigits jmX6_162 rfl rfl ⟨(Nat.le_of_ble_eq_true rfl), (Nat.le_of_ble_eq_true rfl)⟩ rfl hl.1 rfl (Nat.le_of_ble_eq_true rfl) dX6_readNumbers_90 ⟨Nat.zero_le _, Nat.zero_le _⟩) hS (fun H locs hP hS => ?_)
        obtain ⟨g93, h⟩ := jh_gd h
        refine jr_ast (n := 147) hx hb hK hP hs hS jb_16 rfl g93 dX6_readNumbers_93 (fun H locs hP hS => ?_)
        refine lv_goto (tgt := 138) hx hb dX6_readNumbers_94 rfl ?_
        exact je_mv hx hb hr hlocks hK hP hS h dX6_readNumbers_138
    · replace h := jh_t h c30
      refine lv_aload_n hx hb dX6_readNumbers_33 rfl (lv_at hl 0 rfl) ?_
      refine jr_get (k := 20) hx hb hts hown hK hP jb_16 (Nat.le_of_ble_eq_true rfl) jlX6_46 rfl dX6_readNumbers_34 ?_
      refine lv_iload_n hx hb dX6_readNumbers_37 rfl (lv_at hl 2 rfl) ?_
      refine lv_iconst (v := 1) hx hb dX6_readNumbers_38 jci_1 ?_
      refine lv_iadd hx hb dX6_readNumbers_39 ?_
      refine lv_aload_n hx hb dX6_readNumbers_40 rfl (lv_at hl 0 rfl) ?_
      refine lv_iconst (v := 1) hx hb dX6_readNumbers_41 jci_1 ?_
      obtain ⟨r7, M_7, e7, h⟩ := jh_b2 h
      refine jr_km (jr_rv (As := [.int 1]) (rest := [.int (v2_1 + 1), .ref (jA X 16 20)]) S hK hP jb_16 rfl (m_X6_readDigits l X A hs (ju M_2 16 20 (Int32.toNatClampNeg t2_1) r2) 1 r7 M_7 e7) jw_X6_readDigits ji_X6_readDigits jmX6_162 rfl rfl ⟨(Nat.le_of_ble_eq_true rfl), (Nat.le_of_ble_eq_true rfl)⟩ rfl hl.1 rfl (Nat.le_of_ble_eq_true rfl) dX6_readNumbers_42 ⟨Nat.zero_le _, Nat.zero_le _⟩) hS (fun H locs hP hS => ?_)
      obtain ⟨g45, h⟩ := jh_gd h
      refine jr_ast (n := 147) hx hb hK hP hs hS jb_16 rfl g45 dX6_readNumbers_45 (fun H locs hP hS => ?_)
      refine lv_aload_n hx hb dX6_readNumbers_46 rfl (lv_at hl 0 rfl) ?_
      refine jr_get (k := 20) hx hb hts hown hK hP jb_16 (Nat.le_of_ble_eq_true rfl) jlX6_46 rfl dX6_readNumbers_47 ?_
      refine lv_iload_n hx hb dX6_readNumbers_50 rfl (lv_at hl 2 rfl) ?_
      refine lv_iconst (v := 2) hx hb dX6_readNumbers_51 jci_2 ?_
      refine lv_iadd hx hb dX6_readNumbers_52 ?_
      refine lv_aload_n hx hb dX6_readNumbers_53 rfl (lv_at hl 0 rfl) ?_
      refine lv_iconst (v := 2) hx hb dX6_readNumbers_54 jci_2 ?_
      obtain ⟨r8, M_8, e8, h⟩ := jh_b2 h
      refine jr_km (jr_rv (As := [.int 2]) (rest := [.int (v2_1 + 2), .ref (jA X 16 20)]) S hK hP jb_16 rfl (m_X6_readDigits l X A hs (ju M_7 16 20 (Int32.toNatClampNeg (v2_1 + 1)) r7) 2 r8 M_8 e8) jw_X6_readDigits ji_X6_readDigits jmX6_162 rfl rfl ⟨(Nat.le_of_ble_eq_true rfl), (Nat.le_of_ble_eq_true rfl)⟩ rfl hl.1 rfl (Nat.le_of_ble_eq_true rfl) dX6_readNumbers_55 ⟨Nat.zero_le _, Nat.zero_le _⟩) hS (fun H locs hP hS => ?_)
      obtain ⟨g58, h⟩ := jh_gd h
      refine jr_ast (n := 147) hx hb hK hP hs hS jb_16 rfl g58 dX6_readNumbers_58 (fun H locs hP hS => ?_)
      refine lv_goto (tgt := 138) hx hb dX6_readNumbers_59 rfl ?_
      exact je_mv hx hb hr hlocks hK hP hS h dX6_readNumbers_138
  have J18 : ∀ (M_9 : jm) (H : Heap) (locs : List Loc) (v1_9 : Int32) (v2_9 : Int32) (t1_9 : Int32) (ls : Array Slot), f_X6_readNumbers_j18 M_9 v1_9 v2_9 t1_9 = some N → jrp X M_9 H → va_S A s.heap H locs → lv_has ls 3 [(0, .ref (jO X 16)), (1, .int v1_9), (2, .int v2_9)] → W p l e (jrm 2 48) s m args below meth c H locs 0 0 (MQ below (jQm X A none N) args s 0 0 A) (F0 m 18 ls [.ref (jO X 16), .int t1_9, .ref (jA X 16 20)]) := by
    intro M_9 H locs v1_9 v2_9 t1_9 ls h hP hS hl
    refine lv_iconst (v := 2) hx hb dX6_readNumbers_18 jci_2 ?_
    refine lv_goto (tgt := 23) hx hb dX6_readNumbers_19 rfl ?_
    exact J23 M_9 _ _ v1_9 v2_9 2 t1_9 _ h hP hS hl
  refine lv_icmp_eq (tgt := 18) hx hb dX6_readNumbers_9 rfl (fun c9 => ?_) (fun c9 => ?_)
  · replace h := jh_t h c9
    exact J18 M _ _ v1 v2 v2 _ h hP hS hl
  · replace h := jh_f h c9
    refine lv_iload_n hx hb dX6_readNumbers_12 rfl (lv_at hl 1 rfl) ?_
    refine lv_bipush (v := 101) hx hb dX6_readNumbers_13 jcb_101 ?_
    refine lv_icmp_ne (tgt := 22) hx hb dX6_readNumbers_15 rfl (fun c15 => ?_) (fun c15 => ?_)
    · replace h := jh_f h c15
      refine lv_iconst (v := 1) hx hb dX6_readNumbers_22 jci_1 ?_
      exact J23 M _ _ v1 v2 1 v2 _ h hP hS hl
    · replace h := jh_t h c15
      exact J18 M _ _ v1 v2 v2 _ h hP hS hl
def f_X6_readStatement_j108 (M_5 : jm) (t0_5 : Int32) : Option jm := (jgb t0_5 (if ((ju M_5 16 16 0 t0_5) 16 16 0) = 0 then (some (ju (ju (ju M_5 16 16 0 t0_5) 16 15 0 (((ju M_5 16 16 0 t0_5) 16 15 0) + 1)) 16 17 0 (((ju (ju M_5 16 16 0 t0_5) 16 15 0 (((ju M_5 16 16 0 t0_5) 16 15 0) + 1)) 16 17 0) + 1))) else (some (ju (ju (ju M_5 16 16 0 t0_5) 16 15 0 (((ju M_5 16 16 0 t0_5) 16 15 0) + 0)) 16 17 0 (((ju (ju M_5 16 16 0 t0_5) 16 15 0 (((ju M_5 16 16 0 t0_5) 16 15 0) + 0)) 16 17 0) + 1)))))
def f_X6_readStatement_j103 (M_6 : jm) : Option jm := (f_X6_readStatement_j108 M_6 1)
def f_X6_readStatement_j86 (M_4 : jm) : Option jm := (if (M_4 16 16 0) = 0 then (jb (f_X6_here M_4) fun r7 => (if r7 = 59 then (f_X6_readStatement_j108 M_4 0) else (f_X6_readStatement_j103 M_4))) else (f_X6_readStatement_j103 M_4))
def f_X6_readStatement_j67 (M_3 : jm) (v1_3 : Int32) (v2_3 : Int32) (t0_3 : Int32) (t1_3 : Int32) : Option jm := (if ((ju M_3 16 15 0 (t1_3 + t0_3)) 16 16 0) = 0 then (jb (f_X6_readNumbers (ju M_3 16 15 0 (t1_3 + t0_3)) v2_3 (3 * v1_3)) fun M_8 => (f_X6_readStatement_j86 M_8)) else (f_X6_readStatement_j86 (ju M_3 16 15 0 (t1_3 + t0_3))))
def f_X6_readStatement_j47 (M_2 : jm) (v1_2 : Int32) (v2_2 : Int32) (t0_2 : Int32) : Option jm := (jgb t0_2 (if ((ju M_2 16 16 0 t0_2) 16 16 0) = 0 then (f_X6_readStatement_j67 (ju M_2 16 16 0 t0_2) v1_2 v2_2 1 ((ju M_2 16 16 0 t0_2) 16 15 0)) else (f_X6_readStatement_j67 (ju M_2 16 16 0 t0_2) v1_2 v2_2 0 ((ju M_2 16 16 0 t0_2) 16 15 0))))
def f_X6_readStatement_j42 (M_9 : jm) (v1_9 : Int32) (v2_9 : Int32) : Option jm := (f_X6_readStatement_j47 M_9 v1_9 v2_9 1)
def f_X6_readStatement (M : jm) : Option jm := (jb (f_X6_here M) fun r1 => (jgd (M 16 17 0) 49 (jgd (M 16 17 0) 49 (if ((ju (ju M 16 18 (Int32.toNatClampNeg (M 16 17 0)) (M 16 15 0)) 16 19 (Int32.toNatClampNeg (M 16 17 0)) r1) 16 16 0) = 0 then (if (f_X6_isLetter r1) = 0 then (f_X6_readStatement_j42 (ju (ju M 16 18 (Int32.toNatClampNeg (M 16 17 0)) (M 16 15 0)) 16 19 (Int32.toNatClampNeg (M 16 17 0)) r1) (M 16 17 0) r1) else (f_X6_readStatement_j47 (ju (ju M 16 18 (Int32.toNatClampNeg (M 16 17 0)) (M 16 15 0)) 16 19 (Int32.toNatClampNeg (M 16 17 0)) r1) (M 16 17 0) r1 0)) else (f_X6_readStatement_j42 (ju (ju M 16 18 (Int32.toNatClampNeg (M 16 17 0)) (M 16 15 0)) 16 19 (Int32.toNatClampNeg (M 16 17 0)) r1) (M 16 17 0) r1)))))
set_option maxRecDepth 100000 in
theorem m_X6_readStatement (l : Launch) (X : jX) (A : Nat → Prop) (hs : jst X A) (M : jm) (N : jm) (h : f_X6_readStatement M = some N) : Met l yX6_readStatement (jws yX6_readStatement cX6_readStatement 3 none) (jrm 3 70) (va_Pc [.ref (jO X 16)] (jB X M)) (jQm X A none N) 0 0 A := by
  refine jm_of (by decide) (Nat.le_of_ble_eq_true rfl) ?_
  intro p e s m args below meth c ls S hr hlocks hB hl
  have S : CallFix p m c cX6_readStatement 3 s args jtb RX6 := S
  obtain ⟨hx, hb, hml, hown, hts⟩ := id S
  obtain ⟨hP, hK⟩ := hB
  have hN := hK.2
  have hS : va_S A s.heap s.heap [] := va_S.rf
  have hl : lv_has ls 3 [(0, .ref (jO X 16))] := hl
  refine lv_aload_n hx hb dX6_readStatement_0 rfl (lv_at hl 0 rfl) ?_
  refine jr_get (k := 17) hx hb hts hown hK hP jb_16 (Nat.le_of_ble_eq_true rfl) jlX6_165 rfl dX6_readStatement_1 ?_
  refine lv_istore_n (lv' := [(1, .int (M 16 17 0)), (0, .ref (jO X 16))]) hx hb dX6_readStatement_4 rfl hl (Nat.le_of_ble_eq_true rfl) rfl (fun ls hl => ?_)
  refine lv_aload_n hx hb dX6_readStatement_5 rfl (lv_at hl 1 rfl) ?_
  obtain ⟨r1, e1, h⟩ := jh_b h
  refine jr_kp (jr_rv (As := []) (rest := []) S hK hP jb_16 rfl (m_X6_here l X M  r1 e1) jw_X6_here ji_X6_here jmX6_156 rfl rfl ⟨(Nat.le_of_ble_eq_true rfl), (Nat.le_of_ble_eq_true rfl)⟩ rfl hl.1 rfl (Nat.le_of_ble_eq_true rfl) dX6_readStatement_6 ⟨Nat.zero_le _, Nat.zero_le _⟩) ?_
  refine lv_istore_n (lv' := [(2, .int r1), (1, .int (M 16 17 0)), (0, .ref (jO X 16))]) hx hb dX6_readStatement_9 rfl hl (Nat.le_of_ble_eq_true rfl) rfl (fun ls hl => ?_)
  refine lv_aload_n hx hb dX6_readStatement_10 rfl (lv_at hl 2 rfl) ?_
  refine jr_get (k := 18) hx hb hts hown hK hP jb_16 (Nat.le_of_ble_eq_true rfl) jlX6_40 rfl dX6_readStatement_11 ?_
  refine lv_iload_n hx hb dX6_readStatement_14 rfl (lv_at hl 1 rfl) ?_
  refine lv_aload_n hx hb dX6_readStatement_15 rfl (lv_at hl 2 rfl) ?_
  refine jr_get (k := 15) hx hb hts hown hK hP jb_16 (Nat.le_of_ble_eq_true rfl) jlX6_149 rfl dX6_readStatement_16 ?_
  obtain ⟨g19, h⟩ := jh_gd h
  refine jr_ast (n := 49) hx hb hK hP hs hS jb_16 rfl g19 dX6_readStatement_19 (fun H locs hP hS => ?_)
  refine lv_aload_n hx hb dX6_readStatement_20 rfl (lv_at hl 2 rfl) ?_
  refine jr_get (k := 19) hx hb hts hown hK hP jb_16 (Nat.le_of_ble_eq_true rfl) jlX6_43 rfl dX6_readStatement_21 ?_
  refine lv_iload_n hx hb dX6_readStatement_24 rfl (lv_at hl 1 rfl) ?_
  refine lv_iload_n hx hb dX6_readStatement_25 rfl (lv_at hl 0 rfl) ?_
  obtain ⟨g26, h⟩ := jh_gd h
  refine jr_ast (n := 49) hx hb hK hP hs hS jb_16 rfl g26 dX6_readStatement_26 (fun H locs hP hS => ?_)
  refine lv_aload_n hx hb dX6_readStatement_27 rfl (lv_at hl 2 rfl) ?_
  refine lv_aload_n hx hb dX6_readStatement_28 rfl (lv_at hl 2 rfl) ?_
  refine jr_get (k := 16) hx hb hts hown hK hP jb_16 (Nat.le_of_ble_eq_true rfl) jlX6_152 rfl dX6_readStatement_29 ?_
  have J47 : ∀ (M_2 : jm) (H : Heap) (locs : List Loc) (v1_2 : Int32) (v2_2 : Int32) (t0_2 : Int32) (ls : Array Slot), f_X6_readStatement_j47 M_2 v1_2 v2_2 t0_2 = some N → jrp X M_2 H → va_S A s.heap H locs → lv_has ls 3 [(0, .ref (jO X 16)), (1, .int v1_2), (2, .int v2_2)] → W p l e (jrm 3 70) s m args below meth c H locs 0 0 (MQ below (jQm X A none N) args s 0 0 A) (F0 m 47 ls [.int t0_2, .ref (jO X 16)]) := by
    intro M_2 H locs v1_2 v2_2 t0_2 ls h hP hS hl
    obtain ⟨gb47, h⟩ := jh_gb h
    refine jr_put (k := 16) (z := t0_2) hx hb hts hown hK hP hs hS jb_16 (Nat.le_of_ble_eq_true rfl) jlX6_152 rfl (Or.inl rfl) rfl (jn_b gb47) (jf_b gb47) dX6_readStatement_47 (fun H locs hP hS => ?_)
    refine lv_aload_n hx hb dX6_readStatement_50 rfl (lv_at hl 0 rfl) ?_
    refine lv_dup hx hb dX6_readStatement_51 rfl ?_
    refine jr_get (k := 15) hx hb hts hown hK hP jb_16 (Nat.le_of_ble_eq_true rfl) jlX6_149 rfl dX6_readStatement_52 ?_
    refine lv_aload_n hx hb dX6_readStatement_55 rfl (lv_at hl 0 rfl) ?_
    refine jr_get (k := 16) hx hb hts hown hK hP jb_16 (Nat.le_of_ble_eq_true rfl) jlX6_152 rfl dX6_readStatement_56 ?_
    have J67 : ∀ (M_3 : jm) (H : Heap) (locs : List Loc) (v1_3 : Int32) (v2_3 : Int32) (t0_3 : Int32) (t1_3 : Int32) (ls : Array Slot), f_X6_readStatement_j67 M_3 v1_3 v2_3 t0_3 t1_3 = some N → jrp X M_3 H → va_S A s.heap H locs → lv_has ls 3 [(0, .ref (jO X 16)), (1, .int v1_3), (2, .int v2_3)] → W p l e (jrm 3 70) s m args below meth c H locs 0 0 (MQ below (jQm X A none N) args s 0 0 A) (F0 m 67 ls [.int t0_3, .int t1_3, .ref (jO X 16)]) := by
      intro M_3 H locs v1_3 v2_3 t0_3 t1_3 ls h hP hS hl
      refine lv_iadd hx hb dX6_readStatement_67 ?_
      refine jr_put (k := 15) (z := (t1_3 + t0_3)) hx hb hts hown hK hP hs hS jb_16 (Nat.le_of_ble_eq_true rfl) jlX6_149 rfl (Or.inl rfl) rfl rfl rfl dX6_readStatement_68 (fun H locs hP hS => ?_)
      refine lv_aload_n hx hb dX6_readStatement_71 rfl (lv_at hl 0 rfl) ?_
      refine jr_get (k := 16) hx hb hts hown hK hP jb_16 (Nat.le_of_ble_eq_true rfl) jlX6_152 rfl dX6_readStatement_72 ?_
      have J86 : ∀ (M_4 : jm) (H : Heap) (locs : List Loc) (ls : Array Slot), f_X6_readStatement_j86 M_4 = some N → jrp X M_4 H → va_S A s.heap H locs → lv_has ls 3 [(0, .ref (jO X 16))] → W p l e (jrm 3 70) s m args below meth c H locs 0 0 (MQ below (jQm X A none N) args s 0 0 A) (F0 m 86 ls []) := by
        intro M_4 H locs ls h hP hS hl
        refine lv_aload_n hx hb dX6_readStatement_86 rfl (lv_at hl 0 rfl) ?_
        refine lv_aload_n hx hb dX6_readStatement_87 rfl (lv_at hl 0 rfl) ?_
        refine jr_get (k := 16) hx hb hts hown hK hP jb_16 (Nat.le_of_ble_eq_true rfl) jlX6_152 rfl dX6_readStatement_88 ?_
        have J108 : ∀ (M_5 : jm) (H : Heap) (locs : List Loc) (t0_5 : Int32) (ls : Array Slot), f_X6_readStatement_j108 M_5 t0_5 = some N → jrp X M_5 H → va_S A s.heap H locs → lv_has ls 3 [(0, .ref (jO X 16))] → W p l e (jrm 3 70) s m args below meth c H locs 0 0 (MQ below (jQm X A none N) args s 0 0 A) (F0 m 108 ls [.int t0_5, .ref (jO X 16)]) := by
          intro M_5 H locs t0_5 ls h hP hS hl
          obtain ⟨gb108, h⟩ := jh_gb h
          refine jr_put (k := 16) (z := t0_5) hx hb hts hown hK hP hs hS jb_16 (Nat.le_of_ble_eq_true rfl) jlX6_152 rfl (Or.inl rfl) rfl (jn_b gb108) (jf_b gb108) dX6_readStatement_108 (fun H locs hP hS => ?_)
          refine lv_aload_n hx hb dX6_readStatement_111 rfl (lv_at hl 0 rfl) ?_
          refine lv_dup hx hb dX6_readStatement_112 rfl ?_
          refine jr_get (k := 15) hx hb hts hown hK hP jb_16 (Nat.le_of_ble_eq_true rfl) jlX6_149 rfl dX6_readStatement_113 ?_
          refine lv_aload_n hx hb dX6_readStatement_116 rfl (lv_at hl 0 rfl) ?_
          refine jr_get (k := 16) hx hb hts hown hK hP jb_16 (Nat.le_of_ble_eq_true rfl) jlX6_152 rfl dX6_readStatement_117 ?_
          refine lv_if_eq (tgt := 127) hx hb dX6_readStatement_120 rfl (fun c120 => ?_) (fun c120 => ?_)
          · replace h := jh_t h c120
            refine lv_iconst (v := 1) hx hb dX6_readStatement_127 jci_1 ?_
            refine lv_iadd hx hb dX6_readStatement_128 ?_
            refine jr_put (k := 15) (z := (((ju M_5 16 16 0 t0_5) 16 15 0) + 1)) hx hb hts hown hK hP hs hS jb_16 (Nat.le_of_ble_eq_true rfl) jlX6_149 rfl (Or.inl rfl) rfl rfl rfl dX6_readStatement_129 (fun H locs hP hS => ?_)
            refine lv_aload_n hx hb dX6_readStatement_132 rfl (lv_at hl 0 rfl) ?_
            refine lv_dup hx hb dX6_readStatement_133 rfl ?_
            refine jr_get (k := 17) hx hb hts hown hK hP jb_16 (Nat.le_of_ble_eq_true rfl) jlX6_165 rfl dX6_readStatement_134 ?_
            refine lv_iconst (v := 1) hx hb dX6_readStatement_137 jci_1 ?_
            refine lv_iadd hx hb dX6_readStatement_138 ?_
            refine jr_put (k := 17) (z := (((ju (ju M_5 16 16 0 t0_5) 16 15 0 (((ju M_5 16 16 0 t0_5) 16 15 0) + 1)) 16 17 0) + 1)) hx hb hts hown hK hP hs hS jb_16 (Nat.le_of_ble_eq_true rfl) jlX6_165 rfl (Or.inl rfl) rfl rfl rfl dX6_readStatement_139 (fun H locs hP hS => ?_)
            exact je_mv hx hb hr hlocks hK hP hS h dX6_readStatement_142
          · replace h := jh_f h c120
            refine lv_iconst (v := 0) hx hb dX6_readStatement_123 jci_0 ?_
            refine lv_goto (tgt := 128) hx hb dX6_readStatement_124 rfl ?_
            refine lv_iadd hx hb dX6_readStatement_128 ?_
            refine jr_put (k := 15) (z := (((ju M_5 16 16 0 t0_5) 16 15 0) + 0)) hx hb hts hown hK hP hs hS jb_16 (Nat.le_of_ble_eq_true rfl) jlX6_149 rfl (Or.inl rfl) rfl rfl rfl dX6_readStatement_129 (fun H locs hP hS => ?_)
            refine lv_aload_n hx hb dX6_readStatement_132 rfl (lv_at hl 0 rfl) ?_
            refine lv_dup hx hb dX6_readStatement_133 rfl ?_
            refine jr_get (k := 17) hx hb hts hown hK hP jb_16 (Nat.le_of_ble_eq_true rfl) jlX6_165 rfl dX6_readStatement_134 ?_
            refine lv_iconst (v := 1) hx hb dX6_readStatement_137 jci_1 ?_
            refine lv_iadd hx hb dX6_readStatement_138 ?_
            refine jr_put (k := 17) (z := (((ju (ju M_5 16 16 0 t0_5) 16 15 0 (((ju M_5 16 16 0 t0_5) 16 15 0) + 0)) 16 17 0) + 1)) hx hb hts hown hK hP hs hS jb_16 (Nat.le_of_ble_eq_true rfl) jlX6_165 rfl (Or.inl rfl) rfl rfl rfl dX6_readStatement_139 (fun H locs hP hS => ?_)
            exact je_mv hx hb hr hlocks hK hP hS h dX6_readStatement_142
        have J103 : ∀ (M_6 : jm) (H : Heap) (locs : List Loc) (ls : Array Slot), f_X6_readStatement_j103 M_6 = some N → jrp X M_6 H → va_S A s.heap H locs → lv_has ls 3 [(0, .ref (jO X 16))] → W p l e (jrm 3 70) s m args below meth c H locs 0 0 (MQ below (jQm X A none N) args s 0 0 A) (F0 m 103 ls [.ref (jO X 16)]) := by
          intro M_6 H locs ls h hP hS hl
          refine lv_iconst (v := 1) hx hb dX6_readStatement_103 jci_1 ?_
          refine lv_goto (tgt := 108) hx hb dX6_readStatement_104 rfl ?_
          exact J108 M_6 _ _ 1 _ h hP hS hl
        refine lv_if_ne (tgt := 103) hx hb dX6_readStatement_91 rfl (fun c91 => ?_) (fun c91 => ?_)
        · replace h := jh_f h c91
          exact J103 M_4 _ _ _ h hP hS hl
        · replace h := jh_t h c91
          refine lv_aload_n hx hb dX6_readStatement_94 rfl (lv_at hl 0 rfl) ?_
          obtain ⟨r7, e7, h⟩ := jh_b h
          refine jr_kp (jr_rv (As := []) (rest := [.ref (jO X 16)]) S hK hP jb_16 rfl (m_X6_here l X M_4  r7 e7) jw_X6_here ji_X6_here jmX6_156 rfl rfl ⟨(Nat.le_of_ble_eq_true rfl), (Nat.le_of_ble_eq_true rfl)⟩ rfl hl.1 rfl (Nat.le_of_ble_eq_true rfl) dX6_readStatement_95 ⟨Nat.zero_le _, Nat.zero_le _⟩) ?_
          refine lv_bipush (v := 59) hx hb dX6_readStatement_98 jcb_59 ?_
          refine lv_icmp_eq (tgt := 107) hx hb dX6_readStatement_100 rfl (fun c100 => ?_) (fun c100 => ?_)
          · replace h := jh_t h c100
            refine lv_iconst (v := 0) hx hb dX6_readStatement_107 jci_0 ?_
            exact J108 M_4 _ _ 0 _ h hP hS hl
          · replace h := jh_f h c100
            exact J103 M_4 _ _ _ h hP hS hl
      refine lv_if_ne (tgt := 86) hx hb dX6_readStatement_75 rfl (fun c75 => ?_) (fun c75 => ?_)
      · replace h := jh_f h c75
        exact J86 (ju M_3 16 15 0 (t1_3 + t0_3)) _ _ _ h hP hS (lv_sub hl [0] rfl)
      · replace h := jh_t h c75
        refine lv_aload_n hx hb dX6_readStatement_78 rfl (lv_at hl 0 rfl) ?_
        refine lv_iload_n hx hb dX6_readStatement_79 rfl (lv_at hl 2 rfl) ?_
        refine lv_iconst (v := 3) hx hb dX6_readStatement_80 jci_3 ?_
        refine lv_iload_n hx hb dX6_readStatement_81 rfl (lv_at hl 1 rfl) ?_
        refine lv_imul hx hb dX6_readStatement_82 ?_
        obtain ⟨M_8, e8, h⟩ := jh_b h
        refine jr_kv (jr_rv (As := [.int v2_3, .int (3 * v1_3)]) (rest := []) S hK hP jb_16 rfl (m_X6_readNumbers l X A hs (ju M_3 16 15 0 (t1_3 + t0_3)) v2_3 (3 * v1_3) M_8 e8) jw_X6_readNumbers ji_X6_readNumbers jmX6_171 rfl rfl ⟨(Nat.le_of_ble_eq_true rfl), (Nat.le_of_ble_eq_true rfl)⟩ rfl hl.1 rfl (Nat.le_of_ble_eq_true rfl) dX6_readStatement_83 ⟨Nat.zero_le _, Nat.zero_le _⟩) hS (fun H locs hP hS => ?_)
        exact J86 M_8 _ _ _ h hP hS (lv_sub hl [0] rfl)
    refine lv_if_eq (tgt := 66) hx hb dX6_readStatement_59 rfl (fun c59 => ?_) (fun c59 => ?_)
    · replace h := jh_t h c59
      refine lv_iconst (v := 1) hx hb dX6_readStatement_66 jci_1 ?_
      exact J67 (ju M_2 16 16 0 t0_2) _ _ v1_2 v2_2 1 ((ju M_2 16 16 0 t0_2) 16 15 0) _ h hP hS hl
    · replace h := jh_f h c59
      refine lv_iconst (v := 0) hx hb dX6_readStatement_62 jci_0 ?_
      refine lv_goto (tgt := 67) hx hb dX6_readStatement_63 rfl ?_
      exact J67 (ju M_2 16 16 0 t0_2) _ _ v1_2 v2_2 0 ((ju M_2 16 16 0 t0_2) 16 15 0) _ h hP hS hl
  have J42 : ∀ (M_9 : jm) (H : Heap) (locs : List Loc) (v1_9 : Int32) (v2_9 : Int32) (ls : Array Slot), f_X6_readStatement_j42 M_9 v1_9 v2_9 = some N → jrp X M_9 H → va_S A s.heap H locs → lv_has ls 3 [(0, .ref (jO X 16)), (1, .int v1_9), (2, .int v2_9)] → W p l e (jrm 3 70) s m args below meth c H locs 0 0 (MQ below (jQm X A none N) args s 0 0 A) (F0 m 42 ls [.ref (jO X 16)]) := by
    intro M_9 H locs v1_9 v2_9 ls h hP hS hl
    refine lv_iconst (v := 1) hx hb dX6_readStatement_42 jci_1 ?_
    refine lv_goto (tgt := 47) hx hb dX6_readStatement_43 rfl ?_
    exact J47 M_9 _ _ v1_9 v2_9 1 _ h hP hS hl
  refine lv_if_ne (tgt := 42) hx hb dX6_readStatement_32 rfl (fun c32 => ?_) (fun c32 => ?_)
  · replace h := jh_f h c32
    exact J42 (ju (ju M 16 18 (Int32.toNatClampNeg (M 16 17 0)) (M 16 15 0)) 16 19 (Int32.toNatClampNeg (M 16 17 0)) r1) _ _ (M 16 17 0) r1 _ h hP hS (lv_sub hl [2, 1, 0] rfl)
  · replace h := jh_t h c32
    refine lv_iload_n hx hb dX6_readStatement_35 rfl (lv_at hl 0 rfl) ?_
    refine jr_kp (jr_rs (As := [.int r1]) (rest := [.ref (jO X 16)]) S hN (m_X6_isLetter l r1 _ rfl) jw_X6_isLetter js_X6_isLetter jmX6_168 rfl rfl ⟨(Nat.le_of_ble_eq_true rfl), (Nat.le_of_ble_eq_true rfl)⟩ rfl hl.1 rfl (Nat.le_of_ble_eq_true rfl) dX6_readStatement_36 ⟨Nat.zero_le _, Nat.zero_le _⟩) ?_
    refine lv_if_ne (tgt := 46) hx hb dX6_readStatement_39 rfl (fun c39 => ?_) (fun c39 => ?_)
    · replace h := jh_f h c39
      refine lv_iconst (v := 0) hx hb dX6_readStatement_46 jci_0 ?_
      exact J47 (ju (ju M 16 18 (Int32.toNatClampNeg (M 16 17 0)) (M 16 15 0)) 16 19 (Int32.toNatClampNeg (M 16 17 0)) r1) _ _ (M 16 17 0) r1 0 _ h hP hS (lv_sub hl [2, 1, 0] rfl)
    · replace h := jh_t h c39
      exact J42 (ju (ju M 16 18 (Int32.toNatClampNeg (M 16 17 0)) (M 16 15 0)) 16 19 (Int32.toNatClampNeg (M 16 17 0)) r1) _ _ (M 16 17 0) r1 _ h hP hS (lv_sub hl [2, 1, 0] rfl)
def f_X6_comesTold_j159 (M_2 : jm) (v2_2 : Int32) (v3_2 : Int32) (t0_2 : Int32) : Option (Int32 × jm) := (if t0_2 = 0 then (jgb t0_2 (some (t0_2, M_2))) else (jgd v2_2 6 (jgb t0_2 (some (t0_2, (ju M_2 16 7 (Int32.toNatClampNeg v2_2) v3_2))))))
def f_X6_comesTold_j158 (M_3 : jm) (v2_3 : Int32) (v3_3 : Int32) : Option (Int32 × jm) := (f_X6_comesTold_j159 M_3 v2_3 v3_3 0)
def f_X6_comesTold_j197 (M_8 : jm) (v2_8 : Int32) (v3_8 : Int32) (t0_8 : Int32) : Option (Int32 × jm) := (if t0_8 = 0 then (jgb t0_8 (some (t0_8, M_8))) else (jgd ((7 * v2_8) + v3_8) 42 (if (M_8 16 9 (Int32.toNatClampNeg ((7 * v2_8) + v3_8))) = 0 then (jgd ((7 * v2_8) + v3_8) 42 (jgb t0_8 (some (t0_8, (ju M_8 16 9 (Int32.toNatClampNeg ((7 * v2_8) + v3_8)) 1))))) else (jgb t0_8 (some (t0_8, M_8))))))
def f_X6_comesTold_j196 (M_9 : jm) (v2_9 : Int32) (v3_9 : Int32) : Option (Int32 × jm) := (f_X6_comesTold_j197 M_9 v2_9 v3_9 0)
def f_X6_comesTold_j262 (M_13 : jm) (v2_13 : Int32) (t0_13 : Int32) : Option (Int32 × jm) := (if t0_13 = 0 then (jgb t0_13 (some (t0_13, M_13))) else (jb (f_X6_goEvenings M_13 v2_13) fun M_14 => (jgb t0_13 (some (t0_13, M_14)))))
def f_X6_comesTold_j261 (M_15 : jm) (v2_15 : Int32) : Option (Int32 × jm) := (f_X6_comesTold_j262 M_15 v2_15 0)
def f_X6_comesTold (M : jm) (v1 : Int32) : Option (Int32 × jm) := (jgd (3 * v1) 147 (jgd ((3 * v1) + 1) 147 (jgd ((3 * v1) + 2) 147 (jgd v1 49 (if (M 16 19 (Int32.toNatClampNeg v1)) = 103 then (if (f_X6_isWalker M (M 16 20 (Int32.toNatClampNeg (3 * v1)))) = 0 then (f_X6_comesTold_j158 M (M 16 20 (Int32.toNatClampNeg (3 * v1))) (M 16 20 (Int32.toNatClampNeg ((3 * v1) + 1)))) else (if (f_X6_isCell (M 16 20 (Int32.toNatClampNeg ((3 * v1) + 1)))) = 0 then (f_X6_comesTold_j158 M (M 16 20 (Int32.toNatClampNeg (3 * v1))) (M 16 20 (Int32.toNatClampNeg ((3 * v1) + 1)))) else (f_X6_comesTold_j159 M (M 16 20 (Int32.toNatClampNeg (3 * v1))) (M 16 20 (Int32.toNatClampNeg ((3 * v1) + 1))) 1))) else (if (M 16 19 (Int32.toNatClampNeg v1)) = 104 then (jb2 (f_X6_houseComes M (M 16 20 (Int32.toNatClampNeg (3 * v1))) (M 16 20 (Int32.toNatClampNeg ((3 * v1) + 1))) (M 16 20 (Int32.toNatClampNeg ((3 * v1) + 2)))) fun r5 M_5 => (jgb r5 (some (r5, M_5)))) else (if (M 16 19 (Int32.toNatClampNeg v1)) = 108 then (if (f_X6_isHouse M (M 16 20 (Int32.toNatClampNeg (3 * v1)))) = 0 then (jgb (f_X6_isHouse M (M 16 20 (Int32.toNatClampNeg (3 * v1)))) (some ((f_X6_isHouse M (M 16 20 (Int32.toNatClampNeg (3 * v1)))), M))) else (jgd (M 16 20 (Int32.toNatClampNeg (3 * v1))) 8 (jgd (M 16 20 (Int32.toNatClampNeg (3 * v1))) 8 (jgb (f_X6_isHouse M (M 16 20 (Int32.toNatClampNeg (3 * v1)))) (some ((f_X6_isHouse M (M 16 20 (Int32.toNatClampNeg (3 * v1)))), (ju M 16 4 (Int32.toNatClampNeg (M 16 20 (Int32.toNatClampNeg (3 * v1)))) (1 - (M 16 4 (Int32.toNatClampNeg (M 16 20 (Int32.toNatClampNeg (3 * v1))))))))))))) else (if (M 16 19 (Int32.toNatClampNeg v1)) = 111 then (if (f_X6_isWalker M (M 16 20 (Int32.toNatClampNeg (3 * v1)))) = 0 then (f_X6_comesTold_j196 M (M 16 20 (Int32.toNatClampNeg (3 * v1))) (M 16 20 (Int32.toNatClampNeg ((3 * v1) + 1)))) else (if (f_X6_isHouse M (M 16 20 (Int32.toNatClampNeg ((3 * v1) + 1)))) = 0 then (f_X6_comesTold_j196 M (M 16 20 (Int32.toNatClampNeg (3 * v1))) (M 16 20 (Int32.toNatClampNeg ((3 * v1) + 1)))) else (f_X6_comesTold_j197 M (M 16 20 (Int32.toNatClampNeg (3 * v1))) (M 16 20 (Int32.toNatClampNeg ((3 * v1) + 1))) 1))) else (if (M 16 19 (Int32.toNatClampNeg v1)) = 119 then (jb2 (f_X6_walkerComes M (M 16 20 (Int32.toNatClampNeg (3 * v1))) (M 16 20 (Int32.toNatClampNeg ((3 * v1) + 1))) (M 16 20 (Int32.toNatClampNeg ((3 * v1) + 2)))) fun r11 M_11 => (jgb r11 (some (r11, M_11)))) else (if (f_X6_in (Int32.toInt64 (M 16 20 (Int32.toNatClampNeg (3 * v1)))) 1 60) = 0 then (f_X6_comesTold_j261 M (M 16 20 (Int32.toNatClampNeg (3 * v1)))) else (if 999 < ((M 16 10 0) + (M 16 20 (Int32.toNatClampNeg (3 * v1)))) then (f_X6_comesTold_j261 M (M 16 20 (Int32.toNatClampNeg (3 * v1)))) else (f_X6_comesTold_j262 M (M 16 20 (Int32.toNatClampNeg (3 * v1))) 1))))))))))))
set_option maxRecDepth 100000 in
theorem m_X6_comesTold (l : Launch) (X : jX) (A : Nat → Prop) (hs : jst X A) (M : jm) (v1 : Int32) (r : Int32) (N : jm) (h : f_X6_comesTold M v1 = some (r, N)) : Met l yX6_comesTold (jws yX6_comesTold cX6_comesTold 6 (some .boolean)) (jrm 6 136) (va_Pc [.ref (jO X 16), .int v1] (jB X M)) (jQm X A (some (.int r)) N) 0 0 A := by
  refine jm_of (by decide) (Nat.le_of_ble_eq_true rfl) ?_
  intro p e s m args below meth c ls S hr hlocks hB hl
  have S : CallFix p m c cX6_comesTold 6 s args jtb RX6 := S
  obtain ⟨hx, hb, hml, hown, hts⟩ := id S
  obtain ⟨hP, hK⟩ := hB
  have hN := hK.2
  have hS : va_S A s.heap s.heap [] := va_S.rf
  have hl : lv_has ls 6 [(0, .ref (jO X 16)), (1, .int v1)] := hl
  refine lv_aload_n hx hb dX6_comesTold_0 rfl (lv_at hl 0 rfl) ?_
  refine jr_get (k := 20) hx hb hts hown hK hP jb_16 (Nat.le_of_ble_eq_true rfl) jlX6_46 rfl dX6_comesTold_1 ?_
  refine lv_iconst (v := 3) hx hb dX6_comesTold_4 jci_3 ?_
  refine lv_iload_n hx hb dX6_comesTold_5 rfl (lv_at hl 1 rfl) ?_
  refine lv_imul hx hb dX6_comesTold_6 ?_
  obtain ⟨g7, h⟩ := jh_gd h
  refine jr_ald (n := 147) hx hb hK hP jb_16 rfl g7 dX6_comesTold_7 ?_
  refine lv_istore_n (lv' := [(2, .int (M 16 20 (Int32.toNatClampNeg (3 * v1)))), (0, .ref (jO X 16)), (1, .int v1)]) hx hb dX6_comesTold_8 rfl hl (Nat.le_of_ble_eq_true rfl) rfl (fun ls hl => ?_)
  refine lv_aload_n hx hb dX6_comesTold_9 rfl (lv_at hl 1 rfl) ?_
  refine jr_get (k := 20) hx hb hts hown hK hP jb_16 (Nat.le_of_ble_eq_true rfl) jlX6_46 rfl dX6_comesTold_10 ?_
  refine lv_iconst (v := 3) hx hb dX6_comesTold_13 jci_3 ?_
  refine lv_iload_n hx hb dX6_comesTold_14 rfl (lv_at hl 2 rfl) ?_
  refine lv_imul hx hb dX6_comesTold_15 ?_
  refine lv_iconst (v := 1) hx hb dX6_comesTold_16 jci_1 ?_
  refine lv_iadd hx hb dX6_comesTold_17 ?_
  obtain ⟨g18, h⟩ := jh_gd h
  refine jr_ald (n := 147) hx hb hK hP jb_16 rfl g18 dX6_comesTold_18 ?_
  refine lv_istore_n (lv' := [(3, .int (M 16 20 (Int32.toNatClampNeg ((3 * v1) + 1)))), (2, .int (M 16 20 (Int32.toNatClampNeg (3 * v1)))), (0, .ref (jO X 16)), (1, .int v1)]) hx hb dX6_comesTold_19 rfl hl (Nat.le_of_ble_eq_true rfl) rfl (fun ls hl => ?_)
  refine lv_aload_n hx hb dX6_comesTold_20 rfl (lv_at hl 2 rfl) ?_
  refine jr_get (k := 20) hx hb hts hown hK hP jb_16 (Nat.le_of_ble_eq_true rfl) jlX6_46 rfl dX6_comesTold_21 ?_
  refine lv_iconst (v := 3) hx hb dX6_comesTold_24 jci_3 ?_
  refine lv_iload_n hx hb dX6_comesTold_25 rfl (lv_at hl 3 rfl) ?_
  refine lv_imul hx hb dX6_comesTold_26 ?_
  refine lv_iconst (v := 2) hx hb dX6_comesTold_27 jci_2 ?_
  refine lv_iadd hx hb dX6_comesTold_28 ?_
  obtain ⟨g29, h⟩ := jh_gd h
  refine jr_ald (n := 147) hx hb hK hP jb_16 rfl g29 dX6_comesTold_29 ?_
  refine lv_istore (lv' := [(4, .int (M 16 20 (Int32.toNatClampNeg ((3 * v1) + 2)))), (3, .int (M 16 20 (Int32.toNatClampNeg ((3 * v1) + 1)))), (2, .int (M 16 20 (Int32.toNatClampNeg (3 * v1)))), (0, .ref (jO X 16)), (1, .int v1)]) hx hb dX6_comesTold_30 hl (Nat.le_of_ble_eq_true rfl) rfl (fun ls hl => ?_)
  refine lv_iconst (v := 1) hx hb dX6_comesTold_32 jci_1 ?_
  refine lv_istore (lv' := [(5, .int 1), (4, .int (M 16 20 (Int32.toNatClampNeg ((3 * v1) + 2)))), (3, .int (M 16 20 (Int32.toNatClampNeg ((3 * v1) + 1)))), (2, .int (M 16 20 (Int32.toNatClampNeg (3 * v1)))), (0, .ref (jO X 16)), (1, .int v1)]) hx hb dX6_comesTold_33 hl (Nat.le_of_ble_eq_true rfl) rfl (fun ls hl => ?_)
  refine lv_aload_n hx hb dX6_comesTold_35 rfl (lv_at hl 4 rfl) ?_
  refine jr_get (k := 19) hx hb hts hown hK hP jb_16 (Nat.le_of_ble_eq_true rfl) jlX6_43 rfl dX6_comesTold_36 ?_
  refine lv_iload_n hx hb dX6_comesTold_39 rfl (lv_at hl 5 rfl) ?_
  obtain ⟨g40, h⟩ := jh_gd h
  refine jr_ald (n := 49) hx hb hK hP jb_16 rfl g40 dX6_comesTold_40 ?_
  by_cases c41_103 : (M 16 19 (Int32.toNatClampNeg v1)) = 103
  · replace h := jh_t h c41_103
    refine lv_lookup (off := 98) (tgt := 139) hx hb dX6_comesTold_41 (by decide) (by rw [c41_103]; rfl) rfl ?_
    refine lv_aload_n hx hb dX6_comesTold_139 rfl (lv_at hl 4 rfl) ?_
    refine lv_iload_n hx hb dX6_comesTold_140 rfl (lv_at hl 3 rfl) ?_
    refine jr_kp (jr_rv (As := [.int (M 16 20 (Int32.toNatClampNeg (3 * v1)))]) (rest := []) S hK hP jb_16 rfl (m_X6_isWalker l X M (M 16 20 (Int32.toNatClampNeg (3 * v1))) _ rfl) jw_X6_isWalker ji_X6_isWalker jmX6_184 rfl rfl ⟨(Nat.le_of_ble_eq_true rfl), (Nat.le_of_ble_eq_true rfl)⟩ rfl hl.1 rfl (Nat.le_of_ble_eq_true rfl) dX6_comesTold_141 ⟨Nat.zero_le _, Nat.zero_le _⟩) ?_
    have J159 : ∀ (M_2 : jm) (H : Heap) (locs : List Loc) (v2_2 : Int32) (v3_2 : Int32) (t0_2 : Int32) (ls : Array Slot), f_X6_comesTold_j159 M_2 v2_2 v3_2 t0_2 = some (r, N) → jrp X M_2 H → va_S A s.heap H locs → lv_has ls 6 [(0, .ref (jO X 16)), (2, .int v2_2), (3, .int v3_2)] → W p l e (jrm 6 136) s m args below meth c H locs 0 0 (MQ below (jQm X A (some (.int r)) N) args s 0 0 A) (F0 m 159 ls [.int t0_2]) := by
      intro M_2 H locs v2_2 v3_2 t0_2 ls h hP hS hl
      refine lv_istore (lv' := [(5, .int t0_2), (0, .ref (jO X 16)), (2, .int v2_2), (3, .int v3_2)]) hx hb dX6_comesTold_159 hl (Nat.le_of_ble_eq_true rfl) rfl (fun ls hl => ?_)
      refine lv_iload hx hb dX6_comesTold_161 (lv_at hl 0 rfl) ?_
      refine lv_if_eq (tgt := 173) hx hb dX6_comesTold_163 rfl (fun c163 => ?_) (fun c163 => ?_)
      · replace h := jh_t h c163
        refine lv_iload hx hb dX6_comesTold_173 (lv_at hl 0 rfl) ?_
        obtain ⟨gz, h⟩ := jh_gb h
        exact je_mz hx hb hr hlocks hK hP hS gz h dX6_comesTold_175
      · replace h := jh_f h c163
        refine lv_aload_n hx hb dX6_comesTold_166 rfl (lv_at hl 1 rfl) ?_
        refine jr_get (k := 7) hx hb hts hown hK hP jb_16 (Nat.le_of_ble_eq_true rfl) jlX6_25 rfl dX6_comesTold_167 ?_
        refine lv_iload_n hx hb dX6_comesTold_170 rfl (lv_at hl 2 rfl) ?_
        refine lv_iload_n hx hb dX6_comesTold_171 rfl (lv_at hl 3 rfl) ?_
        obtain ⟨g172, h⟩ := jh_gd h
        refine jr_ast (n := 6) hx hb hK hP hs hS jb_16 rfl g172 dX6_comesTold_172 (fun H locs hP hS => ?_)
        refine lv_iload hx hb dX6_comesTold_173 (lv_at hl 0 rfl) ?_
        obtain ⟨gz, h⟩ := jh_gb h
        exact je_mz hx hb hr hlocks hK hP hS gz h dX6_comesTold_175
    have J158 : ∀ (M_3 : jm) (H : Heap) (locs : List Loc) (v2_3 : Int32) (v3_3 : Int32) (ls : Array Slot), f_X6_comesTold_j158 M_3 v2_3 v3_3 = some (r, N) → jrp X M_3 H → va_S A s.heap H locs → lv_has ls 6 [(0, .ref (jO X 16)), (2, .int v2_3), (3, .int v3_3)] → W p l e (jrm 6 136) s m args below meth c H locs 0 0 (MQ below (jQm X A (some (.int r)) N) args s 0 0 A) (F0 m 158 ls []) := by
      intro M_3 H locs v2_3 v3_3 ls h hP hS hl
      refine lv_iconst (v := 0) hx hb dX6_comesTold_158 jci_0 ?_
      exact J159 M_3 _ _ v2_3 v3_3 0 _ h hP hS hl
    refine lv_if_eq (tgt := 158) hx hb dX6_comesTold_144 rfl (fun c144 => ?_) (fun c144 => ?_)
    · replace h := jh_t h c144
      exact J158 M _ _ (M 16 20 (Int32.toNatClampNeg (3 * v1))) (M 16 20 (Int32.toNatClampNeg ((3 * v1) + 1))) _ h hP hS (lv_sub hl [4, 3, 2] rfl)
    · replace h := jh_f h c144
      refine lv_iload_n hx hb dX6_comesTold_147 rfl (lv_at hl 2 rfl) ?_
      refine jr_kp (jr_rs (As := [.int (M 16 20 (Int32.toNatClampNeg ((3 * v1) + 1)))]) (rest := []) S hN (m_X6_isCell l (M 16 20 (Int32.toNatClampNeg ((3 * v1) + 1))) _ rfl) jw_X6_isCell js_X6_isCell jmX6_139 rfl rfl ⟨(Nat.le_of_ble_eq_true rfl), (Nat.le_of_ble_eq_true rfl)⟩ rfl hl.1 rfl (Nat.le_of_ble_eq_true rfl) dX6_comesTold_148 ⟨Nat.zero_le _, Nat.zero_le _⟩) ?_
      refine lv_if_eq (tgt := 158) hx hb dX6_comesTold_151 rfl (fun c151 => ?_) (fun c151 => ?_)
      · replace h := jh_t h c151
        exact J158 M _ _ (M 16 20 (Int32.toNatClampNeg (3 * v1))) (M 16 20 (Int32.toNatClampNeg ((3 * v1) + 1))) _ h hP hS (lv_sub hl [4, 3, 2] rfl)
      · replace h := jh_f h c151
        refine lv_iconst (v := 1) hx hb dX6_comesTold_154 jci_1 ?_
        refine lv_goto (tgt := 159) hx hb dX6_comesTold_155 rfl ?_
        exact J159 M _ _ (M 16 20 (Int32.toNatClampNeg (3 * v1))) (M 16 20 (Int32.toNatClampNeg ((3 * v1) + 1))) 1 _ h hP hS (lv_sub hl [4, 3, 2] rfl)
  replace h := jh_f h c41_103
  by_cases c41_104 : (M 16 19 (Int32.toNatClampNeg v1)) = 104
  · replace h := jh_t h c41_104
    refine lv_lookup (off := 51) (tgt := 92) hx hb dX6_comesTold_41 (by decide) (by rw [c41_104]; rfl) rfl ?_
    refine lv_aload_n hx hb dX6_comesTold_92 rfl (lv_at hl 4 rfl) ?_
    refine lv_iload_n hx hb dX6_comesTold_93 rfl (lv_at hl 3 rfl) ?_
    refine lv_iload_n hx hb dX6_comesTold_94 rfl (lv_at hl 2 rfl) ?_
    refine lv_iload hx hb dX6_comesTold_95 (lv_at hl 1 rfl) ?_
    obtain ⟨r5, M_5, e5, h⟩ := jh_b2 h
    refine jr_km (jr_rv (As := [.int (M 16 20 (Int32.toNatClampNeg (3 * v1))), .int (M 16 20 (Int32.toNatClampNeg ((3 * v1) + 1))), .int (M 16 20 (Int32.toNatClampNeg ((3 * v1) + 2)))]) (rest := []) S hK hP jb_16 rfl (m_X6_houseComes l X A hs M (M 16 20 (Int32.toNatClampNeg (3 * v1))) (M 16 20 (Int32.toNatClampNeg ((3 * v1) + 1))) (M 16 20 (Int32.toNatClampNeg ((3 * v1) + 2))) r5 M_5 e5) jw_X6_houseComes ji_X6_houseComes jmX6_175 rfl rfl ⟨(Nat.le_of_ble_eq_true rfl), (Nat.le_of_ble_eq_true rfl)⟩ rfl hl.1 rfl (Nat.le_of_ble_eq_true rfl) dX6_comesTold_97 ⟨Nat.zero_le _, Nat.zero_le _⟩) hS (fun H locs hP hS => ?_)
    obtain ⟨gz, h⟩ := jh_gb h
    exact je_mz hx hb hr hlocks hK hP hS gz h dX6_comesTold_100
  replace h := jh_f h c41_104
  by_cases c41_108 : (M 16 19 (Int32.toNatClampNeg v1)) = 108
  · replace h := jh_t h c41_108
    refine lv_lookup (off := 69) (tgt := 110) hx hb dX6_comesTold_41 (by decide) (by rw [c41_108]; rfl) rfl ?_
    refine lv_aload_n hx hb dX6_comesTold_110 rfl (lv_at hl 4 rfl) ?_
    refine lv_iload_n hx hb dX6_comesTold_111 rfl (lv_at hl 3 rfl) ?_
    refine jr_kp (jr_rv (As := [.int (M 16 20 (Int32.toNatClampNeg (3 * v1)))]) (rest := []) S hK hP jb_16 rfl (m_X6_isHouse l X M (M 16 20 (Int32.toNatClampNeg (3 * v1))) _ rfl) jw_X6_isHouse ji_X6_isHouse jmX6_181 rfl rfl ⟨(Nat.le_of_ble_eq_true rfl), (Nat.le_of_ble_eq_true rfl)⟩ rfl hl.1 rfl (Nat.le_of_ble_eq_true rfl) dX6_comesTold_112 ⟨Nat.zero_le _, Nat.zero_le _⟩) ?_
    refine lv_istore (lv' := [(5, .int (f_X6_isHouse M (M 16 20 (Int32.toNatClampNeg (3 * v1))))), (4, .int (M 16 20 (Int32.toNatClampNeg ((3 * v1) + 2)))), (3, .int (M 16 20 (Int32.toNatClampNeg ((3 * v1) + 1)))), (2, .int (M 16 20 (Int32.toNatClampNeg (3 * v1)))), (0, .ref (jO X 16)), (1, .int v1)]) hx hb dX6_comesTold_115 hl (Nat.le_of_ble_eq_true rfl) rfl (fun ls hl => ?_)
    refine lv_iload hx hb dX6_comesTold_117 (lv_at hl 0 rfl) ?_
    refine lv_if_eq (tgt := 136) hx hb dX6_comesTold_119 rfl (fun c119 => ?_) (fun c119 => ?_)
    · replace h := jh_t h c119
      refine lv_iload hx hb dX6_comesTold_136 (lv_at hl 0 rfl) ?_
      obtain ⟨gz, h⟩ := jh_gb h
      exact je_mz hx hb hr hlocks hK hP hS gz h dX6_comesTold_138
    · replace h := jh_f h c119
      refine lv_aload_n hx hb dX6_comesTold_122 rfl (lv_at hl 4 rfl) ?_
      refine jr_get (k := 4) hx hb hts hown hK hP jb_16 (Nat.le_of_ble_eq_true rfl) jlX6_19 rfl dX6_comesTold_123 ?_
      refine lv_iload_n hx hb dX6_comesTold_126 rfl (lv_at hl 3 rfl) ?_
      refine lv_iconst (v := 1) hx hb dX6_comesTold_127 jci_1 ?_
      refine lv_aload_n hx hb dX6_comesTold_128 rfl (lv_at hl 4 rfl) ?_
      refine jr_get (k := 4) hx hb hts hown hK hP jb_16 (Nat.le_of_ble_eq_true rfl) jlX6_19 rfl dX6_comesTold_129 ?_
      refine lv_iload_n hx hb dX6_comesTold_132 rfl (lv_at hl 3 rfl) ?_
      obtain ⟨g133, h⟩ := jh_gd h
      refine jr_ald (n := 8) hx hb hK hP jb_16 rfl g133 dX6_comesTold_133 ?_
      refine lv_isub hx hb dX6_comesTold_134 ?_
      obtain ⟨g135, h⟩ := jh_gd h
      refine jr_ast (n := 8) hx hb hK hP hs hS jb_16 rfl g135 dX6_comesTold_135 (fun H locs hP hS => ?_)
      refine lv_iload hx hb dX6_comesTold_136 (lv_at hl 0 rfl) ?_
      obtain ⟨gz, h⟩ := jh_gb h
      exact je_mz hx hb hr hlocks hK hP hS gz h dX6_comesTold_138
  replace h := jh_f h c41_108
  by_cases c41_111 : (M 16 19 (Int32.toNatClampNeg v1)) = 111
  · replace h := jh_t h c41_111
    refine lv_lookup (off := 135) (tgt := 176) hx hb dX6_comesTold_41 (by decide) (by rw [c41_111]; rfl) rfl ?_
    refine lv_aload_n hx hb dX6_comesTold_176 rfl (lv_at hl 4 rfl) ?_
    refine lv_iload_n hx hb dX6_comesTold_177 rfl (lv_at hl 3 rfl) ?_
    refine jr_kp (jr_rv (As := [.int (M 16 20 (Int32.toNatClampNeg (3 * v1)))]) (rest := []) S hK hP jb_16 rfl (m_X6_isWalker l X M (M 16 20 (Int32.toNatClampNeg (3 * v1))) _ rfl) jw_X6_isWalker ji_X6_isWalker jmX6_184 rfl rfl ⟨(Nat.le_of_ble_eq_true rfl), (Nat.le_of_ble_eq_true rfl)⟩ rfl hl.1 rfl (Nat.le_of_ble_eq_true rfl) dX6_comesTold_178 ⟨Nat.zero_le _, Nat.zero_le _⟩) ?_
    have J197 : ∀ (M_8 : jm) (H : Heap) (locs : List Loc) (v2_8 : Int32) (v3_8 : Int32) (t0_8 : Int32) (ls : Array Slot), f_X6_comesTold_j197 M_8 v2_8 v3_8 t0_8 = some (r, N) → jrp X M_8 H → va_S A s.heap H locs → lv_has ls 6 [(0, .ref (jO X 16)), (2, .int v2_8), (3, .int v3_8)] → W p l e (jrm 6 136) s m args below meth c H locs 0 0 (MQ below (jQm X A (some (.int r)) N) args s 0 0 A) (F0 m 197 ls [.int t0_8]) := by
      intro M_8 H locs v2_8 v3_8 t0_8 ls h hP hS hl
      refine lv_istore (lv' := [(5, .int t0_8), (0, .ref (jO X 16)), (2, .int v2_8), (3, .int v3_8)]) hx hb dX6_comesTold_197 hl (Nat.le_of_ble_eq_true rfl) rfl (fun ls hl => ?_)
      refine lv_iload hx hb dX6_comesTold_199 (lv_at hl 0 rfl) ?_
      refine lv_if_eq (tgt := 230) hx hb dX6_comesTold_201 rfl (fun c201 => ?_) (fun c201 => ?_)
      · replace h := jh_t h c201
        refine lv_iload hx hb dX6_comesTold_230 (lv_at hl 0 rfl) ?_
        obtain ⟨gz, h⟩ := jh_gb h
        exact je_mz hx hb hr hlocks hK hP hS gz h dX6_comesTold_232
      · replace h := jh_f h c201
        refine lv_aload_n hx hb dX6_comesTold_204 rfl (lv_at hl 1 rfl) ?_
        refine jr_get (k := 9) hx hb hts hown hK hP jb_16 (Nat.le_of_ble_eq_true rfl) jlX6_31 rfl dX6_comesTold_205 ?_
        refine lv_bipush (v := 7) hx hb dX6_comesTold_208 jcb_7 ?_
        refine lv_iload_n hx hb dX6_comesTold_210 rfl (lv_at hl 2 rfl) ?_
        refine lv_imul hx hb dX6_comesTold_211 ?_
        refine lv_iload_n hx hb dX6_comesTold_212 rfl (lv_at hl 3 rfl) ?_
        refine lv_iadd hx hb dX6_comesTold_213 ?_
        obtain ⟨g214, h⟩ := jh_gd h
        refine jr_ald (n := 42) hx hb hK hP jb_16 rfl g214 dX6_comesTold_214 ?_
        refine lv_if_ne (tgt := 230) hx hb dX6_comesTold_215 rfl (fun c215 => ?_) (fun c215 => ?_)
        · replace h := jh_f h c215
          refine lv_iload hx hb dX6_comesTold_230 (lv_at hl 0 rfl) ?_
          obtain ⟨gz, h⟩ := jh_gb h
          exact je_mz hx hb hr hlocks hK hP hS gz h dX6_comesTold_232
        · replace h := jh_t h c215
          refine lv_aload_n hx hb dX6_comesTold_218 rfl (lv_at hl 1 rfl) ?_
          refine jr_get (k := 9) hx hb hts hown hK hP jb_16 (Nat.le_of_ble_eq_true rfl) jlX6_31 rfl dX6_comesTold_219 ?_
          refine lv_bipush (v := 7) hx hb dX6_comesTold_222 jcb_7 ?_
          refine lv_iload_n hx hb dX6_comesTold_224 rfl (lv_at hl 2 rfl) ?_
          refine lv_imul hx hb dX6_comesTold_225 ?_
          refine lv_iload_n hx hb dX6_comesTold_226 rfl (lv_at hl 3 rfl) ?_
          refine lv_iadd hx hb dX6_comesTold_227 ?_
          refine lv_iconst (v := 1) hx hb dX6_comesTold_228 jci_1 ?_
          obtain ⟨g229, h⟩ := jh_gd h
          refine jr_ast (n := 42) hx hb hK hP hs hS jb_16 rfl g229 dX6_comesTold_229 (fun H locs hP hS => ?_)
          refine lv_iload hx hb dX6_comesTold_230 (lv_at hl 0 rfl) ?_
          obtain ⟨gz, h⟩ := jh_gb h
          exact je_mz hx hb hr hlocks hK hP hS gz h dX6_comesTold_232
    have J196 : ∀ (M_9 : jm) (H : Heap) (locs : List Loc) (v2_9 : Int32) (v3_9 : Int32) (ls : Array Slot), f_X6_comesTold_j196 M_9 v2_9 v3_9 = some (r, N) → jrp X M_9 H → va_S A s.heap H locs → lv_has ls 6 [(0, .ref (jO X 16)), (2, .int v2_9), (3, .int v3_9)] → W p l e (jrm 6 136) s m args below meth c H locs 0 0 (MQ below (jQm X A (some (.int r)) N) args s 0 0 A) (F0 m 196 ls []) := by
      intro M_9 H locs v2_9 v3_9 ls h hP hS hl
      refine lv_iconst (v := 0) hx hb dX6_comesTold_196 jci_0 ?_
      exact J197 M_9 _ _ v2_9 v3_9 0 _ h hP hS hl
    refine lv_if_eq (tgt := 196) hx hb dX6_comesTold_181 rfl (fun c181 => ?_) (fun c181 => ?_)
    · replace h := jh_t h c181
      exact J196 M _ _ (M 16 20 (Int32.toNatClampNeg (3 * v1))) (M 16 20 (Int32.toNatClampNeg ((3 * v1) + 1))) _ h hP hS (lv_sub hl [4, 3, 2] rfl)
    · replace h := jh_f h c181
      refine lv_aload_n hx hb dX6_comesTold_184 rfl (lv_at hl 4 rfl) ?_
      refine lv_iload_n hx hb dX6_comesTold_185 rfl (lv_at hl 2 rfl) ?_
      refine jr_kp (jr_rv (As := [.int (M 16 20 (Int32.toNatClampNeg ((3 * v1) + 1)))]) (rest := []) S hK hP jb_16 rfl (m_X6_isHouse l X M (M 16 20 (Int32.toNatClampNeg ((3 * v1) + 1))) _ rfl) jw_X6_isHouse ji_X6_isHouse jmX6_181 rfl rfl ⟨(Nat.le_of_ble_eq_true rfl), (Nat.le_of_ble_eq_true rfl)⟩ rfl hl.1 rfl (Nat.le_of_ble_eq_true rfl) dX6_comesTold_186 ⟨Nat.zero_le _, Nat.zero_le _⟩) ?_
      refine lv_if_eq (tgt := 196) hx hb dX6_comesTold_189 rfl (fun c189 => ?_) (fun c189 => ?_)
      · replace h := jh_t h c189
        exact J196 M _ _ (M 16 20 (Int32.toNatClampNeg (3 * v1))) (M 16 20 (Int32.toNatClampNeg ((3 * v1) + 1))) _ h hP hS (lv_sub hl [4, 3, 2] rfl)
      · replace h := jh_f h c189
        refine lv_iconst (v := 1) hx hb dX6_comesTold_192 jci_1 ?_
        refine lv_goto (tgt := 197) hx hb dX6_comesTold_193 rfl ?_
        exact J197 M _ _ (M 16 20 (Int32.toNatClampNeg (3 * v1))) (M 16 20 (Int32.toNatClampNeg ((3 * v1) + 1))) 1 _ h hP hS (lv_sub hl [4, 3, 2] rfl)
  replace h := jh_f h c41_111
  by_cases c41_119 : (M 16 19 (Int32.toNatClampNeg v1)) = 119
  · replace h := jh_t h c41_119
    refine lv_lookup (off := 60) (tgt := 101) hx hb dX6_comesTold_41 (by decide) (by rw [c41_119]; rfl) rfl ?_
    refine lv_aload_n hx hb dX6_comesTold_101 rfl (lv_at hl 4 rfl) ?_
    refine lv_iload_n hx hb dX6_comesTold_102 rfl (lv_at hl 3 rfl) ?_
    refine lv_iload_n hx hb dX6_comesTold_103 rfl (lv_at hl 2 rfl) ?_
    refine lv_iload hx hb dX6_comesTold_104 (lv_at hl 1 rfl) ?_
    obtain ⟨r11, M_11, e11, h⟩ := jh_b2 h
    refine jr_km (jr_rv (As := [.int (M 16 20 (Int32.toNatClampNeg (3 * v1))), .int (M 16 20 (Int32.toNatClampNeg ((3 * v1) + 1))), .int (M 16 20 (Int32.toNatClampNeg ((3 * v1) + 2)))]) (rest := []) S hK hP jb_16 rfl (m_X6_walkerComes l X A hs M (M 16 20 (Int32.toNatClampNeg (3 * v1))) (M 16 20 (Int32.toNatClampNeg ((3 * v1) + 1))) (M 16 20 (Int32.toNatClampNeg ((3 * v1) + 2))) r11 M_11 e11) jw_X6_walkerComes ji_X6_walkerComes jmX6_178 rfl rfl ⟨(Nat.le_of_ble_eq_true rfl), (Nat.le_of_ble_eq_true rfl)⟩ rfl hl.1 rfl (Nat.le_of_ble_eq_true rfl) dX6_comesTold_106 ⟨Nat.zero_le _, Nat.zero_le _⟩) hS (fun H locs hP hS => ?_)
    obtain ⟨gz, h⟩ := jh_gb h
    exact je_mz hx hb hr hlocks hK hP hS gz h dX6_comesTold_109
  replace h := jh_f h c41_119
  refine jr_ldef (ks := [103, 104, 108, 111, 119]) (tgt := 233) hx hb dX6_comesTold_41 (by decide) (jsw_cons (jsw_ne c41_103 rfl) (jsw_cons (jsw_ne c41_104 rfl) (jsw_cons (jsw_ne c41_108 rfl) (jsw_cons (jsw_ne c41_111 rfl) (jsw_cons (jsw_ne c41_119 rfl) (jsw_nil)))))) (by decide) rfl ?_
  refine lv_iload_n hx hb dX6_comesTold_233 rfl (lv_at hl 3 rfl) ?_
  refine lv_i2l hx hb dX6_comesTold_234 rfl ?_
  refine lv_lconst (v := 1) hx hb dX6_comesTold_235 rfl ?_
  refine lv_ldc2 hx hb hown (hts _ jkX6_187) dX6_comesTold_236 ?_
  refine jr_kp (jr_rs (As := [.long (Int32.toInt64 (M 16 20 (Int32.toNatClampNeg (3 * v1)))), .long 1, .long 60]) (rest := []) S hN (m_X6_in l (Int32.toInt64 (M 16 20 (Int32.toNatClampNeg (3 * v1)))) 1 60 _ rfl) jw_X6_in js_X6_in jmX6_85 rfl rfl ⟨(Nat.le_of_ble_eq_true rfl), (Nat.le_of_ble_eq_true rfl)⟩ rfl hl.1 rfl (Nat.le_of_ble_eq_true rfl) dX6_comesTold_239 ⟨Nat.zero_le _, Nat.zero_le _⟩) ?_
  have J262 : ∀ (M_13 : jm) (H : Heap) (locs : List Loc) (v2_13 : Int32) (t0_13 : Int32) (ls : Array Slot), f_X6_comesTold_j262 M_13 v2_13 t0_13 = some (r, N) → jrp X M_13 H → va_S A s.heap H locs → lv_has ls 6 [(0, .ref (jO X 16)), (2, .int v2_13)] → W p l e (jrm 6 136) s m args below meth c H locs 0 0 (MQ below (jQm X A (some (.int r)) N) args s 0 0 A) (F0 m 262 ls [.int t0_13]) := by
    intro M_13 H locs v2_13 t0_13 ls h hP hS hl
    refine lv_istore (lv' := [(5, .int t0_13), (0, .ref (jO X 16)), (2, .int v2_13)]) hx hb dX6_comesTold_262 hl (Nat.le_of_ble_eq_true rfl) rfl (fun ls hl => ?_)
    refine lv_iload hx hb dX6_comesTold_264 (lv_at hl 0 rfl) ?_
    refine lv_if_eq (tgt := 274) hx hb dX6_comesTold_266 rfl (fun c266 => ?_) (fun c266 => ?_)
    · replace h := jh_t h c266
      refine lv_iload hx hb dX6_comesTold_274 (lv_at hl 0 rfl) ?_
      obtain ⟨gz, h⟩ := jh_gb h
      exact je_mz hx hb hr hlocks hK hP hS gz h dX6_comesTold_276
    · replace h := jh_f h c266
      refine lv_aload_n hx hb dX6_comesTold_269 rfl (lv_at hl 1 rfl) ?_
      refine lv_iload_n hx hb dX6_comesTold_270 rfl (lv_at hl 2 rfl) ?_
      obtain ⟨M_14, e14, h⟩ := jh_b h
      refine jr_kv (jr_rv (As := [.int v2_13]) (rest := []) S hK hP jb_16 rfl (m_X6_goEvenings l X A hs M_13 v2_13 M_14 e14) jw_X6_goEvenings ji_X6_goEvenings jmX6_189 rfl rfl ⟨(Nat.le_of_ble_eq_true rfl), (Nat.le_of_ble_eq_true rfl)⟩ rfl hl.1 rfl (Nat.le_of_ble_eq_true rfl) dX6_comesTold_271 ⟨Nat.zero_le _, Nat.zero_le _⟩) hS (fun H locs hP hS => ?_)
      refine lv_iload hx hb dX6_comesTold_274 (lv_at hl 0 rfl) ?_
      obtain ⟨gz, h⟩ := jh_gb h
      exact je_mz hx hb hr hlocks hK hP hS gz h dX6_comesTold_276
  have J261 : ∀ (M_15 : jm) (H : Heap) (locs : List Loc) (v2_15 : Int32) (ls : Array Slot), f_X6_comesTold_j261 M_15 v2_15 = some (r, N) → jrp X M_15 H → va_S A s.heap H locs → lv_has ls 6 [(0, .ref (jO X 16)), (2, .int v2_15)] → W p l e (jrm 6 136) s m args below meth c H locs 0 0 (MQ below (jQm X A (some (.int r)) N) args s 0 0 A) (F0 m 261 ls []) := by
    intro M_15 H locs v2_15 ls h hP hS hl
    refine lv_iconst (v := 0) hx hb dX6_comesTold_261 jci_0 ?_
    exact J262 M_15 _ _ v2_15 0 _ h hP hS hl
  refine lv_if_eq (tgt := 261) hx hb dX6_comesTold_242 rfl (fun c242 => ?_) (fun c242 => ?_)
  · replace h := jh_t h c242
    exact J261 M _ _ (M 16 20 (Int32.toNatClampNeg (3 * v1))) _ h hP hS (lv_sub hl [4, 3] rfl)
  · replace h := jh_f h c242
    refine lv_aload_n hx hb dX6_comesTold_245 rfl (lv_at hl 4 rfl) ?_
    refine jr_get (k := 10) hx hb hts hown hK hP jb_16 (Nat.le_of_ble_eq_true rfl) jlX6_122 rfl dX6_comesTold_246 ?_
    refine lv_iload_n hx hb dX6_comesTold_249 rfl (lv_at hl 3 rfl) ?_
    refine lv_iadd hx hb dX6_comesTold_250 ?_
    refine lv_sipush (v := 999) hx hb dX6_comesTold_251 jcs_999 ?_
    refine lv_icmp_gt (tgt := 261) hx hb dX6_comesTold_254 rfl (fun c254 => ?_) (fun c254 => ?_)
    · replace h := jh_t h c254
      exact J261 M _ _ (M 16 20 (Int32.toNatClampNeg (3 * v1))) _ h hP hS (lv_sub hl [4, 3] rfl)
    · replace h := jh_f h c254
      refine lv_iconst (v := 1) hx hb dX6_comesTold_257 jci_1 ?_
      refine lv_goto (tgt := 262) hx hb dX6_comesTold_258 rfl ?_
      exact J262 M _ _ (M 16 20 (Int32.toNatClampNeg (3 * v1))) 1 _ h hP hS (lv_sub hl [4, 3] rfl)
def f_X6_carry_j17 (M_1 : jm) : Option (Int32 × jm) := (jgk ((ju M_1 16 24 0 ((M_1 16 24 0) + 1)) 16 26 0) (jgd (((ju M_1 16 24 0 ((M_1 16 24 0) + 1)) 16 24 0) - 1) 91 (some (((ju M_1 16 24 0 ((M_1 16 24 0) + 1)) 16 (Int32.toNatClampNeg ((ju M_1 16 24 0 ((M_1 16 24 0) + 1)) 16 26 0)) (Int32.toNatClampNeg (((ju M_1 16 24 0 ((M_1 16 24 0) + 1)) 16 24 0) - 1))), (ju M_1 16 24 0 ((M_1 16 24 0) + 1))))))
def f_X6_carry (M : jm) (v1 : Int32) : Option (Int32 × jm) := (if (M 16 25 0) = 0 then (f_X6_carry_j17 M) else (jgk (M 16 26 0) (jgd (M 16 24 0) 91 (f_X6_carry_j17 (ju M 16 (Int32.toNatClampNeg (M 16 26 0)) (Int32.toNatClampNeg (M 16 24 0)) v1)))))
set_option maxRecDepth 100000 in
theorem m_X6_carry (l : Launch) (X : jX) (A : Nat → Prop) (hs : jst X A) (M : jm) (v1 : Int32) (r : Int32) (N : jm) (h : f_X6_carry M v1 = some (r, N)) : Met l yX6_carry (jws yX6_carry cX6_carry 2 (some .int)) (jrm 0 0) (va_Pc [.ref (jO X 16), .int v1] (jB X M)) (jQm X A (some (.int r)) N) 0 0 A := by
  refine jm_of (by decide) (Nat.le_of_ble_eq_true rfl) ?_
  intro p e s m args below meth c ls S hr hlocks hB hl
  have S : CallFix p m c cX6_carry 2 s args jtb RX6 := S
  obtain ⟨hx, hb, hml, hown, hts⟩ := id S
  obtain ⟨hP, hK⟩ := hB
  have hN := hK.2
  have hS : va_S A s.heap s.heap [] := va_S.rf
  have hl : lv_has ls 2 [(0, .ref (jO X 16)), (1, .int v1)] := hl
  refine lv_aload_n hx hb dX6_carry_0 rfl (lv_at hl 0 rfl) ?_
  refine jr_get (k := 25) hx hb hts hown hK hP jb_16 (Nat.le_of_ble_eq_true rfl) jlX6_208 rfl dX6_carry_1 ?_
  have J17 : ∀ (M_1 : jm) (H : Heap) (locs : List Loc) (ls : Array Slot), f_X6_carry_j17 M_1 = some (r, N) → jrp X M_1 H → va_S A s.heap H locs → lv_has ls 2 [(0, .ref (jO X 16))] → W p l e (jrm 0 0) s m args below meth c H locs 0 0 (MQ below (jQm X A (some (.int r)) N) args s 0 0 A) (F0 m 17 ls []) := by
    intro M_1 H locs ls h hP hS hl
    refine lv_aload_n hx hb dX6_carry_17 rfl (lv_at hl 0 rfl) ?_
    refine lv_dup hx hb dX6_carry_18 rfl ?_
    refine jr_get (k := 24) hx hb hts hown hK hP jb_16 (Nat.le_of_ble_eq_true rfl) jlX6_214 rfl dX6_carry_19 ?_
    refine lv_iconst (v := 1) hx hb dX6_carry_22 jci_1 ?_
    refine lv_iadd hx hb dX6_carry_23 ?_
    refine jr_put (k := 24) (z := ((M_1 16 24 0) + 1)) hx hb hts hown hK hP hs hS jb_16 (Nat.le_of_ble_eq_true rfl) jlX6_214 rfl (Or.inl rfl) rfl rfl rfl dX6_carry_24 (fun H locs hP hS => ?_)
    refine lv_aload_n hx hb dX6_carry_27 rfl (lv_at hl 0 rfl) ?_
    obtain ⟨gk28, h⟩ := jh_gk h
    refine jr_get (k := 26) hx hb hts hown hK hP jb_16 (Nat.le_of_ble_eq_true rfl) jlX6_211 (jb_kw X gk28) dX6_carry_28 ?_
    refine lv_aload_n hx hb dX6_carry_31 rfl (lv_at hl 0 rfl) ?_
    refine jr_get (k := 24) hx hb hts hown hK hP jb_16 (Nat.le_of_ble_eq_true rfl) jlX6_214 rfl dX6_carry_32 ?_
    refine lv_iconst (v := 1) hx hb dX6_carry_35 jci_1 ?_
    refine lv_isub hx hb dX6_carry_36 ?_
    obtain ⟨g37, h⟩ := jh_gd h
    refine jr_ald (n := 91) hx hb hK hP jb_16 (jb_k gk28) g37 dX6_carry_37 ?_
    exact je_mi hx hb hr hlocks hK hP hS h dX6_carry_38
  refine lv_if_eq (tgt := 17) hx hb dX6_carry_4 rfl (fun c4 => ?_) (fun c4 => ?_)
  · replace h := jh_t h c4
    exact J17 M _ _ _ h hP hS (lv_sub hl [0] rfl)
  · replace h := jh_f h c4
    refine lv_aload_n hx hb dX6_carry_7 rfl (lv_at hl 0 rfl) ?_
    obtain ⟨gk8, h⟩ := jh_gk h
    refine jr_get (k := 26) hx hb hts hown hK hP jb_16 (Nat.le_of_ble_eq_true rfl) jlX6_211 (jb_kw X gk8) dX6_carry_8 ?_
    refine lv_aload_n hx hb dX6_carry_11 rfl (lv_at hl 0 rfl) ?_
    refine jr_get (k := 24) hx hb hts hown hK hP jb_16 (Nat.le_of_ble_eq_true rfl) jlX6_214 rfl dX6_carry_12 ?_
    refine lv_iload_n hx hb dX6_carry_15 rfl (lv_at hl 1 rfl) ?_
    obtain ⟨g16, h⟩ := jh_gd h
    refine jr_ast (n := 91) hx hb hK hP hs hS jb_16 (jb_k gk8) g16 dX6_carry_16 (fun H locs hP hS => ?_)
    exact J17 (ju M 16 (Int32.toNatClampNeg (M 16 26 0)) (Int32.toNatClampNeg (M 16 24 0)) v1) _ _ _ h hP hS (lv_sub hl [0] rfl)
def f_X6_carryAll_l193 (f1 : Nat) : Nat → jm → Int32 → Option jm
  | 0, _, _ => none
  | k_6 + 1, M_6, v3_6 => (if 42 ≤ v3_6 then (some M_6) else (jgd v3_6 42 (jb2 (f_X6_carry M_6 (M_6 16 9 (Int32.toNatClampNeg v3_6))) fun r7 M_7 => (jgd v3_6 42 ((f_X6_carryAll_l193 f1 k_6) (ju M_7 16 9 (Int32.toNatClampNeg v3_6) r7) (v3_6 + 1))))))
def f_X6_carryAll_l131 (f1 : Nat) : Nat → jm → Int32 → Option jm
  | 0, _, _ => none
  | k_5 + 1, M_5, v3_5 => (if 6 ≤ v3_5 then (f_X6_carryAll_l193 f1 10000 M_5 0) else (jgd v3_5 6 (jb2 (f_X6_carry M_5 (M_5 16 6 (Int32.toNatClampNeg v3_5))) fun r8 M_8 => (jgd v3_5 6 (jgd v3_5 6 (jb2 (f_X6_carry (ju M_8 16 6 (Int32.toNatClampNeg v3_5) r8) ((ju M_8 16 6 (Int32.toNatClampNeg v3_5) r8) 16 7 (Int32.toNatClampNeg v3_5))) fun r9 M_9 => (jgd v3_5 6 (jgd v3_5 6 (jb2 (f_X6_carry (ju M_9 16 7 (Int32.toNatClampNeg v3_5) r9) ((ju M_9 16 7 (Int32.toNatClampNeg v3_5) r9) 16 8 (Int32.toNatClampNeg v3_5))) fun r10 M_10 => (jgd v3_5 6 ((f_X6_carryAll_l131 f1 k_5) (ju M_10 16 8 (Int32.toNatClampNeg v3_5) r10) (v3_5 + 1))))))))))))
def f_X6_carryAll_l53 (f1 : Nat) : Nat → jm → Int32 → Option jm
  | 0, _, _ => none
  | k_4 + 1, M_4, v3_4 => (if 7 ≤ v3_4 then (f_X6_carryAll_l131 f1 10000 M_4 0) else (jgd v3_4 8 (jb2 (f_X6_carry M_4 (M_4 16 1 (Int32.toNatClampNeg v3_4))) fun r11 M_11 => (jgd v3_4 8 (jgd v3_4 8 (jb2 (f_X6_carry (ju M_11 16 1 (Int32.toNatClampNeg v3_4) r11) ((ju M_11 16 1 (Int32.toNatClampNeg v3_4) r11) 16 2 (Int32.toNatClampNeg v3_4))) fun r12 M_12 => (jgd v3_4 8 (jgd v3_4 8 (jb2 (f_X6_carry (ju M_12 16 2 (Int32.toNatClampNeg v3_4) r12) ((ju M_12 16 2 (Int32.toNatClampNeg v3_4) r12) 16 3 (Int32.toNatClampNeg v3_4))) fun r13 M_13 => (jgd v3_4 8 (jgd v3_4 8 (jb2 (f_X6_carry (ju M_13 16 3 (Int32.toNatClampNeg v3_4) r13) ((ju M_13 16 3 (Int32.toNatClampNeg v3_4) r13) 16 4 (Int32.toNatClampNeg v3_4))) fun r14 M_14 => (jgd v3_4 8 ((f_X6_carryAll_l53 f1 k_4) (ju M_14 16 4 (Int32.toNatClampNeg v3_4) r14) (v3_4 + 1)))))))))))))))
def f_X6_carryAll (M : jm) (f1 : Nat) (v2 : Int32) : Option jm := (jgb v2 (jb2 (f_X6_carry (ju (ju (ju M 16 26 0 (Int32.ofNat f1)) 16 25 0 v2) 16 24 0 0) ((ju (ju (ju M 16 26 0 (Int32.ofNat f1)) 16 25 0 v2) 16 24 0 0) 16 0 0)) fun r1 M_1 => (jb2 (f_X6_carry (ju M_1 16 0 0 r1) ((ju M_1 16 0 0 r1) 16 5 0)) fun r2 M_2 => (jb2 (f_X6_carry (ju M_2 16 5 0 r2) ((ju M_2 16 5 0 r2) 16 10 0)) fun r3 M_3 => (f_X6_carryAll_l53 f1 10000 (ju M_3 16 10 0 r3) 0)))))
set_option maxRecDepth 100000 in
theorem m_X6_carryAll (l : Launch) (X : jX) (A : Nat → Prop) (hs : jst X A) (M : jm) {f1 : Nat} (hf1 : f1 = 21 ∨ f1 = 22 ∨ f1 = 28) (v2 : Int32) (N : jm) (h : f_X6_carryAll M f1 v2 = some N) : Met l yX6_carryAll (jws yX6_carryAll cX6_carryAll 4 none) (jrm 1 21) (va_Pc [.ref (jO X 16), .ref (jA X 16 f1), .int v2] (jB X M)) (jQm X A none N) 0 0 A := by
  refine jm_of (by decide) (Nat.le_of_ble_eq_true rfl) ?_
  intro p e s m args below meth c ls S hr hlocks hB hl
  have S : CallFix p m c cX6_carryAll 4 s args jtb RX6 := S
  obtain ⟨hx, hb, hml, hown, hts⟩ := id S
  obtain ⟨hP, hK⟩ := hB
  have hN := hK.2
  have hS : va_S A s.heap s.heap [] := va_S.rf
  have hl : lv_has ls 4 [(0, .ref (jO X 16)), (1, .ref (jA X 16 f1)), (2, .int v2)] := hl
  refine lv_aload_n hx hb dX6_carryAll_0 rfl (lv_at hl 0 rfl) ?_
  refine lv_aload_n hx hb dX6_carryAll_1 rfl (lv_at hl 1 rfl) ?_
  refine jr_put (k := 26) (z := (Int32.ofNat f1)) hx hb hts hown hK hP hs hS jb_16 (Nat.le_of_ble_eq_true rfl) jlX6_211 rfl (Or.inr rfl) (jb_kp X hf1) rfl rfl dX6_carryAll_2 (fun H locs hP hS => ?_)
  refine lv_aload_n hx hb dX6_carryAll_5 rfl (lv_at hl 0 rfl) ?_
  refine lv_iload_n hx hb dX6_carryAll_6 rfl (lv_at hl 2 rfl) ?_
  obtain ⟨gb7, h⟩ := jh_gb h
  refine jr_put (k := 25) (z := v2) hx hb hts hown hK hP hs hS jb_16 (Nat.le_of_ble_eq_true rfl) jlX6_208 rfl (Or.inl rfl) rfl (jn_b gb7) (jf_b gb7) dX6_carryAll_7 (fun H locs hP hS => ?_)
  refine lv_aload_n hx hb dX6_carryAll_10 rfl (lv_at hl 0 rfl) ?_
  refine lv_iconst (v := 0) hx hb dX6_carryAll_11 jci_0 ?_
  refine jr_put (k := 24) (z := 0) hx hb hts hown hK hP hs hS jb_16 (Nat.le_of_ble_eq_true rfl) jlX6_214 rfl (Or.inl rfl) rfl rfl rfl dX6_carryAll_12 (fun H locs hP hS => ?_)
  refine lv_aload_n hx hb dX6_carryAll_15 rfl (lv_at hl 0 rfl) ?_
  refine lv_aload_n hx hb dX6_carryAll_16 rfl (lv_at hl 0 rfl) ?_
  refine lv_aload_n hx hb dX6_carryAll_17 rfl (lv_at hl 0 rfl) ?_
  refine jr_get (k := 0) hx hb hts hown hK hP jb_16 (Nat.le_of_ble_eq_true rfl) jlX6_89 rfl dX6_carryAll_18 ?_
  obtain ⟨r1, M_1, e1, h⟩ := jh_b2 h
  refine jr_km (jr_rv (As := [.int ((ju (ju (ju M 16 26 0 (Int32.ofNat f1)) 16 25 0 v2) 16 24 0 0) 16 0 0)]) (rest := [.ref (jO X 16)]) S hK hP jb_16 rfl (m_X6_carry l X A hs (ju (ju (ju M 16 26 0 (Int32.ofNat f1)) 16 25 0 v2) 16 24 0 0) ((ju (ju (ju M 16 26 0 (Int32.ofNat f1)) 16 25 0 v2) 16 24 0 0) 16 0 0) r1 M_1 e1) jw_X6_carry ji_X6_carry jmX6_217 rfl rfl ⟨(Nat.le_of_ble_eq_true rfl), (Nat.le_of_ble_eq_true rfl)⟩ rfl hl.1 rfl (Nat.le_of_ble_eq_true rfl) dX6_carryAll_21 ⟨Nat.zero_le _, Nat.zero_le _⟩) hS (fun H locs hP hS => ?_)
  refine jr_put (k := 0) (z := r1) hx hb hts hown hK hP hs hS jb_16 (Nat.le_of_ble_eq_true rfl) jlX6_89 rfl (Or.inl rfl) rfl rfl rfl dX6_carryAll_24 (fun H locs hP hS => ?_)
  refine lv_aload_n hx hb dX6_carryAll_27 rfl (lv_at hl 0 rfl) ?_
  refine lv_aload_n hx hb dX6_carryAll_28 rfl (lv_at hl 0 rfl) ?_
  refine lv_aload_n hx hb dX6_carryAll_29 rfl (lv_at hl 0 rfl) ?_
  refine jr_get (k := 5) hx hb hts hown hK hP jb_16 (Nat.le_of_ble_eq_true rfl) jlX6_92 rfl dX6_carryAll_30 ?_
  obtain ⟨r2, M_2, e2, h⟩ := jh_b2 h
  refine jr_km (jr_rv (As := [.int ((ju M_1 16 0 0 r1) 16 5 0)]) (rest := [.ref (jO X 16)]) S hK hP jb_16 rfl (m_X6_carry l X A hs (ju M_1 16 0 0 r1) ((ju M_1 16 0 0 r1) 16 5 0) r2 M_2 e2) jw_X6_carry ji_X6_carry jmX6_217 rfl rfl ⟨(Nat.le_of_ble_eq_true rfl), (Nat.le_of_ble_eq_true rfl)⟩ rfl hl.1 rfl (Nat.le_of_ble_eq_true rfl) dX6_carryAll_33 ⟨Nat.zero_le _, Nat.zero_le _⟩) hS (fun H locs hP hS => ?_)
  refine jr_put (k := 5) (z := r2) hx hb hts hown hK hP hs hS jb_16 (Nat.le_of_ble_eq_true rfl) jlX6_92 rfl (Or.inl rfl) rfl rfl rfl dX6_carryAll_36 (fun H locs hP hS => ?_)
  refine lv_aload_n hx hb dX6_carryAll_39 rfl (lv_at hl 0 rfl) ?_
  refine lv_aload_n hx hb dX6_carryAll_40 rfl (lv_at hl 0 rfl) ?_
  refine lv_aload_n hx hb dX6_carryAll_41 rfl (lv_at hl 0 rfl) ?_
  refine jr_get (k := 10) hx hb hts hown hK hP jb_16 (Nat.le_of_ble_eq_true rfl) jlX6_122 rfl dX6_carryAll_42 ?_
  obtain ⟨r3, M_3, e3, h⟩ := jh_b2 h
  refine jr_km (jr_rv (As := [.int ((ju M_2 16 5 0 r2) 16 10 0)]) (rest := [.ref (jO X 16)]) S hK hP jb_16 rfl (m_X6_carry l X A hs (ju M_2 16 5 0 r2) ((ju M_2 16 5 0 r2) 16 10 0) r3 M_3 e3) jw_X6_carry ji_X6_carry jmX6_217 rfl rfl ⟨(Nat.le_of_ble_eq_true rfl), (Nat.le_of_ble_eq_true rfl)⟩ rfl hl.1 rfl (Nat.le_of_ble_eq_true rfl) dX6_carryAll_45 ⟨Nat.zero_le _, Nat.zero_le _⟩) hS (fun H locs hP hS => ?_)
  refine jr_put (k := 10) (z := r3) hx hb hts hown hK hP hs hS jb_16 (Nat.le_of_ble_eq_true rfl) jlX6_122 rfl (Or.inl rfl) rfl rfl rfl dX6_carryAll_48 (fun H locs hP hS => ?_)
  refine lv_iconst (v := 0) hx hb dX6_carryAll_51 jci_0 ?_
  refine lv_istore_n (lv' := [(3, .int 0), (0, .ref (jO X 16)), (1, .ref (jA X 16 f1)), (2, .int v2)]) hx hb dX6_carryAll_52 rfl hl (Nat.le_of_ble_eq_true rfl) rfl (fun ls hl => ?_)
  have L53 : ∀ (k_4 : Nat) (M_4 : jm) (H : Heap) (locs : List Loc) (v3_4 : Int32) (ls : Array Slot), f_X6_carryAll_l53 f1 k_4 M_4 v3_4 = some N → jrp X M_4 H → va_S A s.heap H locs → lv_has ls 4 [(0, .ref (jO X 16)), (3, .int v3_4)] → W p l e (jrm 1 21) s m args below meth c H locs 0 0 (MQ below (jQm X A none N) args s 0 0 A) (F0 m 53 ls []) := by
    intro k_4
    induction k_4 with
    | zero => intro M_4 H locs v3_4 ls h; exact jh_0 h
    | succ k_4 ih53 =>
      intro M_4 H locs v3_4 ls h hP hS hl
      refine lv_iload_n hx hb dX6_carryAll_53 rfl (lv_at hl 1 rfl) ?_
      refine lv_bipush (v := 7) hx hb dX6_carryAll_54 jcb_7 ?_
      refine lv_icmp_ge (tgt := 129) hx hb dX6_carryAll_56 rfl (fun c56 => ?_) (fun c56 => ?_)
      · replace h := jh_t h c56
        refine lv_iconst (v := 0) hx hb dX6_carryAll_129 jci_0 ?_
        refine lv_istore_n (lv' := [(3, .int 0), (0, .ref (jO X 16))]) hx hb dX6_carryAll_130 rfl hl (Nat.le_of_ble_eq_true rfl) rfl (fun ls hl => ?_)
        have L131 : ∀ (k_5 : Nat) (M_5 : jm) (H : Heap) (locs : List Loc) (v3_5 : Int32) (ls : Array Slot), f_X6_carryAll_l131 f1 k_5 M_5 v3_5 = some N → jrp X M_5 H → va_S A s.heap H locs → lv_has ls 4 [(0, .ref (jO X 16)), (3, .int v3_5)] → W p l e (jrm 1 21) s m args below meth c H locs 0 0 (MQ below (jQm X A none N) args s 0 0 A) (F0 m 131 ls []) := by
          intro k_5
          induction k_5 with
          | zero => intro M_5 H locs v3_5 ls h; exact jh_0 h
          | succ k_5 ih131 =>
            intro M_5 H locs v3_5 ls h hP hS hl
            refine lv_iload_n hx hb dX6_carryAll_131 rfl (lv_at hl 1 rfl) ?_
            refine lv_bipush (v := 6) hx hb dX6_carryAll_132 jcb_6 ?_
            refine lv_icmp_ge (tgt := 191) hx hb dX6_carryAll_134 rfl (fun c134 => ?_) (fun c134 => ?_)
            · replace h := jh_t h c134
              refine lv_iconst (v := 0) hx hb dX6_carryAll_191 jci_0 ?_
              refine lv_istore_n (lv' := [(3, .int 0), (0, .ref (jO X 16))]) hx hb dX6_carryAll_192 rfl hl (Nat.le_of_ble_eq_true rfl) rfl (fun ls hl => ?_)
              have L193 : ∀ (k_6 : Nat) (M_6 : jm) (H : Heap) (locs : List Loc) (v3_6 : Int32) (ls : Array Slot), f_X6_carryAll_l193 f1 k_6 M_6 v3_6 = some N → jrp X M_6 H → va_S A s.heap H locs → lv_has ls 4 [(0, .ref (jO X 16)), (3, .int v3_6)] → W p l e (jrm 1 21) s m args below meth c H locs 0 0 (MQ below (jQm X A none N) args s 0 0 A) (F0 m 193 ls []) := by
                intro k_6
                induction k_6 with
                | zero => intro M_6 H locs v3_6 ls h; exact jh_0 h
                | succ k_6 ih193 =>
                  intro M_6 H locs v3_6 ls h hP hS hl
                  refine lv_iload_n hx hb dX6_carryAll_193 rfl (lv_at hl 1 rfl) ?_
                  refine lv_bipush (v := 42) hx hb dX6_carryAll_194 jcb_42 ?_
                  refine lv_icmp_ge (tgt := 221) hx hb dX6_carryAll_196 rfl (fun c196 => ?_) (fun c196 => ?_)
                  · replace h := jh_t h c196
                    exact je_mv hx hb hr hlocks hK hP hS h dX6_carryAll_221
                  · replace h := jh_f h c196
                    refine lv_aload_n hx hb dX6_carryAll_199 rfl (lv_at hl 0 rfl) ?_
                    refine jr_get (k := 9) hx hb hts hown hK hP jb_16 (Nat.le_of_ble_eq_true rfl) jlX6_31 rfl dX6_carryAll_200 ?_
                    refine lv_iload_n hx hb dX6_carryAll_203 rfl (lv_at hl 1 rfl) ?_
                    refine lv_aload_n hx hb dX6_carryAll_204 rfl (lv_at hl 0 rfl) ?_
                    refine lv_aload_n hx hb dX6_carryAll_205 rfl (lv_at hl 0 rfl) ?_
                    refine jr_get (k := 9) hx hb hts hown hK hP jb_16 (Nat.le_of_ble_eq_true rfl) jlX6_31 rfl dX6_carryAll_206 ?_
                    refine lv_iload_n hx hb dX6_carryAll_209 rfl (lv_at hl 1 rfl) ?_
                    obtain ⟨g210, h⟩ := jh_gd h
                    refine jr_ald (n := 42) hx hb hK hP jb_16 rfl g210 dX6_carryAll_210 ?_
                    obtain ⟨r7, M_7, e7, h⟩ := jh_b2 h
                    refine jr_km (jr_rv (As := [.int (M_6 16 9 (Int32.toNatClampNeg v3_6))]) (rest := [.int v3_6, .ref (jA X 16 9)]) S hK hP jb_16 rfl (m_X6_carry l X A hs M_6 (M_6 16 9 (Int32.toNatClampNeg v3_6)) r7 M_7 e7) jw_X6_carry ji_X6_carry jmX6_217 rfl rfl ⟨(Nat.le_of_ble_eq_true rfl), (Nat.le_of_ble_eq_true rfl)⟩ rfl hl.1 rfl (Nat.le_of_ble_eq_true rfl) dX6_carryAll_211 ⟨Nat.zero_le _, Nat.zero_le _⟩) hS (fun H locs hP hS => ?_)
                    obtain ⟨g214, h⟩ := jh_gd h
                    refine jr_ast (n := 42) hx hb hK hP hs hS jb_16 rfl g214 dX6_carryAll_214 (fun H locs hP hS => ?_)
                    refine lv_iinc (v := (v3_6 + 1)) (lv' := [(3, .int (v3_6 + 1)), (0, .ref (jO X 16))]) hx hb dX6_carryAll_215 hl (k := 1) rfl (congrArg _ jci_1) (Nat.le_of_ble_eq_true rfl) rfl (fun ls hl => ?_)
                    refine lv_goto (tgt := 193) hx hb dX6_carryAll_218 rfl ?_
                    exact ih193 (ju M_7 16 9 (Int32.toNatClampNeg v3_6) r7) _ _ (v3_6 + 1) _ h hP hS (lv_sub hl [1, 0] rfl)
              exact L193 10000 M_5 _ _ 0 _ h hP hS (lv_sub hl [1, 0] rfl)
            · replace h := jh_f h c134
              refine lv_aload_n hx hb dX6_carryAll_137 rfl (lv_at hl 0 rfl) ?_
              refine jr_get (k := 6) hx hb hts hown hK hP jb_16 (Nat.le_of_ble_eq_true rfl) jlX6_22 rfl dX6_carryAll_138 ?_
              refine lv_iload_n hx hb dX6_carryAll_141 rfl (lv_at hl 1 rfl) ?_
              refine lv_aload_n hx hb dX6_carryAll_142 rfl (lv_at hl 0 rfl) ?_
              refine lv_aload_n hx hb dX6_carryAll_143 rfl (lv_at hl 0 rfl) ?_
              refine jr_get (k := 6) hx hb hts hown hK hP jb_16 (Nat.le_of_ble_eq_true rfl) jlX6_22 rfl dX6_carryAll_144 ?_
              refine lv_iload_n hx hb dX6_carryAll_147 rfl (lv_at hl 1 rfl) ?_
              obtain ⟨g148, h⟩ := jh_gd h
              refine jr_ald (n := 6) hx hb hK hP jb_16 rfl g148 dX6_carryAll_148 ?_
              obtain ⟨r8, M_8, e8, h⟩ := jh_b2 h
              refine jr_km (jr_rv (As := [.int (M_5 16 6 (Int32.toNatClampNeg v3_5))]) (rest := [.int v3_5, .ref (jA X 16 6)]) S hK hP jb_16 rfl (m_X6_carry l X A hs M_5 (M_5 16 6 (Int32.toNatClampNeg v3_5)) r8 M_8 e8) jw_X6_carry ji_X6_carry jmX6_217 rfl rfl ⟨(Nat.le_of_ble_eq_true rfl), (Nat.le_of_ble_eq_true rfl)⟩ rfl hl.1 rfl (Nat.le_of_ble_eq_true rfl) dX6_carryAll_149 ⟨Nat.zero_le _, Nat.zero_le _⟩) hS (fun H locs hP hS => ?_)
              obtain ⟨g152, h⟩ := jh_gd h
              refine jr_ast (n := 6) hx hb hK hP hs hS jb_16 rfl g152 dX6_carryAll_152 (fun H locs hP hS => ?_)
              refine lv_aload_n hx hb dX6_carryAll_153 rfl (lv_at hl 0 rfl) ?_
              refine jr_get (k := 7) hx hb hts hown hK hP jb_16 (Nat.le_of_ble_eq_true rfl) jlX6_25 rfl dX6_carryAll_154 ?_
              refine lv_iload_n hx hb dX6_carryAll_157 rfl (lv_at hl 1 rfl) ?_
              refine lv_aload_n hx hb dX6_carryAll_158 rfl (lv_at hl 0 rfl) ?_
              refine lv_aload_n hx hb dX6_carryAll_159 rfl (lv_at hl 0 rfl) ?_
              refine jr_get (k := 7) hx hb hts hown hK hP jb_16 (Nat.le_of_ble_eq_true rfl) jlX6_25 rfl dX6_carryAll_160 ?_
              refine lv_iload_n hx hb dX6_carryAll_163 rfl (lv_at hl 1 rfl) ?_
              obtain ⟨g164, h⟩ := jh_gd h
              refine jr_ald (n := 6) hx hb hK hP jb_16 rfl g164 dX6_carryAll_164 ?_
              obtain ⟨r9, M_9, e9, h⟩ := jh_b2 h
              refine jr_km (jr_rv (As := [.int ((ju M_8 16 6 (Int32.toNatClampNeg v3_5) r8) 16 7 (Int32.toNatClampNeg v3_5))]) (rest := [.int v3_5, .ref (jA X 16 7)]) S hK hP jb_16 rfl (m_X6_carry l X A hs (ju M_8 16 6 (Int32.toNatClampNeg v3_5) r8) ((ju M_8 16 6 (Int32.toNatClampNeg v3_5) r8) 16 7 (Int32.toNatClampNeg v3_5)) r9 M_9 e9) jw_X6_carry ji_X6_carry jmX6_217 rfl rfl ⟨(Nat.le_of_ble_eq_true rfl), (Nat.le_of_ble_eq_true rfl)⟩ rfl hl.1 rfl (Nat.le_of_ble_eq_true rfl) dX6_carryAll_165 ⟨Nat.zero_le _, Nat.zero_le _⟩) hS (fun H locs hP hS => ?_)
              obtain ⟨g168, h⟩ := jh_gd h
              refine jr_ast (n := 6) hx hb hK hP hs hS jb_16 rfl g168 dX6_carryAll_168 (fun H locs hP hS => ?_)
              refine lv_aload_n hx hb dX6_carryAll_169 rfl (lv_at hl 0 rfl) ?_
              refine jr_get (k := 8) hx hb hts hown hK hP jb_16 (Nat.le_of_ble_eq_true rfl) jlX6_28 rfl dX6_carryAll_170 ?_
              refine lv_iload_n hx hb dX6_carryAll_173 rfl (lv_at hl 1 rfl) ?_
              refine lv_aload_n hx hb dX6_carryAll_174 rfl (lv_at hl 0 rfl) ?_
              refine lv_aload_n hx hb dX6_carryAll_175 rfl (lv_at hl 0 rfl) ?_
              refine jr_get (k := 8) hx hb hts hown hK hP jb_16 (Nat.le_of_ble_eq_true rfl) jlX6_28 rfl dX6_carryAll_176 ?_
              refine lv_iload_n hx hb dX6_carryAll_179 rfl (lv_at hl 1 rfl) ?_
              obtain ⟨g180, h⟩ := jh_gd h
              refine jr_ald (n := 6) hx hb hK hP jb_16 rfl g180 dX6_carryAll_180 ?_
              obtain ⟨r10, M_10, e10, h⟩ := jh_b2 h
              refine jr_km (jr_rv (As := [.int ((ju M_9 16 7 (Int32.toNatClampNeg v3_5) r9) 16 8 (Int32.toNatClampNeg v3_5))]) (rest := [.int v3_5, .ref (jA X 16 8)]) S hK hP jb_16 rfl (m_X6_carry l X A hs (ju M_9 16 7 (Int32.toNatClampNeg v3_5) r9) ((ju M_9 16 7 (Int32.toNatClampNeg v3_5) r9) 16 8 (Int32.toNatClampNeg v3_5)) r10 M_10 e10) jw_X6_carry ji_X6_carry jmX6_217 rfl rfl ⟨(Nat.le_of_ble_eq_true rfl), (Nat.le_of_ble_eq_true rfl)⟩ rfl hl.1 rfl (Nat.le_of_ble_eq_true rfl) dX6_carryAll_181 ⟨Nat.zero_le _, Nat.zero_le _⟩) hS (fun H locs hP hS => ?_)
              obtain ⟨g184, h⟩ := jh_gd h
              refine jr_ast (n := 6) hx hb hK hP hs hS jb_16 rfl g184 dX6_carryAll_184 (fun H locs hP hS => ?_)
              refine lv_iinc (v := (v3_5 + 1)) (lv' := [(3, .int (v3_5 + 1)), (0, .ref (jO X 16))]) hx hb dX6_carryAll_185 hl (k := 1) rfl (congrArg _ jci_1) (Nat.le_of_ble_eq_true rfl) rfl (fun ls hl => ?_)
              refine lv_goto (tgt := 131) hx hb dX6_carryAll_188 rfl ?_
              exact ih131 (ju M_10 16 8 (Int32.toNatClampNeg v3_5) r10) _ _ (v3_5 + 1) _ h hP hS (lv_sub hl [1, 0] rfl)
        exact L131 10000 M_4 _ _ 0 _ h hP hS (lv_sub hl [1, 0] rfl)
      · replace h := jh_f h c56
        refine lv_aload_n hx hb dX6_carryAll_59 rfl (lv_at hl 0 rfl) ?_
        refine jr_get (k := 1) hx hb hts hown hK hP jb_16 (Nat.le_of_ble_eq_true rfl) jlX6_7 rfl dX6_carryAll_60 ?_
        refine lv_iload_n hx hb dX6_carryAll_63 rfl (lv_at hl 1 rfl) ?_
        refine lv_aload_n hx hb dX6_carryAll_64 rfl (lv_at hl 0 rfl) ?_
        refine lv_aload_n hx hb dX6_carryAll_65 rfl (lv_at hl 0 rfl) ?_
        refine jr_get (k := 1) hx hb hts hown hK hP jb_16 (Nat.le_of_ble_eq_true rfl) jlX6_7 rfl dX6_carryAll_66 ?_
        refine lv_iload_n hx hb dX6_carryAll_69 rfl (lv_at hl 1 rfl) ?_
        obtain ⟨g70, h⟩ := jh_gd h
        refine jr_ald (n := 8) hx hb hK hP jb_16 rfl g70 dX6_carryAll_70 ?_
        obtain ⟨r11, M_11, e11, h⟩ := jh_b2 h
        refine jr_km (jr_rv (As := [.int (M_4 16 1 (Int32.toNatClampNeg v3_4))]) (rest := [.int v3_4, .ref (jA X 16 1)]) S hK hP jb_16 rfl (m_X6_carry l X A hs M_4 (M_4 16 1 (Int32.toNatClampNeg v3_4)) r11 M_11 e11) jw_X6_carry ji_X6_carry jmX6_217 rfl rfl ⟨(Nat.le_of_ble_eq_true rfl), (Nat.le_of_ble_eq_true rfl)⟩ rfl hl.1 rfl (Nat.le_of_ble_eq_true rfl) dX6_carryAll_71 ⟨Nat.zero_le _, Nat.zero_le _⟩) hS (fun H locs hP hS => ?_)
        obtain ⟨g74, h⟩ := jh_gd h
        refine jr_ast (n := 8) hx hb hK hP hs hS jb_16 rfl g74 dX6_carryAll_74 (fun H locs hP hS => ?_)
        refine lv_aload_n hx hb dX6_carryAll_75 rfl (lv_at hl 0 rfl) ?_
        refine jr_get (k := 2) hx hb hts hown hK hP jb_16 (Nat.le_of_ble_eq_true rfl) jlX6_13 rfl dX6_carryAll_76 ?_
        refine lv_iload_n hx hb dX6_carryAll_79 rfl (lv_at hl 1 rfl) ?_
        refine lv_aload_n hx hb dX6_carryAll_80 rfl (lv_at hl 0 rfl) ?_
        refine lv_aload_n hx hb dX6_carryAll_81 rfl (lv_at hl 0 rfl) ?_
        refine jr_get (k := 2) hx hb hts hown hK hP jb_16 (Nat.le_of_ble_eq_true rfl) jlX6_13 rfl dX6_carryAll_82 ?_
        refine lv_iload_n hx hb dX6_carryAll_85 rfl (lv_at hl 1 rfl) ?_
        obtain ⟨g86, h⟩ := jh_gd h
        refine jr_ald (n := 8) hx hb hK hP jb_16 rfl g86 dX6_carryAll_86 ?_
        obtain ⟨r12, M_12, e12, h⟩ := jh_b2 h
        refine jr_km (jr_rv (As := [.int ((ju M_11 16 1 (Int32.toNatClampNeg v3_4) r11) 16 2 (Int32.toNatClampNeg v3_4))]) (rest := [.int v3_4, .ref (jA X 16 2)]) S hK hP jb_16 rfl (m_X6_carry l X A hs (ju M_11 16 1 (Int32.toNatClampNeg v3_4) r11) ((ju M_11 16 1 (Int32.toNatClampNeg v3_4) r11) 16 2 (Int32.toNatClampNeg v3_4)) r12 M_12 e12) jw_X6_carry ji_X6_carry jmX6_217 rfl rfl ⟨(Nat.le_of_ble_eq_true rfl), (Nat.le_of_ble_eq_true rfl)⟩ rfl hl.1 rfl (Nat.le_of_ble_eq_true rfl) dX6_carryAll_87 ⟨Nat.zero_le _, Nat.zero_le _⟩) hS (fun H locs hP hS => ?_)
        obtain ⟨g90, h⟩ := jh_gd h
        refine jr_ast (n := 8) hx hb hK hP hs hS jb_16 rfl g90 dX6_carryAll_90 (fun H locs hP hS => ?_)
        refine lv_aload_n hx hb dX6_carryAll_91 rfl (lv_at hl 0 rfl) ?_
        refine jr_get (k := 3) hx hb hts hown hK hP jb_16 (Nat.le_of_ble_eq_true rfl) jlX6_16 rfl dX6_carryAll_92 ?_
        refine lv_iload_n hx hb dX6_carryAll_95 rfl (lv_at hl 1 rfl) ?_
        refine lv_aload_n hx hb dX6_carryAll_96 rfl (lv_at hl 0 rfl) ?_
        refine lv_aload_n hx hb dX6_carryAll_97 rfl (lv_at hl 0 rfl) ?_
        refine jr_get (k := 3) hx hb hts hown hK hP jb_16 (Nat.le_of_ble_eq_true rfl) jlX6_16 rfl dX6_carryAll_98 ?_
        refine lv_iload_n hx hb dX6_carryAll_101 rfl (lv_at hl 1 rfl) ?_
        obtain ⟨g102, h⟩ := jh_gd h
        refine jr_ald (n := 8) hx hb hK hP jb_16 rfl g102 dX6_carryAll_102 ?_
        obtain ⟨r13, M_13, e13, h⟩ := jh_b2 h
        refine jr_km (jr_rv (As := [.int ((ju M_12 16 2 (Int32.toNatClampNeg v3_4) r12) 16 3 (Int32.toNatClampNeg v3_4))]) (rest := [.int v3_4, .ref (jA X 16 3)]) S hK hP jb_16 rfl (m_X6_carry l X A hs (ju M_12 16 2 (Int32.toNatClampNeg v3_4) r12) ((ju M_12 16 2 (Int32.toNatClampNeg v3_4) r12) 16 3 (Int32.toNatClampNeg v3_4)) r13 M_13 e13) jw_X6_carry ji_X6_carry jmX6_217 rfl rfl ⟨(Nat.le_of_ble_eq_true rfl), (Nat.le_of_ble_eq_true rfl)⟩ rfl hl.1 rfl (Nat.le_of_ble_eq_true rfl) dX6_carryAll_103 ⟨Nat.zero_le _, Nat.zero_le _⟩) hS (fun H locs hP hS => ?_)
        obtain ⟨g106, h⟩ := jh_gd h
        refine jr_ast (n := 8) hx hb hK hP hs hS jb_16 rfl g106 dX6_carryAll_106 (fun H locs hP hS => ?_)
        refine lv_aload_n hx hb dX6_carryAll_107 rfl (lv_at hl 0 rfl) ?_
        refine jr_get (k := 4) hx hb hts hown hK hP jb_16 (Nat.le_of_ble_eq_true rfl) jlX6_19 rfl dX6_carryAll_108 ?_
        refine lv_iload_n hx hb dX6_carryAll_111 rfl (lv_at hl 1 rfl) ?_
        refine lv_aload_n hx hb dX6_carryAll_112 rfl (lv_at hl 0 rfl) ?_
        refine lv_aload_n hx hb dX6_carryAll_113 rfl (lv_at hl 0 rfl) ?_
        refine jr_get (k := 4) hx hb hts hown hK hP jb_16 (Nat.le_of_ble_eq_true rfl) jlX6_19 rfl dX6_carryAll_114 ?_
        refine lv_iload_n hx hb dX6_carryAll_117 rfl (lv_at hl 1 rfl) ?_
        obtain ⟨g118, h⟩ := jh_gd h
        refine jr_ald (n := 8) hx hb hK hP jb_16 rfl g118 dX6_carryAll_118 ?_
        obtain ⟨r14, M_14, e14, h⟩ := jh_b2 h
        refine jr_km (jr_rv (As := [.int ((ju M_13 16 3 (Int32.toNatClampNeg v3_4) r13) 16 4 (Int32.toNatClampNeg v3_4))]) (rest := [.int v3_4, .ref (jA X 16 4)]) S hK hP jb_16 rfl (m_X6_carry l X A hs (ju M_13 16 3 (Int32.toNatClampNeg v3_4) r13) ((ju M_13 16 3 (Int32.toNatClampNeg v3_4) r13) 16 4 (Int32.toNatClampNeg v3_4)) r14 M_14 e14) jw_X6_carry ji_X6_carry jmX6_217 rfl rfl ⟨(Nat.le_of_ble_eq_true rfl), (Nat.le_of_ble_eq_true rfl)⟩ rfl hl.1 rfl (Nat.le_of_ble_eq_true rfl) dX6_carryAll_119 ⟨Nat.zero_le _, Nat.zero_le _⟩) hS (fun H locs hP hS => ?_)
        obtain ⟨g122, h⟩ := jh_gd h
        refine jr_ast (n := 8) hx hb hK hP hs hS jb_16 rfl g122 dX6_carryAll_122 (fun H locs hP hS => ?_)
        refine lv_iinc (v := (v3_4 + 1)) (lv' := [(3, .int (v3_4 + 1)), (0, .ref (jO X 16))]) hx hb dX6_carryAll_123 hl (k := 1) rfl (congrArg _ jci_1) (Nat.le_of_ble_eq_true rfl) rfl (fun ls hl => ?_)
        refine lv_goto (tgt := 53) hx hb dX6_carryAll_126 rfl ?_
        exact ih53 (ju M_14 16 4 (Int32.toNatClampNeg v3_4) r14) _ _ (v3_4 + 1) _ h hP hS (lv_sub hl [1, 0] rfl)
  exact L53 10000 (ju M_3 16 10 0 r3) _ _ 0 _ h hP hS (lv_sub hl [1, 0] rfl)
def f_X6_think (M : jm) : Option jm := (jb (f_X6_carryAll M 21 1) fun M_1 => (some M_1))
set_option maxRecDepth 100000 in
theorem m_X6_think (l : Launch) (X : jX) (A : Nat → Prop) (hs : jst X A) (M : jm) (N : jm) (h : f_X6_think M = some N) : Met l yX6_think (jws yX6_think cX6_think 1 none) (jrm 2 44) (va_Pc [.ref (jO X 16)] (jB X M)) (jQm X A none N) 0 0 A := by
  refine jm_of (by decide) (Nat.le_of_ble_eq_true rfl) ?_
  intro p e s m args below meth c ls S hr hlocks hB hl
  have S : CallFix p m c cX6_think 1 s args jtb RX6 := S
  obtain ⟨hx, hb, hml, hown, hts⟩ := id S
  obtain ⟨hP, hK⟩ := hB
  have hN := hK.2
  have hS : va_S A s.heap s.heap [] := va_S.rf
  have hl : lv_has ls 1 [(0, .ref (jO X 16))] := hl
  refine lv_aload_n hx hb dX6_think_0 rfl (lv_at hl 0 rfl) ?_
  refine lv_aload_n hx hb dX6_think_1 rfl (lv_at hl 0 rfl) ?_
  refine jr_get (k := 21) hx hb hts hown hK hP jb_16 (Nat.le_of_ble_eq_true rfl) jlX6_49 rfl dX6_think_2 ?_
  refine lv_iconst (v := 1) hx hb dX6_think_5 jci_1 ?_
  obtain ⟨M_1, e1, h⟩ := jh_b h
  refine jr_kv (jr_rv (As := [.ref (jA X 16 21), .int 1]) (rest := []) S hK hP jb_16 rfl (m_X6_carryAll l X A hs M (Or.inl rfl) 1 M_1 e1) jw_X6_carryAll ji_X6_carryAll jmX6_220 rfl rfl ⟨(Nat.le_of_ble_eq_true rfl), (Nat.le_of_ble_eq_true rfl)⟩ rfl hl.1 rfl (Nat.le_of_ble_eq_true rfl) dX6_think_6 ⟨Nat.zero_le _, Nat.zero_le _⟩) hS (fun H locs hP hS => ?_)
  exact je_mv hx hb hr hlocks hK hP hS h dX6_think_9
def f_X6_again (M : jm) : Option jm := (jb (f_X6_carryAll M 21 0) fun M_1 => (some M_1))
set_option maxRecDepth 100000 in
theorem m_X6_again (l : Launch) (X : jX) (A : Nat → Prop) (hs : jst X A) (M : jm) (N : jm) (h : f_X6_again M = some N) : Met l yX6_again (jws yX6_again cX6_again 1 none) (jrm 2 44) (va_Pc [.ref (jO X 16)] (jB X M)) (jQm X A none N) 0 0 A := by
  refine jm_of (by decide) (Nat.le_of_ble_eq_true rfl) ?_
  intro p e s m args below meth c ls S hr hlocks hB hl
  have S : CallFix p m c cX6_again 1 s args jtb RX6 := S
  obtain ⟨hx, hb, hml, hown, hts⟩ := id S
  obtain ⟨hP, hK⟩ := hB
  have hN := hK.2
  have hS : va_S A s.heap s.heap [] := va_S.rf
  have hl : lv_has ls 1 [(0, .ref (jO X 16))] := hl
  refine lv_aload_n hx hb dX6_again_0 rfl (lv_at hl 0 rfl) ?_
  refine lv_aload_n hx hb dX6_again_1 rfl (lv_at hl 0 rfl) ?_
  refine jr_get (k := 21) hx hb hts hown hK hP jb_16 (Nat.le_of_ble_eq_true rfl) jlX6_49 rfl dX6_again_2 ?_
  refine lv_iconst (v := 0) hx hb dX6_again_5 jci_0 ?_
  obtain ⟨M_1, e1, h⟩ := jh_b h
  refine jr_kv (jr_rv (As := [.ref (jA X 16 21), .int 0]) (rest := []) S hK hP jb_16 rfl (m_X6_carryAll l X A hs M (Or.inl rfl) 0 M_1 e1) jw_X6_carryAll ji_X6_carryAll jmX6_220 rfl rfl ⟨(Nat.le_of_ble_eq_true rfl), (Nat.le_of_ble_eq_true rfl)⟩ rfl hl.1 rfl (Nat.le_of_ble_eq_true rfl) dX6_again_6 ⟨Nat.zero_le _, Nat.zero_le _⟩) hS (fun H locs hP hS => ?_)
  exact je_mv hx hb hr hlocks hK hP hS h dX6_again_9
def f_X6_village_l79 : Nat → jm → Int32 → Option (Int32 × jm)
  | 0, _, _ => none
  | k_4 + 1, M_4, v1_4 => (if (M_4 16 17 0) ≤ v1_4 then (some (((ju M_4 16 29 0 0) 16 17 0), (ju M_4 16 29 0 0))) else (jb2 (f_X6_comesTold M_4 v1_4) fun r5 M_5 => (if r5 = 0 then (jb (f_X6_again M_5) fun M_6 => (jgd v1_4 49 (some (((-2000) - (M_6 16 18 (Int32.toNatClampNeg v1_4))), M_6)))) else ((f_X6_village_l79 k_4) M_5 (v1_4 + 1)))))
def f_X6_village_j52 (M_2 : jm) : Option (Int32 × jm) := (if ((ju M_2 16 14 0 0) 16 16 0) = 0 then (jb (f_X6_think (ju M_2 16 14 0 0)) fun M_3 => (f_X6_village_l79 10000 M_3 0)) else (some (((-1000) - ((ju M_2 16 14 0 0) 16 15 0)), (ju M_2 16 14 0 0))))
def f_X6_village_l20 : Nat → jm → Option (Int32 × jm)
  | 0, _ => none
  | k_1 + 1, M_1 => (if (M_1 16 16 0) = 0 then (if (M_1 16 17 0) = 0 then (jb (f_X6_readStatement M_1) fun M_7 => ((f_X6_village_l20 k_1) M_7)) else (if (M_1 16 14 0) ≤ (M_1 16 15 0) then (f_X6_village_j52 M_1) else (jb (f_X6_readStatement M_1) fun M_8 => ((f_X6_village_l20 k_1) M_8)))) else (f_X6_village_j52 M_1))
def f_X6_village (M : jm) : Option (Int32 × jm) := (f_X6_village_l20 10000 (ju (ju (ju (ju M 16 11 0 0) 16 15 0 0) 16 16 0 0) 16 17 0 0))
set_option maxRecDepth 100000 in
theorem m_X6_village (l : Launch) (X : jX) (A : Nat → Prop) (hs : jst X A) (M : jm) (r : Int32) (N : jm) (h : f_X6_village M = some (r, N)) : Met l yX6_village (jws yX6_village cX6_village 2 (some .int)) (jrm 7 161) (va_Pc [.ref (jO X 16)] (jB X M)) (jQm X A (some (.int r)) N) 0 0 A := by
  refine jm_of (by decide) (Nat.le_of_ble_eq_true rfl) ?_
  intro p e s m args below meth c ls S hr hlocks hB hl
  have S : CallFix p m c cX6_village 2 s args jtb RX6 := S
  obtain ⟨hx, hb, hml, hown, hts⟩ := id S
  obtain ⟨hP, hK⟩ := hB
  have hN := hK.2
  have hS : va_S A s.heap s.heap [] := va_S.rf
  have hl : lv_has ls 2 [(0, .ref (jO X 16))] := hl
  refine lv_aload_n hx hb dX6_village_0 rfl (lv_at hl 0 rfl) ?_
  refine lv_iconst (v := 0) hx hb dX6_village_1 jci_0 ?_
  refine jr_put (k := 11) (z := 0) hx hb hts hown hK hP hs hS jb_16 (Nat.le_of_ble_eq_true rfl) jlX6_79 rfl (Or.inl rfl) rfl rfl rfl dX6_village_2 (fun H locs hP hS => ?_)
  refine lv_aload_n hx hb dX6_village_5 rfl (lv_at hl 0 rfl) ?_
  refine lv_iconst (v := 0) hx hb dX6_village_6 jci_0 ?_
  refine jr_put (k := 15) (z := 0) hx hb hts hown hK hP hs hS jb_16 (Nat.le_of_ble_eq_true rfl) jlX6_149 rfl (Or.inl rfl) rfl rfl rfl dX6_village_7 (fun H locs hP hS => ?_)
  refine lv_aload_n hx hb dX6_village_10 rfl (lv_at hl 0 rfl) ?_
  refine lv_iconst (v := 0) hx hb dX6_village_11 jci_0 ?_
  refine jr_put (k := 16) (z := 0) hx hb hts hown hK hP hs hS jb_16 (Nat.le_of_ble_eq_true rfl) jlX6_152 rfl (Or.inl rfl) rfl rfl rfl dX6_village_12 (fun H locs hP hS => ?_)
  refine lv_aload_n hx hb dX6_village_15 rfl (lv_at hl 0 rfl) ?_
  refine lv_iconst (v := 0) hx hb dX6_village_16 jci_0 ?_
  refine jr_put (k := 17) (z := 0) hx hb hts hown hK hP hs hS jb_16 (Nat.le_of_ble_eq_true rfl) jlX6_165 rfl (Or.inl rfl) rfl rfl rfl dX6_village_17 (fun H locs hP hS => ?_)
  have L20 : ∀ (k_1 : Nat) (M_1 : jm) (H : Heap) (locs : List Loc) (ls : Array Slot), f_X6_village_l20 k_1 M_1 = some (r, N) → jrp X M_1 H → va_S A s.heap H locs → lv_has ls 2 [(0, .ref (jO X 16))] → W p l e (jrm 7 161) s m args below meth c H locs 0 0 (MQ below (jQm X A (some (.int r)) N) args s 0 0 A) (F0 m 20 ls []) := by
    intro k_1
    induction k_1 with
    | zero => intro M_1 H locs ls h; exact jh_0 h
    | succ k_1 ih20 =>
      intro M_1 H locs ls h hP hS hl
      refine lv_aload_n hx hb dX6_village_20 rfl (lv_at hl 0 rfl) ?_
      refine jr_get (k := 16) hx hb hts hown hK hP jb_16 (Nat.le_of_ble_eq_true rfl) jlX6_152 rfl dX6_village_21 ?_
      have J52 : ∀ (M_2 : jm) (H : Heap) (locs : List Loc) (ls : Array Slot), f_X6_village_j52 M_2 = some (r, N) → jrp X M_2 H → va_S A s.heap H locs → lv_has ls 2 [(0, .ref (jO X 16))] → W p l e (jrm 7 161) s m args below meth c H locs 0 0 (MQ below (jQm X A (some (.int r)) N) args s 0 0 A) (F0 m 52 ls []) := by
        intro M_2 H locs ls h hP hS hl
        refine lv_aload_n hx hb dX6_village_52 rfl (lv_at hl 0 rfl) ?_
        refine lv_iconst (v := 0) hx hb dX6_village_53 jci_0 ?_
        refine jr_put (k := 14) (z := 0) hx hb hts hown hK hP hs hS jb_16 (Nat.le_of_ble_eq_true rfl) jlX6_146 rfl (Or.inl rfl) rfl rfl rfl dX6_village_54 (fun H locs hP hS => ?_)
        refine lv_aload_n hx hb dX6_village_57 rfl (lv_at hl 0 rfl) ?_
        refine jr_get (k := 16) hx hb hts hown hK hP jb_16 (Nat.le_of_ble_eq_true rfl) jlX6_152 rfl dX6_village_58 ?_
        refine lv_if_eq (tgt := 73) hx hb dX6_village_61 rfl (fun c61 => ?_) (fun c61 => ?_)
        · replace h := jh_t h c61
          refine lv_aload_n hx hb dX6_village_73 rfl (lv_at hl 0 rfl) ?_
          obtain ⟨M_3, e3, h⟩ := jh_b h
          refine jr_kv (jr_rv (As := []) (rest := []) S hK hP jb_16 rfl (m_X6_think l X A hs (ju M_2 16 14 0 0)  M_3 e3) jw_X6_think ji_X6_think jmX6_196 rfl rfl ⟨(Nat.le_of_ble_eq_true rfl), (Nat.le_of_ble_eq_true rfl)⟩ rfl hl.1 rfl (Nat.le_of_ble_eq_true rfl) dX6_village_74 ⟨Nat.zero_le _, Nat.zero_le _⟩) hS (fun H locs hP hS => ?_)
          refine lv_iconst (v := 0) hx hb dX6_village_77 jci_0 ?_
          refine lv_istore_n (lv' := [(1, .int 0), (0, .ref (jO X 16))]) hx hb dX6_village_78 rfl hl (Nat.le_of_ble_eq_true rfl) rfl (fun ls hl => ?_)
          have L79 : ∀ (k_4 : Nat) (M_4 : jm) (H : Heap) (locs : List Loc) (v1_4 : Int32) (ls : Array Slot), f_X6_village_l79 k_4 M_4 v1_4 = some (r, N) → jrp X M_4 H → va_S A s.heap H locs → lv_has ls 2 [(0, .ref (jO X 16)), (1, .int v1_4)] → W p l e (jrm 7 161) s m args below meth c H locs 0 0 (MQ below (jQm X A (some (.int r)) N) args s 0 0 A) (F0 m 79 ls []) := by
            intro k_4
            induction k_4 with
            | zero => intro M_4 H locs v1_4 ls h; exact jh_0 h
            | succ k_4 ih79 =>
              intro M_4 H locs v1_4 ls h hP hS hl
              refine lv_iload_n hx hb dX6_village_79 rfl (lv_at hl 1 rfl) ?_
              refine lv_aload_n hx hb dX6_village_80 rfl (lv_at hl 0 rfl) ?_
              refine jr_get (k := 17) hx hb hts hown hK hP jb_16 (Nat.le_of_ble_eq_true rfl) jlX6_165 rfl dX6_village_81 ?_
              refine lv_icmp_ge (tgt := 116) hx hb dX6_village_84 rfl (fun c84 => ?_) (fun c84 => ?_)
              · replace h := jh_t h c84
                refine lv_aload_n hx hb dX6_village_116 rfl (lv_at hl 0 rfl) ?_
                refine lv_iconst (v := 0) hx hb dX6_village_117 jci_0 ?_
                refine jr_put (k := 29) (z := 0) hx hb hts hown hK hP hs hS jb_16 (Nat.le_of_ble_eq_true rfl) jlX6_205 rfl (Or.inl rfl) rfl rfl rfl dX6_village_118 (fun H locs hP hS => ?_)
                refine lv_aload_n hx hb dX6_village_121 rfl (lv_at hl 0 rfl) ?_
                refine jr_get (k := 17) hx hb hts hown hK hP jb_16 (Nat.le_of_ble_eq_true rfl) jlX6_165 rfl dX6_village_122 ?_
                exact je_mi hx hb hr hlocks hK hP hS h dX6_village_125
              · replace h := jh_f h c84
                refine lv_aload_n hx hb dX6_village_87 rfl (lv_at hl 0 rfl) ?_
                refine lv_iload_n hx hb dX6_village_88 rfl (lv_at hl 1 rfl) ?_
                obtain ⟨r5, M_5, e5, h⟩ := jh_b2 h
                refine jr_km (jr_rv (As := [.int v1_4]) (rest := []) S hK hP jb_16 rfl (m_X6_comesTold l X A hs M_4 v1_4 r5 M_5 e5) jw_X6_comesTold ji_X6_comesTold jmX6_199 rfl rfl ⟨(Nat.le_of_ble_eq_true rfl), (Nat.le_of_ble_eq_true rfl)⟩ rfl hl.1 rfl (Nat.le_of_ble_eq_true rfl) dX6_village_89 ⟨Nat.zero_le _, Nat.zero_le _⟩) hS (fun H locs hP hS => ?_)
                refine lv_if_ne (tgt := 110) hx hb dX6_village_92 rfl (fun c92 => ?_) (fun c92 => ?_)
                · replace h := jh_f h c92
                  refine lv_iinc (v := (v1_4 + 1)) (lv' := [(1, .int (v1_4 + 1)), (0, .ref (jO X 16))]) hx hb dX6_village_110 hl (k := 1) rfl (congrArg _ jci_1) (Nat.le_of_ble_eq_true rfl) rfl (fun ls hl => ?_)
                  refine lv_goto (tgt := 79) hx hb dX6_village_113 rfl ?_
                  exact ih79 M_5 _ _ (v1_4 + 1) _ h hP hS (lv_sub hl [1, 0] rfl)
                · replace h := jh_t h c92
                  refine lv_aload_n hx hb dX6_village_95 rfl (lv_at hl 0 rfl) ?_
                  obtain ⟨M_6, e6, h⟩ := jh_b h
                  refine jr_kv (jr_rv (As := []) (rest := []) S hK hP jb_16 rfl (m_X6_again l X A hs M_5  M_6 e6) jw_X6_again ji_X6_again jmX6_202 rfl rfl ⟨(Nat.le_of_ble_eq_true rfl), (Nat.le_of_ble_eq_true rfl)⟩ rfl hl.1 rfl (Nat.le_of_ble_eq_true rfl) dX6_village_96 ⟨Nat.zero_le _, Nat.zero_le _⟩) hS (fun H locs hP hS => ?_)
                  refine lv_sipush (v := (-2000)) hx hb dX6_village_99 jcs_m2000 ?_
                  refine lv_aload_n hx hb dX6_village_102 rfl (lv_at hl 0 rfl) ?_
                  refine jr_get (k := 18) hx hb hts hown hK hP jb_16 (Nat.le_of_ble_eq_true rfl) jlX6_40 rfl dX6_village_103 ?_
                  refine lv_iload_n hx hb dX6_village_106 rfl (lv_at hl 1 rfl) ?_
                  obtain ⟨g107, h⟩ := jh_gd h
                  refine jr_ald (n := 49) hx hb hK hP jb_16 rfl g107 dX6_village_107 ?_
                  refine lv_isub hx hb dX6_village_108 ?_
                  exact je_mi hx hb hr hlocks hK hP hS h dX6_village_109
          exact L79 10000 M_3 _ _ 0 _ h hP hS (lv_sub hl [1, 0] rfl)
        · replace h := jh_f h c61
          refine lv_sipush (v := (-1000)) hx hb dX6_village_64 jcs_m1000 ?_
          refine lv_aload_n hx hb dX6_village_67 rfl (lv_at hl 0 rfl) ?_
          refine jr_get (k := 15) hx hb hts hown hK hP jb_16 (Nat.le_of_ble_eq_true rfl) jlX6_149 rfl dX6_village_68 ?_
          refine lv_isub hx hb dX6_village_71 ?_
          exact je_mi hx hb hr hlocks hK hP hS h dX6_village_72
      refine lv_if_ne (tgt := 52) hx hb dX6_village_24 rfl (fun c24 => ?_) (fun c24 => ?_)
      · replace h := jh_f h c24
        exact J52 M_1 _ _ _ h hP hS hl
      · replace h := jh_t h c24
        refine lv_aload_n hx hb dX6_village_27 rfl (lv_at hl 0 rfl) ?_
        refine jr_get (k := 17) hx hb hts hown hK hP jb_16 (Nat.le_of_ble_eq_true rfl) jlX6_165 rfl dX6_village_28 ?_
        refine lv_if_eq (tgt := 45) hx hb dX6_village_31 rfl (fun c31 => ?_) (fun c31 => ?_)
        · replace h := jh_t h c31
          refine lv_aload_n hx hb dX6_village_45 rfl (lv_at hl 0 rfl) ?_
          obtain ⟨M_7, e7, h⟩ := jh_b h
          refine jr_kv (jr_rv (As := []) (rest := []) S hK hP jb_16 rfl (m_X6_readStatement l X A hs M_1  M_7 e7) jw_X6_readStatement ji_X6_readStatement jmX6_193 rfl rfl ⟨(Nat.le_of_ble_eq_true rfl), (Nat.le_of_ble_eq_true rfl)⟩ rfl hl.1 rfl (Nat.le_of_ble_eq_true rfl) dX6_village_46 ⟨Nat.zero_le _, Nat.zero_le _⟩) hS (fun H locs hP hS => ?_)
          refine lv_goto (tgt := 20) hx hb dX6_village_49 rfl ?_
          exact ih20 M_7 _ _ _ h hP hS hl
        · replace h := jh_f h c31
          refine lv_aload_n hx hb dX6_village_34 rfl (lv_at hl 0 rfl) ?_
          refine jr_get (k := 15) hx hb hts hown hK hP jb_16 (Nat.le_of_ble_eq_true rfl) jlX6_149 rfl dX6_village_35 ?_
          refine lv_aload_n hx hb dX6_village_38 rfl (lv_at hl 0 rfl) ?_
          refine jr_get (k := 14) hx hb hts hown hK hP jb_16 (Nat.le_of_ble_eq_true rfl) jlX6_146 rfl dX6_village_39 ?_
          refine lv_icmp_ge (tgt := 52) hx hb dX6_village_42 rfl (fun c42 => ?_) (fun c42 => ?_)
          · replace h := jh_t h c42
            exact J52 M_1 _ _ _ h hP hS hl
          · replace h := jh_f h c42
            refine lv_aload_n hx hb dX6_village_45 rfl (lv_at hl 0 rfl) ?_
            obtain ⟨M_8, e8, h⟩ := jh_b h
            refine jr_kv (jr_rv (As := []) (rest := []) S hK hP jb_16 rfl (m_X6_readStatement l X A hs M_1  M_8 e8) jw_X6_readStatement ji_X6_readStatement jmX6_193 rfl rfl ⟨(Nat.le_of_ble_eq_true rfl), (Nat.le_of_ble_eq_true rfl)⟩ rfl hl.1 rfl (Nat.le_of_ble_eq_true rfl) dX6_village_46 ⟨Nat.zero_le _, Nat.zero_le _⟩) hS (fun H locs hP hS => ?_)
            refine lv_goto (tgt := 20) hx hb dX6_village_49 rfl ?_
            exact ih20 M_8 _ _ _ h hP hS hl
  exact L20 10000 (ju (ju (ju (ju M 16 11 0 0) 16 15 0 0) 16 16 0 0) 16 17 0 0) _ _ _ h hP hS hl
def f_X6_image (M : jm) : Option (Int32 × jm) := (jb (f_X6_carryAll (ju (ju M 16 11 0 0) 16 23 0 1) 22 1) fun M_1 => (some ((M_1 16 10 0), M_1)))
set_option maxRecDepth 100000 in
theorem m_X6_image (l : Launch) (X : jX) (A : Nat → Prop) (hs : jst X A) (M : jm) (r : Int32) (N : jm) (h : f_X6_image M = some (r, N)) : Met l yX6_image (jws yX6_image cX6_image 1 (some .int)) (jrm 2 44) (va_Pc [.ref (jO X 16)] (jB X M)) (jQm X A (some (.int r)) N) 0 0 A := by
  refine jm_of (by decide) (Nat.le_of_ble_eq_true rfl) ?_
  intro p e s m args below meth c ls S hr hlocks hB hl
  have S : CallFix p m c cX6_image 1 s args jtb RX6 := S
  obtain ⟨hx, hb, hml, hown, hts⟩ := id S
  obtain ⟨hP, hK⟩ := hB
  have hN := hK.2
  have hS : va_S A s.heap s.heap [] := va_S.rf
  have hl : lv_has ls 1 [(0, .ref (jO X 16))] := hl
  refine lv_aload_n hx hb dX6_image_0 rfl (lv_at hl 0 rfl) ?_
  refine lv_iconst (v := 0) hx hb dX6_image_1 jci_0 ?_
  refine jr_put (k := 11) (z := 0) hx hb hts hown hK hP hs hS jb_16 (Nat.le_of_ble_eq_true rfl) jlX6_79 rfl (Or.inl rfl) rfl rfl rfl dX6_image_2 (fun H locs hP hS => ?_)
  refine lv_aload_n hx hb dX6_image_5 rfl (lv_at hl 0 rfl) ?_
  refine lv_iconst (v := 1) hx hb dX6_image_6 jci_1 ?_
  refine jr_put (k := 23) (z := 1) hx hb hts hown hK hP hs hS jb_16 (Nat.le_of_ble_eq_true rfl) jlX6_224 rfl (Or.inl rfl) rfl rfl rfl dX6_image_7 (fun H locs hP hS => ?_)
  refine lv_aload_n hx hb dX6_image_10 rfl (lv_at hl 0 rfl) ?_
  refine lv_aload_n hx hb dX6_image_11 rfl (lv_at hl 0 rfl) ?_
  refine jr_get (k := 22) hx hb hts hown hK hP jb_16 (Nat.le_of_ble_eq_true rfl) jlX6_52 rfl dX6_image_12 ?_
  refine lv_iconst (v := 1) hx hb dX6_image_15 jci_1 ?_
  obtain ⟨M_1, e1, h⟩ := jh_b h
  refine jr_kv (jr_rv (As := [.ref (jA X 16 22), .int 1]) (rest := []) S hK hP jb_16 rfl (m_X6_carryAll l X A hs (ju (ju M 16 11 0 0) 16 23 0 1) (Or.inr (Or.inl rfl)) 1 M_1 e1) jw_X6_carryAll ji_X6_carryAll jmX6_220 rfl rfl ⟨(Nat.le_of_ble_eq_true rfl), (Nat.le_of_ble_eq_true rfl)⟩ rfl hl.1 rfl (Nat.le_of_ble_eq_true rfl) dX6_image_16 ⟨Nat.zero_le _, Nat.zero_le _⟩) hS (fun H locs hP hS => ?_)
  refine lv_aload_n hx hb dX6_image_19 rfl (lv_at hl 0 rfl) ?_
  refine jr_get (k := 10) hx hb hts hown hK hP jb_16 (Nat.le_of_ble_eq_true rfl) jlX6_122 rfl dX6_image_20 ?_
  exact je_mi hx hb hr hlocks hK hP hS h dX6_image_23
def f_X6_restore (M : jm) : Option (Int32 × jm) := (if ((ju M 16 11 0 0) 16 23 0) = 0 then (jb2 (f_X6_refuse (ju M 16 11 0 0) (-3)) fun r2 M_2 => (some (r2, M_2))) else (jb (f_X6_carryAll (ju M 16 11 0 0) 22 0) fun M_1 => (some (((ju M_1 16 29 0 0) 16 10 0), (ju M_1 16 29 0 0)))))
set_option maxRecDepth 100000 in
theorem m_X6_restore (l : Launch) (X : jX) (A : Nat → Prop) (hs : jst X A) (M : jm) (r : Int32) (N : jm) (h : f_X6_restore M = some (r, N)) : Met l yX6_restore (jws yX6_restore cX6_restore 1 (some .int)) (jrm 2 44) (va_Pc [.ref (jO X 16)] (jB X M)) (jQm X A (some (.int r)) N) 0 0 A := by
  refine jm_of (by decide) (Nat.le_of_ble_eq_true rfl) ?_
  intro p e s m args below meth c ls S hr hlocks hB hl
  have S : CallFix p m c cX6_restore 1 s args jtb RX6 := S
  obtain ⟨hx, hb, hml, hown, hts⟩ := id S
  obtain ⟨hP, hK⟩ := hB
  have hN := hK.2
  have hS : va_S A s.heap s.heap [] := va_S.rf
  have hl : lv_has ls 1 [(0, .ref (jO X 16))] := hl
  refine lv_aload_n hx hb dX6_restore_0 rfl (lv_at hl 0 rfl) ?_
  refine lv_iconst (v := 0) hx hb dX6_restore_1 jci_0 ?_
  refine jr_put (k := 11) (z := 0) hx hb hts hown hK hP hs hS jb_16 (Nat.le_of_ble_eq_true rfl) jlX6_79 rfl (Or.inl rfl) rfl rfl rfl dX6_restore_2 (fun H locs hP hS => ?_)
  refine lv_aload_n hx hb dX6_restore_5 rfl (lv_at hl 0 rfl) ?_
  refine jr_get (k := 23) hx hb hts hown hK hP jb_16 (Nat.le_of_ble_eq_true rfl) jlX6_224 rfl dX6_restore_6 ?_
  refine lv_if_ne (tgt := 19) hx hb dX6_restore_9 rfl (fun c9 => ?_) (fun c9 => ?_)
  · replace h := jh_f h c9
    refine lv_aload_n hx hb dX6_restore_19 rfl (lv_at hl 0 rfl) ?_
    refine lv_aload_n hx hb dX6_restore_20 rfl (lv_at hl 0 rfl) ?_
    refine jr_get (k := 22) hx hb hts hown hK hP jb_16 (Nat.le_of_ble_eq_true rfl) jlX6_52 rfl dX6_restore_21 ?_
    refine lv_iconst (v := 0) hx hb dX6_restore_24 jci_0 ?_
    obtain ⟨M_1, e1, h⟩ := jh_b h
    refine jr_kv (jr_rv (As := [.ref (jA X 16 22), .int 0]) (rest := []) S hK hP jb_16 rfl (m_X6_carryAll l X A hs (ju M 16 11 0 0) (Or.inr (Or.inl rfl)) 0 M_1 e1) jw_X6_carryAll ji_X6_carryAll jmX6_220 rfl rfl ⟨(Nat.le_of_ble_eq_true rfl), (Nat.le_of_ble_eq_true rfl)⟩ rfl hl.1 rfl (Nat.le_of_ble_eq_true rfl) dX6_restore_25 ⟨Nat.zero_le _, Nat.zero_le _⟩) hS (fun H locs hP hS => ?_)
    refine lv_aload_n hx hb dX6_restore_28 rfl (lv_at hl 0 rfl) ?_
    refine lv_iconst (v := 0) hx hb dX6_restore_29 jci_0 ?_
    refine jr_put (k := 29) (z := 0) hx hb hts hown hK hP hs hS jb_16 (Nat.le_of_ble_eq_true rfl) jlX6_205 rfl (Or.inl rfl) rfl rfl rfl dX6_restore_30 (fun H locs hP hS => ?_)
    refine lv_aload_n hx hb dX6_restore_33 rfl (lv_at hl 0 rfl) ?_
    refine jr_get (k := 10) hx hb hts hown hK hP jb_16 (Nat.le_of_ble_eq_true rfl) jlX6_122 rfl dX6_restore_34 ?_
    exact je_mi hx hb hr hlocks hK hP hS h dX6_restore_37
  · replace h := jh_t h c9
    refine lv_aload_n hx hb dX6_restore_12 rfl (lv_at hl 0 rfl) ?_
    refine lv_bipush (v := (-3)) hx hb dX6_restore_13 jcb_m3 ?_
    obtain ⟨r2, M_2, e2, h⟩ := jh_b2 h
    refine jr_km (jr_rv (As := [.int (-3)]) (rest := []) S hK hP jb_16 rfl (m_X6_refuse l X A hs (ju M 16 11 0 0) (-3) r2 M_2 e2) jw_X6_refuse ji_X6_refuse jmX6_143 rfl rfl ⟨(Nat.le_of_ble_eq_true rfl), (Nat.le_of_ble_eq_true rfl)⟩ rfl hl.1 rfl (Nat.le_of_ble_eq_true rfl) dX6_restore_15 ⟨Nat.zero_le _, Nat.zero_le _⟩) hS (fun H locs hP hS => ?_)
    exact je_mi hx hb hr hlocks hK hP hS h dX6_restore_18
def f_X6_keepTurn_l61 : Nat → jm → Int32 → Option jm
  | 0, _, _ => none
  | k_3 + 1, M_3, v1_3 => (if 91 ≤ v1_3 then (some (ju M_3 16 29 0 ((M_3 16 29 0) + 1))) else (jgd v1_3 91 (jgd ((91 * (M_3 16 29 0)) + v1_3) 728 ((f_X6_keepTurn_l61 k_3) (ju M_3 16 27 (Int32.toNatClampNeg ((91 * (M_3 16 29 0)) + v1_3)) (M_3 16 28 (Int32.toNatClampNeg v1_3))) (v1_3 + 1)))))
def f_X6_keepTurn_j50 (M_1 : jm) : Option jm := (jb (f_X6_carryAll M_1 28 1) fun M_2 => (f_X6_keepTurn_l61 10000 M_2 0))
def f_X6_keepTurn_l12 : Nat → jm → Int32 → Option jm
  | 0, _, _ => none
  | k_4 + 1, M_4, v1_4 => (if 728 ≤ v1_4 then (f_X6_keepTurn_j50 (ju M_4 16 29 0 ((M_4 16 29 0) - 1))) else (jgd v1_4 728 (jgd (v1_4 - 91) 728 ((f_X6_keepTurn_l12 k_4) (ju M_4 16 27 (Int32.toNatClampNeg (v1_4 - 91)) (M_4 16 27 (Int32.toNatClampNeg v1_4))) (v1_4 + 1)))))
def f_X6_keepTurn (M : jm) : Option jm := (if (M 16 29 0) = 8 then (f_X6_keepTurn_l12 10000 M 91) else (f_X6_keepTurn_j50 M))
set_option maxRecDepth 100000 in
theorem m_X6_keepTurn (l : Launch) (X : jX) (A : Nat → Prop) (hs : jst X A) (M : jm) (N : jm) (h : f_X6_keepTurn M = some N) : Met l yX6_keepTurn (jws yX6_keepTurn cX6_keepTurn 2 none) (jrm 2 44) (va_Pc [.ref (jO X 16)] (jB X M)) (jQm X A none N) 0 0 A := by
  refine jm_of (by decide) (Nat.le_of_ble_eq_true rfl) ?_
  intro p e s m args below meth c ls S hr hlocks hB hl
  have S : CallFix p m c cX6_keepTurn 2 s args jtb RX6 := S
  obtain ⟨hx, hb, hml, hown, hts⟩ := id S
  obtain ⟨hP, hK⟩ := hB
  have hN := hK.2
  have hS : va_S A s.heap s.heap [] := va_S.rf
  have hl : lv_has ls 2 [(0, .ref (jO X 16))] := hl
  refine lv_aload_n hx hb dX6_keepTurn_0 rfl (lv_at hl 0 rfl) ?_
  refine jr_get (k := 29) hx hb hts hown hK hP jb_16 (Nat.le_of_ble_eq_true rfl) jlX6_205 rfl dX6_keepTurn_1 ?_
  refine lv_bipush (v := 8) hx hb dX6_keepTurn_4 jcb_8 ?_
  have J50 : ∀ (M_1 : jm) (H : Heap) (locs : List Loc) (ls : Array Slot), f_X6_keepTurn_j50 M_1 = some N → jrp X M_1 H → va_S A s.heap H locs → lv_has ls 2 [(0, .ref (jO X 16))] → W p l e (jrm 2 44) s m args below meth c H locs 0 0 (MQ below (jQm X A none N) args s 0 0 A) (F0 m 50 ls []) := by
    intro M_1 H locs ls h hP hS hl
    refine lv_aload_n hx hb dX6_keepTurn_50 rfl (lv_at hl 0 rfl) ?_
    refine lv_aload_n hx hb dX6_keepTurn_51 rfl (lv_at hl 0 rfl) ?_
    refine jr_get (k := 28) hx hb hts hown hK hP jb_16 (Nat.le_of_ble_eq_true rfl) jlX6_58 rfl dX6_keepTurn_52 ?_
    refine lv_iconst (v := 1) hx hb dX6_keepTurn_55 jci_1 ?_
    obtain ⟨M_2, e2, h⟩ := jh_b h
    refine jr_kv (jr_rv (As := [.ref (jA X 16 28), .int 1]) (rest := []) S hK hP jb_16 rfl (m_X6_carryAll l X A hs M_1 (Or.inr (Or.inr rfl)) 1 M_2 e2) jw_X6_carryAll ji_X6_carryAll jmX6_220 rfl rfl ⟨(Nat.le_of_ble_eq_true rfl), (Nat.le_of_ble_eq_true rfl)⟩ rfl hl.1 rfl (Nat.le_of_ble_eq_true rfl) dX6_keepTurn_56 ⟨Nat.zero_le _, Nat.zero_le _⟩) hS (fun H locs hP hS => ?_)
    refine lv_iconst (v := 0) hx hb dX6_keepTurn_59 jci_0 ?_
    refine lv_istore_n (lv' := [(1, .int 0), (0, .ref (jO X 16))]) hx hb dX6_keepTurn_60 rfl hl (Nat.le_of_ble_eq_true rfl) rfl (fun ls hl => ?_)
    have L61 : ∀ (k_3 : Nat) (M_3 : jm) (H : Heap) (locs : List Loc) (v1_3 : Int32) (ls : Array Slot), f_X6_keepTurn_l61 k_3 M_3 v1_3 = some N → jrp X M_3 H → va_S A s.heap H locs → lv_has ls 2 [(0, .ref (jO X 16)), (1, .int v1_3)] → W p l e (jrm 2 44) s m args below meth c H locs 0 0 (MQ below (jQm X A none N) args s 0 0 A) (F0 m 61 ls []) := by
      intro k_3
      induction k_3 with
      | zero => intro M_3 H locs v1_3 ls h; exact jh_0 h
      | succ k_3 ih61 =>
        intro M_3 H locs v1_3 ls h hP hS hl
        refine lv_iload_n hx hb dX6_keepTurn_61 rfl (lv_at hl 1 rfl) ?_
        refine lv_bipush (v := 91) hx hb dX6_keepTurn_62 jcb_91 ?_
        refine lv_icmp_ge (tgt := 93) hx hb dX6_keepTurn_64 rfl (fun c64 => ?_) (fun c64 => ?_)
        · replace h := jh_t h c64
          refine lv_aload_n hx hb dX6_keepTurn_93 rfl (lv_at hl 0 rfl) ?_
          refine lv_dup hx hb dX6_keepTurn_94 rfl ?_
          refine jr_get (k := 29) hx hb hts hown hK hP jb_16 (Nat.le_of_ble_eq_true rfl) jlX6_205 rfl dX6_keepTurn_95 ?_
          refine lv_iconst (v := 1) hx hb dX6_keepTurn_98 jci_1 ?_
          refine lv_iadd hx hb dX6_keepTurn_99 ?_
          refine jr_put (k := 29) (z := ((M_3 16 29 0) + 1)) hx hb hts hown hK hP hs hS jb_16 (Nat.le_of_ble_eq_true rfl) jlX6_205 rfl (Or.inl rfl) rfl rfl rfl dX6_keepTurn_100 (fun H locs hP hS => ?_)
          exact je_mv hx hb hr hlocks hK hP hS h dX6_keepTurn_103
        · replace h := jh_f h c64
          refine lv_aload_n hx hb dX6_keepTurn_67 rfl (lv_at hl 0 rfl) ?_
          refine jr_get (k := 27) hx hb hts hown hK hP jb_16 (Nat.le_of_ble_eq_true rfl) jlX6_55 rfl dX6_keepTurn_68 ?_
          refine lv_bipush (v := 91) hx hb dX6_keepTurn_71 jcb_91 ?_
          refine lv_aload_n hx hb dX6_keepTurn_73 rfl (lv_at hl 0 rfl) ?_
          refine jr_get (k := 29) hx hb hts hown hK hP jb_16 (Nat.le_of_ble_eq_true rfl) jlX6_205 rfl dX6_keepTurn_74 ?_
          refine lv_imul hx hb dX6_keepTurn_77 ?_
          refine lv_iload_n hx hb dX6_keepTurn_78 rfl (lv_at hl 1 rfl) ?_
          refine lv_iadd hx hb dX6_keepTurn_79 ?_
          refine lv_aload_n hx hb dX6_keepTurn_80 rfl (lv_at hl 0 rfl) ?_
          refine jr_get (k := 28) hx hb hts hown hK hP jb_16 (Nat.le_of_ble_eq_true rfl) jlX6_58 rfl dX6_keepTurn_81 ?_
          refine lv_iload_n hx hb dX6_keepTurn_84 rfl (lv_at hl 1 rfl) ?_
          obtain ⟨g85, h⟩ := jh_gd h
          refine jr_ald (n := 91) hx hb hK hP jb_16 rfl g85 dX6_keepTurn_85 ?_
          obtain ⟨g86, h⟩ := jh_gd h
          refine jr_ast (n := 728) hx hb hK hP hs hS jb_16 rfl g86 dX6_keepTurn_86 (fun H locs hP hS => ?_)
          refine lv_iinc (v := (v1_3 + 1)) (lv' := [(1, .int (v1_3 + 1)), (0, .ref (jO X 16))]) hx hb dX6_keepTurn_87 hl (k := 1) rfl (congrArg _ jci_1) (Nat.le_of_ble_eq_true rfl) rfl (fun ls hl => ?_)
          refine lv_goto (tgt := 61) hx hb dX6_keepTurn_90 rfl ?_
          exact ih61 (ju M_3 16 27 (Int32.toNatClampNeg ((91 * (M_3 16 29 0)) + v1_3)) (M_3 16 28 (Int32.toNatClampNeg v1_3))) _ _ (v1_3 + 1) _ h hP hS (lv_sub hl [1, 0] rfl)
    exact L61 10000 M_2 _ _ 0 _ h hP hS (lv_sub hl [1, 0] rfl)
  refine lv_icmp_ne (tgt := 50) hx hb dX6_keepTurn_6 rfl (fun c6 => ?_) (fun c6 => ?_)
  · replace h := jh_f h c6
    exact J50 M _ _ _ h hP hS hl
  · replace h := jh_t h c6
    refine lv_bipush (v := 91) hx hb dX6_keepTurn_9 jcb_91 ?_
    refine lv_istore_n (lv' := [(1, .int 91), (0, .ref (jO X 16))]) hx hb dX6_keepTurn_11 rfl hl (Nat.le_of_ble_eq_true rfl) rfl (fun ls hl => ?_)
    have L12 : ∀ (k_4 : Nat) (M_4 : jm) (H : Heap) (locs : List Loc) (v1_4 : Int32) (ls : Array Slot), f_X6_keepTurn_l12 k_4 M_4 v1_4 = some N → jrp X M_4 H → va_S A s.heap H locs → lv_has ls 2 [(0, .ref (jO X 16)), (1, .int v1_4)] → W p l e (jrm 2 44) s m args below meth c H locs 0 0 (MQ below (jQm X A none N) args s 0 0 A) (F0 m 12 ls []) := by
      intro k_4
      induction k_4 with
      | zero => intro M_4 H locs v1_4 ls h; exact jh_0 h
      | succ k_4 ih12 =>
        intro M_4 H locs v1_4 ls h hP hS hl
        refine lv_iload_n hx hb dX6_keepTurn_12 rfl (lv_at hl 1 rfl) ?_
        refine lv_sipush (v := 728) hx hb dX6_keepTurn_13 jcs_728 ?_
        refine lv_icmp_ge (tgt := 40) hx hb dX6_keepTurn_16 rfl (fun c16 => ?_) (fun c16 => ?_)
        · replace h := jh_t h c16
          refine lv_aload_n hx hb dX6_keepTurn_40 rfl (lv_at hl 0 rfl) ?_
          refine lv_dup hx hb dX6_keepTurn_41 rfl ?_
          refine jr_get (k := 29) hx hb hts hown hK hP jb_16 (Nat.le_of_ble_eq_true rfl) jlX6_205 rfl dX6_keepTurn_42 ?_
          refine lv_iconst (v := 1) hx hb dX6_keepTurn_45 jci_1 ?_
          refine lv_isub hx hb dX6_keepTurn_46 ?_
          refine jr_put (k := 29) (z := ((M_4 16 29 0) - 1)) hx hb hts hown hK hP hs hS jb_16 (Nat.le_of_ble_eq_true rfl) jlX6_205 rfl (Or.inl rfl) rfl rfl rfl dX6_keepTurn_47 (fun H locs hP hS => ?_)
          exact J50 (ju M_4 16 29 0 ((M_4 16 29 0) - 1)) _ _ _ h hP hS (lv_sub hl [0] rfl)
        · replace h := jh_f h c16
          refine lv_aload_n hx hb dX6_keepTurn_19 rfl (lv_at hl 0 rfl) ?_
          refine jr_get (k := 27) hx hb hts hown hK hP jb_16 (Nat.le_of_ble_eq_true rfl) jlX6_55 rfl dX6_keepTurn_20 ?_
          refine lv_iload_n hx hb dX6_keepTurn_23 rfl (lv_at hl 1 rfl) ?_
          refine lv_bipush (v := 91) hx hb dX6_keepTurn_24 jcb_91 ?_
          refine lv_isub hx hb dX6_keepTurn_26 ?_
          refine lv_aload_n hx hb dX6_keepTurn_27 rfl (lv_at hl 0 rfl) ?_
          refine jr_get (k := 27) hx hb hts hown hK hP jb_16 (Nat.le_of_ble_eq_true rfl) jlX6_55 rfl dX6_keepTurn_28 ?_
          refine lv_iload_n hx hb dX6_keepTurn_31 rfl (lv_at hl 1 rfl) ?_
          obtain ⟨g32, h⟩ := jh_gd h
          refine jr_ald (n := 728) hx hb hK hP jb_16 rfl g32 dX6_keepTurn_32 ?_
          obtain ⟨g33, h⟩ := jh_gd h
          refine jr_ast (n := 728) hx hb hK hP hs hS jb_16 rfl g33 dX6_keepTurn_33 (fun H locs hP hS => ?_)
          refine lv_iinc (v := (v1_4 + 1)) (lv' := [(1, .int (v1_4 + 1)), (0, .ref (jO X 16))]) hx hb dX6_keepTurn_34 hl (k := 1) rfl (congrArg _ jci_1) (Nat.le_of_ble_eq_true rfl) rfl (fun ls hl => ?_)
          refine lv_goto (tgt := 12) hx hb dX6_keepTurn_37 rfl ?_
          exact ih12 (ju M_4 16 27 (Int32.toNatClampNeg (v1_4 - 91)) (M_4 16 27 (Int32.toNatClampNeg v1_4))) _ _ (v1_4 + 1) _ h hP hS (lv_sub hl [1, 0] rfl)
    exact L12 10000 M _ _ 91 _ h hP hS (lv_sub hl [1, 0] rfl)
def f_X6_back_l31 : Nat → jm → Int32 → Option (Int32 × jm)
  | 0, _, _ => none
  | k_1 + 1, M_1, v1_1 => (if 91 ≤ v1_1 then (jb (f_X6_carryAll M_1 28 0) fun M_2 => (some ((M_2 16 29 0), M_2))) else (jgd ((91 * (M_1 16 29 0)) + v1_1) 728 (jgd v1_1 91 ((f_X6_back_l31 k_1) (ju M_1 16 28 (Int32.toNatClampNeg v1_1) (M_1 16 27 (Int32.toNatClampNeg ((91 * (M_1 16 29 0)) + v1_1)))) (v1_1 + 1)))))
def f_X6_back (M : jm) : Option (Int32 × jm) := (if ((ju M 16 11 0 0) 16 29 0) = 0 then (jb2 (f_X6_refuse (ju M 16 11 0 0) (-3)) fun r3 M_3 => (some (r3, M_3))) else (f_X6_back_l31 10000 (ju (ju M 16 11 0 0) 16 29 0 (((ju M 16 11 0 0) 16 29 0) - 1)) 0))
set_option maxRecDepth 100000 in
theorem m_X6_back (l : Launch) (X : jX) (A : Nat → Prop) (hs : jst X A) (M : jm) (r : Int32) (N : jm) (h : f_X6_back M = some (r, N)) : Met l yX6_back (jws yX6_back cX6_back 2 (some .int)) (jrm 2 44) (va_Pc [.ref (jO X 16)] (jB X M)) (jQm X A (some (.int r)) N) 0 0 A := by
  refine jm_of (by decide) (Nat.le_of_ble_eq_true rfl) ?_
  intro p e s m args below meth c ls S hr hlocks hB hl
  have S : CallFix p m c cX6_back 2 s args jtb RX6 := S
  obtain ⟨hx, hb, hml, hown, hts⟩ := id S
  obtain ⟨hP, hK⟩ := hB
  have hN := hK.2
  have hS : va_S A s.heap s.heap [] := va_S.rf
  have hl : lv_has ls 2 [(0, .ref (jO X 16))] := hl
  refine lv_aload_n hx hb dX6_back_0 rfl (lv_at hl 0 rfl) ?_
  refine lv_iconst (v := 0) hx hb dX6_back_1 jci_0 ?_
  refine jr_put (k := 11) (z := 0) hx hb hts hown hK hP hs hS jb_16 (Nat.le_of_ble_eq_true rfl) jlX6_79 rfl (Or.inl rfl) rfl rfl rfl dX6_back_2 (fun H locs hP hS => ?_)
  refine lv_aload_n hx hb dX6_back_5 rfl (lv_at hl 0 rfl) ?_
  refine jr_get (k := 29) hx hb hts hown hK hP jb_16 (Nat.le_of_ble_eq_true rfl) jlX6_205 rfl dX6_back_6 ?_
  refine lv_if_ne (tgt := 19) hx hb dX6_back_9 rfl (fun c9 => ?_) (fun c9 => ?_)
  · replace h := jh_f h c9
    refine lv_aload_n hx hb dX6_back_19 rfl (lv_at hl 0 rfl) ?_
    refine lv_dup hx hb dX6_back_20 rfl ?_
    refine jr_get (k := 29) hx hb hts hown hK hP jb_16 (Nat.le_of_ble_eq_true rfl) jlX6_205 rfl dX6_back_21 ?_
    refine lv_iconst (v := 1) hx hb dX6_back_24 jci_1 ?_
    refine lv_isub hx hb dX6_back_25 ?_
    refine jr_put (k := 29) (z := (((ju M 16 11 0 0) 16 29 0) - 1)) hx hb hts hown hK hP hs hS jb_16 (Nat.le_of_ble_eq_true rfl) jlX6_205 rfl (Or.inl rfl) rfl rfl rfl dX6_back_26 (fun H locs hP hS => ?_)
    refine lv_iconst (v := 0) hx hb dX6_back_29 jci_0 ?_
    refine lv_istore_n (lv' := [(1, .int 0), (0, .ref (jO X 16))]) hx hb dX6_back_30 rfl hl (Nat.le_of_ble_eq_true rfl) rfl (fun ls hl => ?_)
    have L31 : ∀ (k_1 : Nat) (M_1 : jm) (H : Heap) (locs : List Loc) (v1_1 : Int32) (ls : Array Slot), f_X6_back_l31 k_1 M_1 v1_1 = some (r, N) → jrp X M_1 H → va_S A s.heap H locs → lv_has ls 2 [(0, .ref (jO X 16)), (1, .int v1_1)] → W p l e (jrm 2 44) s m args below meth c H locs 0 0 (MQ below (jQm X A (some (.int r)) N) args s 0 0 A) (F0 m 31 ls []) := by
      intro k_1
      induction k_1 with
      | zero => intro M_1 H locs v1_1 ls h; exact jh_0 h
      | succ k_1 ih31 =>
        intro M_1 H locs v1_1 ls h hP hS hl
        refine lv_iload_n hx hb dX6_back_31 rfl (lv_at hl 1 rfl) ?_
        refine lv_bipush (v := 91) hx hb dX6_back_32 jcb_91 ?_
        refine lv_icmp_ge (tgt := 63) hx hb dX6_back_34 rfl (fun c34 => ?_) (fun c34 => ?_)
        · replace h := jh_t h c34
          refine lv_aload_n hx hb dX6_back_63 rfl (lv_at hl 0 rfl) ?_
          refine lv_aload_n hx hb dX6_back_64 rfl (lv_at hl 0 rfl) ?_
          refine jr_get (k := 28) hx hb hts hown hK hP jb_16 (Nat.le_of_ble_eq_true rfl) jlX6_58 rfl dX6_back_65 ?_
          refine lv_iconst (v := 0) hx hb dX6_back_68 jci_0 ?_
          obtain ⟨M_2, e2, h⟩ := jh_b h
          refine jr_kv (jr_rv (As := [.ref (jA X 16 28), .int 0]) (rest := []) S hK hP jb_16 rfl (m_X6_carryAll l X A hs M_1 (Or.inr (Or.inr rfl)) 0 M_2 e2) jw_X6_carryAll ji_X6_carryAll jmX6_220 rfl rfl ⟨(Nat.le_of_ble_eq_true rfl), (Nat.le_of_ble_eq_true rfl)⟩ rfl hl.1 rfl (Nat.le_of_ble_eq_true rfl) dX6_back_69 ⟨Nat.zero_le _, Nat.zero_le _⟩) hS (fun H locs hP hS => ?_)
          refine lv_aload_n hx hb dX6_back_72 rfl (lv_at hl 0 rfl) ?_
          refine jr_get (k := 29) hx hb hts hown hK hP jb_16 (Nat.le_of_ble_eq_true rfl) jlX6_205 rfl dX6_back_73 ?_
          exact je_mi hx hb hr hlocks hK hP hS h dX6_back_76
        · replace h := jh_f h c34
          refine lv_aload_n hx hb dX6_back_37 rfl (lv_at hl 0 rfl) ?_
          refine jr_get (k := 28) hx hb hts hown hK hP jb_16 (Nat.le_of_ble_eq_true rfl) jlX6_58 rfl dX6_back_38 ?_
          refine lv_iload_n hx hb dX6_back_41 rfl (lv_at hl 1 rfl) ?_
          refine lv_aload_n hx hb dX6_back_42 rfl (lv_at hl 0 rfl) ?_
          refine jr_get (k := 27) hx hb hts hown hK hP jb_16 (Nat.le_of_ble_eq_true rfl) jlX6_55 rfl dX6_back_43 ?_
          refine lv_bipush (v := 91) hx hb dX6_back_46 jcb_91 ?_
          refine lv_aload_n hx hb dX6_back_48 rfl (lv_at hl 0 rfl) ?_
          refine jr_get (k := 29) hx hb hts hown hK hP jb_16 (Nat.le_of_ble_eq_true rfl) jlX6_205 rfl dX6_back_49 ?_
          refine lv_imul hx hb dX6_back_52 ?_
          refine lv_iload_n hx hb dX6_back_53 rfl (lv_at hl 1 rfl) ?_
          refine lv_iadd hx hb dX6_back_54 ?_
          obtain ⟨g55, h⟩ := jh_gd h
          refine jr_ald (n := 728) hx hb hK hP jb_16 rfl g55 dX6_back_55 ?_
          obtain ⟨g56, h⟩ := jh_gd h
          refine jr_ast (n := 91) hx hb hK hP hs hS jb_16 rfl g56 dX6_back_56 (fun H locs hP hS => ?_)
          refine lv_iinc (v := (v1_1 + 1)) (lv' := [(1, .int (v1_1 + 1)), (0, .ref (jO X 16))]) hx hb dX6_back_57 hl (k := 1) rfl (congrArg _ jci_1) (Nat.le_of_ble_eq_true rfl) rfl (fun ls hl => ?_)
          refine lv_goto (tgt := 31) hx hb dX6_back_60 rfl ?_
          exact ih31 (ju M_1 16 28 (Int32.toNatClampNeg v1_1) (M_1 16 27 (Int32.toNatClampNeg ((91 * (M_1 16 29 0)) + v1_1)))) _ _ (v1_1 + 1) _ h hP hS (lv_sub hl [1, 0] rfl)
    exact L31 10000 (ju (ju M 16 11 0 0) 16 29 0 (((ju M 16 11 0 0) 16 29 0) - 1)) _ _ 0 _ h hP hS (lv_sub hl [1, 0] rfl)
  · replace h := jh_t h c9
    refine lv_aload_n hx hb dX6_back_12 rfl (lv_at hl 0 rfl) ?_
    refine lv_bipush (v := (-3)) hx hb dX6_back_13 jcb_m3 ?_
    obtain ⟨r3, M_3, e3, h⟩ := jh_b2 h
    refine jr_km (jr_rv (As := [.int (-3)]) (rest := []) S hK hP jb_16 rfl (m_X6_refuse l X A hs (ju M 16 11 0 0) (-3) r3 M_3 e3) jw_X6_refuse ji_X6_refuse jmX6_143 rfl rfl ⟨(Nat.le_of_ble_eq_true rfl), (Nat.le_of_ble_eq_true rfl)⟩ rfl hl.1 rfl (Nat.le_of_ble_eq_true rfl) dX6_back_15 ⟨Nat.zero_le _, Nat.zero_le _⟩) hS (fun H locs hP hS => ?_)
    exact je_mi hx hb hr hlocks hK hP hS h dX6_back_18
def f_X6_seersOf_l4 (M : jm) (v1_1 : Int32) : Nat → Int32 → Int32 → Option Int32
  | 0, _, _ => none
  | k_1 + 1, v2_1, v3_1 => (if (M 16 5 0) ≤ v3_1 then (some v2_1) else (jgd v3_1 6 (jb (f_X6_canSee M v3_1 (M 16 6 (Int32.toNatClampNeg v3_1)) v1_1) fun r2 => (if r2 = 0 then ((f_X6_seersOf_l4 M v1_1 k_1) (v2_1 ||| 0) (v3_1 + 1)) else ((f_X6_seersOf_l4 M v1_1 k_1) (v2_1 ||| ((1 : Int32) <<< (v3_1 &&& 31))) (v3_1 + 1))))))
def f_X6_seersOf (M : jm) (v1 : Int32) : Option Int32 := (f_X6_seersOf_l4 M v1 10000 0 0)
set_option maxRecDepth 100000 in
theorem m_X6_seersOf (l : Launch) (X : jX) (M : jm) (v1 : Int32) (r : Int32) (h : f_X6_seersOf M v1 = some r) : Met l yX6_seersOf (jws yX6_seersOf cX6_seersOf 4 (some .int)) (jrm 3 66) (va_Pc [.ref (jO X 16), .int v1] (jB X M)) (jQ (.int r)) 0 0 (fun _ => False) := by
  refine jm_of (by decide) (Nat.le_of_ble_eq_true rfl) ?_
  intro p e s m args below meth c ls S hr hlocks hB hl
  have S : CallFix p m c cX6_seersOf 4 s args jtb RX6 := S
  obtain ⟨hx, hb, hml, hown, hts⟩ := id S
  obtain ⟨hP, hK⟩ := hB
  have hN := hK.2
  have hl : lv_has ls 4 [(0, .ref (jO X 16)), (1, .int v1)] := hl
  refine lv_iconst (v := 0) hx hb dX6_seersOf_0 jci_0 ?_
  refine lv_istore_n (lv' := [(2, .int 0), (0, .ref (jO X 16)), (1, .int v1)]) hx hb dX6_seersOf_1 rfl hl (Nat.le_of_ble_eq_true rfl) rfl (fun ls hl => ?_)
  refine lv_iconst (v := 0) hx hb dX6_seersOf_2 jci_0 ?_
  refine lv_istore_n (lv' := [(3, .int 0), (2, .int 0), (0, .ref (jO X 16)), (1, .int v1)]) hx hb dX6_seersOf_3 rfl hl (Nat.le_of_ble_eq_true rfl) rfl (fun ls hl => ?_)
  have L4 : ∀ (v1_1 : Int32) (k_1 : Nat) (v2_1 : Int32) (v3_1 : Int32) (ls : Array Slot), f_X6_seersOf_l4 M v1_1 k_1 v2_1 v3_1 = some r → lv_has ls 4 [(0, .ref (jO X 16)), (1, .int v1_1), (2, .int v2_1), (3, .int v3_1)] → W p l e (jrm 3 66) s m args below meth c s.heap [] 0 0 (MQ below (jQ (.int r)) args s 0 0 (fun _ => False)) (F0 m 4 ls []) := by
    intro v1_1 k_1
    induction k_1 with
    | zero => intro v2_1 v3_1 ls h; exact jh_0 h
    | succ k_1 ih4 =>
      intro v2_1 v3_1 ls h hl
      refine lv_iload_n hx hb dX6_seersOf_4 rfl (lv_at hl 3 rfl) ?_
      refine lv_aload_n hx hb dX6_seersOf_5 rfl (lv_at hl 0 rfl) ?_
      refine jr_get (k := 5) hx hb hts hown hK hP jb_16 (Nat.le_of_ble_eq_true rfl) jlX6_92 rfl dX6_seersOf_6 ?_
      refine lv_icmp_ge (tgt := 43) hx hb dX6_seersOf_9 rfl (fun c9 => ?_) (fun c9 => ?_)
      · replace h := jh_t h c9
        refine lv_iload_n hx hb dX6_seersOf_43 rfl (lv_at hl 2 rfl) ?_
        exact je_i hx hb hr hlocks (Option.some.inj h) dX6_seersOf_44
      · replace h := jh_f h c9
        refine lv_iload_n hx hb dX6_seersOf_12 rfl (lv_at hl 2 rfl) ?_
        refine lv_aload_n hx hb dX6_seersOf_13 rfl (lv_at hl 0 rfl) ?_
        refine lv_iload_n hx hb dX6_seersOf_14 rfl (lv_at hl 3 rfl) ?_
        refine lv_aload_n hx hb dX6_seersOf_15 rfl (lv_at hl 0 rfl) ?_
        refine jr_get (k := 6) hx hb hts hown hK hP jb_16 (Nat.le_of_ble_eq_true rfl) jlX6_22 rfl dX6_seersOf_16 ?_
        refine lv_iload_n hx hb dX6_seersOf_19 rfl (lv_at hl 3 rfl) ?_
        obtain ⟨g20, h⟩ := jh_gd h
        refine jr_ald (n := 6) hx hb hK hP jb_16 rfl g20 dX6_seersOf_20 ?_
        refine lv_iload_n hx hb dX6_seersOf_21 rfl (lv_at hl 1 rfl) ?_
        obtain ⟨r2, e2, h⟩ := jh_b h
        refine jr_kp (jr_rv (As := [.int v3_1, .int (M 16 6 (Int32.toNatClampNeg v3_1)), .int v1_1]) (rest := [.int v2_1]) S hK hP jb_16 rfl (m_X6_canSee l X M v3_1 (M 16 6 (Int32.toNatClampNeg v3_1)) v1_1 r2 e2) jw_X6_canSee ji_X6_canSee jmX6_106 rfl rfl ⟨(Nat.le_of_ble_eq_true rfl), (Nat.le_of_ble_eq_true rfl)⟩ rfl hl.1 rfl (Nat.le_of_ble_eq_true rfl) dX6_seersOf_22 ⟨Nat.zero_le _, Nat.zero_le _⟩) ?_
        refine lv_if_eq (tgt := 34) hx hb dX6_seersOf_25 rfl (fun c25 => ?_) (fun c25 => ?_)
        · replace h := jh_t h c25
          refine lv_iconst (v := 0) hx hb dX6_seersOf_34 jci_0 ?_
          refine lv_ior hx hb dX6_seersOf_35 ?_
          refine lv_istore_n (lv' := [(2, .int (v2_1 ||| 0)), (0, .ref (jO X 16)), (1, .int v1_1), (3, .int v3_1)]) hx hb dX6_seersOf_36 rfl hl (Nat.le_of_ble_eq_true rfl) rfl (fun ls hl => ?_)
          refine lv_iinc (v := (v3_1 + 1)) (lv' := [(3, .int (v3_1 + 1)), (2, .int (v2_1 ||| 0)), (0, .ref (jO X 16)), (1, .int v1_1)]) hx hb dX6_seersOf_37 hl (k := 3) rfl (congrArg _ jci_1) (Nat.le_of_ble_eq_true rfl) rfl (fun ls hl => ?_)
          refine lv_goto (tgt := 4) hx hb dX6_seersOf_40 rfl ?_
          exact ih4 (v2_1 ||| 0) (v3_1 + 1) _ h (lv_sub hl [2, 3, 1, 0] rfl)
        · replace h := jh_f h c25
          refine lv_iconst (v := 1) hx hb dX6_seersOf_28 jci_1 ?_
          refine lv_iload_n hx hb dX6_seersOf_29 rfl (lv_at hl 3 rfl) ?_
          refine lv_ishl hx hb dX6_seersOf_30 ?_
          refine lv_goto (tgt := 35) hx hb dX6_seersOf_31 rfl ?_
          refine lv_ior hx hb dX6_seersOf_35 ?_
          refine lv_istore_n (lv' := [(2, .int (v2_1 ||| ((1 : Int32) <<< (v3_1 &&& 31)))), (0, .ref (jO X 16)), (1, .int v1_1), (3, .int v3_1)]) hx hb dX6_seersOf_36 rfl hl (Nat.le_of_ble_eq_true rfl) rfl (fun ls hl => ?_)
          refine lv_iinc (v := (v3_1 + 1)) (lv' := [(3, .int (v3_1 + 1)), (2, .int (v2_1 ||| ((1 : Int32) <<< (v3_1 &&& 31)))), (0, .ref (jO X 16)), (1, .int v1_1)]) hx hb dX6_seersOf_37 hl (k := 3) rfl (congrArg _ jci_1) (Nat.le_of_ble_eq_true rfl) rfl (fun ls hl => ?_)
          refine lv_goto (tgt := 4) hx hb dX6_seersOf_40 rfl ?_
          exact ih4 (v2_1 ||| ((1 : Int32) <<< (v3_1 &&& 31))) (v3_1 + 1) _ h (lv_sub hl [2, 3, 1, 0] rfl)
  exact L4 v1 10000 0 0 _ h (lv_sub hl [2, 3, 1, 0] rfl)
def f_X6_houseOf_j25 (M_2 : jm) (v1_2 : Int32) : Option (Int32 × jm) := (if (f_X6_isHouse M_2 v1_2) = 0 then (jb2 (f_X6_refuse M_2 (-1)) fun r4 M_4 => (some (r4, M_4))) else (jb2 (f_X6_refuse M_2 (-2)) fun r5 M_5 => (some (r5, M_5))))
def f_X6_houseOf (M : jm) (v1 : Int32) (v2 : Int32) : Option (Int32 × jm) := (if (f_X6_isHouse (ju M 16 11 0 0) v1) = 0 then (f_X6_houseOf_j25 (ju M 16 11 0 0) v1) else (if (f_X6_in (Int32.toInt64 v2) 0 7) = 0 then (f_X6_houseOf_j25 (ju M 16 11 0 0) v1) else (if v2 = 0 then (jgd v1 8 (some (((ju M 16 11 0 0) 16 1 (Int32.toNatClampNeg v1)), (ju M 16 11 0 0)))) else (if v2 = 1 then (jgd v1 8 (some (((ju M 16 11 0 0) 16 2 (Int32.toNatClampNeg v1)), (ju M 16 11 0 0)))) else (if v2 = 2 then (jgd v1 8 (some (((ju M 16 11 0 0) 16 3 (Int32.toNatClampNeg v1)), (ju M 16 11 0 0)))) else (if v2 = 3 then (jgd v1 8 (some (((ju M 16 11 0 0) 16 4 (Int32.toNatClampNeg v1)), (ju M 16 11 0 0)))) else (if v2 = 4 then (jb (f_X6_reachOf (ju M 16 11 0 0) v1) fun r7 => (some (r7, (ju M 16 11 0 0)))) else (if v2 = 5 then (jb (f_X6_minutesOf (ju M 16 11 0 0) v1 0) fun r8 => (some (r8, (ju M 16 11 0 0)))) else (if v2 = 6 then (jb (f_X6_owersOf (ju M 16 11 0 0) v1) fun r9 => (some (r9, (ju M 16 11 0 0)))) else (jb (f_X6_seersOf (ju M 16 11 0 0) v1) fun r10 => (some (r10, (ju M 16 11 0 0)))))))))))))
set_option maxRecDepth 100000 in
theorem m_X6_houseOf (l : Launch) (X : jX) (A : Nat → Prop) (hs : jst X A) (M : jm) (v1 : Int32) (v2 : Int32) (r : Int32) (N : jm) (h : f_X6_houseOf M v1 v2 = some (r, N)) : Met l yX6_houseOf (jws yX6_houseOf cX6_houseOf 3 (some .int)) (jrm 4 89) (va_Pc [.ref (jO X 16), .int v1, .int v2] (jB X M)) (jQm X A (some (.int r)) N) 0 0 A := by
  refine jm_of (by decide) (Nat.le_of_ble_eq_true rfl) ?_
  intro p e s m args below meth c ls S hr hlocks hB hl
  have S : CallFix p m c cX6_houseOf 3 s args jtb RX6 := S
  obtain ⟨hx, hb, hml, hown, hts⟩ := id S
  obtain ⟨hP, hK⟩ := hB
  have hN := hK.2
  have hS : va_S A s.heap s.heap [] := va_S.rf
  have hl : lv_has ls 3 [(0, .ref (jO X 16)), (1, .int v1), (2, .int v2)] := hl
  refine lv_aload_n hx hb dX6_houseOf_0 rfl (lv_at hl 0 rfl) ?_
  refine lv_iconst (v := 0) hx hb dX6_houseOf_1 jci_0 ?_
  refine jr_put (k := 11) (z := 0) hx hb hts hown hK hP hs hS jb_16 (Nat.le_of_ble_eq_true rfl) jlX6_79 rfl (Or.inl rfl) rfl rfl rfl dX6_houseOf_2 (fun H locs hP hS => ?_)
  refine lv_aload_n hx hb dX6_houseOf_5 rfl (lv_at hl 0 rfl) ?_
  refine lv_iload_n hx hb dX6_houseOf_6 rfl (lv_at hl 1 rfl) ?_
  refine jr_kp (jr_rv (As := [.int v1]) (rest := []) S hK hP jb_16 rfl (m_X6_isHouse l X (ju M 16 11 0 0) v1 _ rfl) jw_X6_isHouse ji_X6_isHouse jmX6_181 rfl rfl ⟨(Nat.le_of_ble_eq_true rfl), (Nat.le_of_ble_eq_true rfl)⟩ rfl hl.1 rfl (Nat.le_of_ble_eq_true rfl) dX6_houseOf_7 ⟨Nat.zero_le _, Nat.zero_le _⟩) ?_
  have J25 : ∀ (M_2 : jm) (H : Heap) (locs : List Loc) (v1_2 : Int32) (ls : Array Slot), f_X6_houseOf_j25 M_2 v1_2 = some (r, N) → jrp X M_2 H → va_S A s.heap H locs → lv_has ls 3 [(0, .ref (jO X 16)), (1, .int v1_2)] → W p l e (jrm 4 89) s m args below meth c H locs 0 0 (MQ below (jQm X A (some (.int r)) N) args s 0 0 A) (F0 m 25 ls []) := by
    intro M_2 H locs v1_2 ls h hP hS hl
    refine lv_aload_n hx hb dX6_houseOf_25 rfl (lv_at hl 0 rfl) ?_
    refine lv_aload_n hx hb dX6_houseOf_26 rfl (lv_at hl 0 rfl) ?_
    refine lv_iload_n hx hb dX6_houseOf_27 rfl (lv_at hl 1 rfl) ?_
    refine jr_kp (jr_rv (As := [.int v1_2]) (rest := [.ref (jO X 16)]) S hK hP jb_16 rfl (m_X6_isHouse l X M_2 v1_2 _ rfl) jw_X6_isHouse ji_X6_isHouse jmX6_181 rfl rfl ⟨(Nat.le_of_ble_eq_true rfl), (Nat.le_of_ble_eq_true rfl)⟩ rfl hl.1 rfl (Nat.le_of_ble_eq_true rfl) dX6_houseOf_28 ⟨Nat.zero_le _, Nat.zero_le _⟩) ?_
    refine lv_if_eq (tgt := 39) hx hb dX6_houseOf_31 rfl (fun c31 => ?_) (fun c31 => ?_)
    · replace h := jh_t h c31
      refine lv_iconst (v := (-1)) hx hb dX6_houseOf_39 jci_m1 ?_
      obtain ⟨r4, M_4, e4, h⟩ := jh_b2 h
      refine jr_km (jr_rv (As := [.int (-1)]) (rest := []) S hK hP jb_16 rfl (m_X6_refuse l X A hs M_2 (-1) r4 M_4 e4) jw_X6_refuse ji_X6_refuse jmX6_143 rfl rfl ⟨(Nat.le_of_ble_eq_true rfl), (Nat.le_of_ble_eq_true rfl)⟩ rfl hl.1 rfl (Nat.le_of_ble_eq_true rfl) dX6_houseOf_40 ⟨Nat.zero_le _, Nat.zero_le _⟩) hS (fun H locs hP hS => ?_)
      exact je_mi hx hb hr hlocks hK hP hS h dX6_houseOf_43
    · replace h := jh_f h c31
      refine lv_bipush (v := (-2)) hx hb dX6_houseOf_34 jcb_m2 ?_
      refine lv_goto (tgt := 40) hx hb dX6_houseOf_36 rfl ?_
      obtain ⟨r5, M_5, e5, h⟩ := jh_b2 h
      refine jr_km (jr_rv (As := [.int (-2)]) (rest := []) S hK hP jb_16 rfl (m_X6_refuse l X A hs M_2 (-2) r5 M_5 e5) jw_X6_refuse ji_X6_refuse jmX6_143 rfl rfl ⟨(Nat.le_of_ble_eq_true rfl), (Nat.le_of_ble_eq_true rfl)⟩ rfl hl.1 rfl (Nat.le_of_ble_eq_true rfl) dX6_houseOf_40 ⟨Nat.zero_le _, Nat.zero_le _⟩) hS (fun H locs hP hS => ?_)
      exact je_mi hx hb hr hlocks hK hP hS h dX6_houseOf_43
  refine lv_if_eq (tgt := 25) hx hb dX6_houseOf_10 rfl (fun c10 => ?_) (fun c10 => ?_)
  · replace h := jh_t h c10
    exact J25 (ju M 16 11 0 0) _ _ v1 _ h hP hS (lv_sub hl [0, 1] rfl)
  · replace h := jh_f h c10
    refine lv_iload_n hx hb dX6_houseOf_13 rfl (lv_at hl 2 rfl) ?_
    refine lv_i2l hx hb dX6_houseOf_14 rfl ?_
    refine lv_lconst (v := 0) hx hb dX6_houseOf_15 rfl ?_
    refine lv_ldc2 hx hb hown (hts _ jkX6_227) dX6_houseOf_16 ?_
    refine jr_kp (jr_rs (As := [.long (Int32.toInt64 v2), .long 0, .long 7]) (rest := []) S hN (m_X6_in l (Int32.toInt64 v2) 0 7 _ rfl) jw_X6_in js_X6_in jmX6_85 rfl rfl ⟨(Nat.le_of_ble_eq_true rfl), (Nat.le_of_ble_eq_true rfl)⟩ rfl hl.1 rfl (Nat.le_of_ble_eq_true rfl) dX6_houseOf_19 ⟨Nat.zero_le _, Nat.zero_le _⟩) ?_
    refine lv_if_ne (tgt := 44) hx hb dX6_houseOf_22 rfl (fun c22 => ?_) (fun c22 => ?_)
    · replace h := jh_f h c22
      refine lv_iload_n hx hb dX6_houseOf_44 rfl (lv_at hl 2 rfl) ?_
      by_cases c45_0 : v2 = 0
      · replace h := jh_t h c45_0
        refine lv_tableIn (off := 43) (tgt := 88) hx hb dX6_houseOf_45 (by rw [c45_0]; decide) (by rw [c45_0]; decide) (by rw [c45_0]; rfl) rfl ?_
        refine lv_aload_n hx hb dX6_houseOf_88 rfl (lv_at hl 0 rfl) ?_
        refine jr_get (k := 1) hx hb hts hown hK hP jb_16 (Nat.le_of_ble_eq_true rfl) jlX6_7 rfl dX6_houseOf_89 ?_
        refine lv_iload_n hx hb dX6_houseOf_92 rfl (lv_at hl 1 rfl) ?_
        obtain ⟨g93, h⟩ := jh_gd h
        refine jr_ald (n := 8) hx hb hK hP jb_16 rfl g93 dX6_houseOf_93 ?_
        exact je_mi hx hb hr hlocks hK hP hS h dX6_houseOf_94
      replace h := jh_f h c45_0
      by_cases c45_1 : v2 = 1
      · replace h := jh_t h c45_1
        refine lv_tableIn (off := 50) (tgt := 95) hx hb dX6_houseOf_45 (by rw [c45_1]; decide) (by rw [c45_1]; decide) (by rw [c45_1]; rfl) rfl ?_
        refine lv_aload_n hx hb dX6_houseOf_95 rfl (lv_at hl 0 rfl) ?_
        refine jr_get (k := 2) hx hb hts hown hK hP jb_16 (Nat.le_of_ble_eq_true rfl) jlX6_13 rfl dX6_houseOf_96 ?_
        refine lv_iload_n hx hb dX6_houseOf_99 rfl (lv_at hl 1 rfl) ?_
        obtain ⟨g100, h⟩ := jh_gd h
        refine jr_ald (n := 8) hx hb hK hP jb_16 rfl g100 dX6_houseOf_100 ?_
        exact je_mi hx hb hr hlocks hK hP hS h dX6_houseOf_101
      replace h := jh_f h c45_1
      by_cases c45_2 : v2 = 2
      · replace h := jh_t h c45_2
        refine lv_tableIn (off := 57) (tgt := 102) hx hb dX6_houseOf_45 (by rw [c45_2]; decide) (by rw [c45_2]; decide) (by rw [c45_2]; rfl) rfl ?_
        refine lv_aload_n hx hb dX6_houseOf_102 rfl (lv_at hl 0 rfl) ?_
        refine jr_get (k := 3) hx hb hts hown hK hP jb_16 (Nat.le_of_ble_eq_true rfl) jlX6_16 rfl dX6_houseOf_103 ?_
        refine lv_iload_n hx hb dX6_houseOf_106 rfl (lv_at hl 1 rfl) ?_
        obtain ⟨g107, h⟩ := jh_gd h
        refine jr_ald (n := 8) hx hb hK hP jb_16 rfl g107 dX6_houseOf_107 ?_
        exact je_mi hx hb hr hlocks hK hP hS h dX6_houseOf_108
      replace h := jh_f h c45_2
      by_cases c45_3 : v2 = 3
      · replace h := jh_t h c45_3
        refine lv_tableIn (off := 64) (tgt := 109) hx hb dX6_houseOf_45 (by rw [c45_3]; decide) (by rw [c45_3]; decide) (by rw [c45_3]; rfl) rfl ?_
        refine lv_aload_n hx hb dX6_houseOf_109 rfl (lv_at hl 0 rfl) ?_
        refine jr_get (k := 4) hx hb hts hown hK hP jb_16 (Nat.le_of_ble_eq_true rfl) jlX6_19 rfl dX6_houseOf_110 ?_
        refine lv_iload_n hx hb dX6_houseOf_113 rfl (lv_at hl 1 rfl) ?_
        obtain ⟨g114, h⟩ := jh_gd h
        refine jr_ald (n := 8) hx hb hK hP jb_16 rfl g114 dX6_houseOf_114 ?_
        exact je_mi hx hb hr hlocks hK hP hS h dX6_houseOf_115
      replace h := jh_f h c45_3
      by_cases c45_4 : v2 = 4
      · replace h := jh_t h c45_4
        refine lv_tableIn (off := 71) (tgt := 116) hx hb dX6_houseOf_45 (by rw [c45_4]; decide) (by rw [c45_4]; decide) (by rw [c45_4]; rfl) rfl ?_
        refine lv_aload_n hx hb dX6_houseOf_116 rfl (lv_at hl 0 rfl) ?_
        refine lv_iload_n hx hb dX6_houseOf_117 rfl (lv_at hl 1 rfl) ?_
        obtain ⟨r7, e7, h⟩ := jh_b h
        refine jr_kp (jr_rv (As := [.int v1]) (rest := []) S hK hP jb_16 rfl (m_X6_reachOf l X (ju M 16 11 0 0) v1 r7 e7) jw_X6_reachOf ji_X6_reachOf jmX6_99 rfl rfl ⟨(Nat.le_of_ble_eq_true rfl), (Nat.le_of_ble_eq_true rfl)⟩ rfl hl.1 rfl (Nat.le_of_ble_eq_true rfl) dX6_houseOf_118 ⟨Nat.zero_le _, Nat.zero_le _⟩) ?_
        exact je_mi hx hb hr hlocks hK hP hS h dX6_houseOf_121
      replace h := jh_f h c45_4
      by_cases c45_5 : v2 = 5
      · replace h := jh_t h c45_5
        refine lv_tableIn (off := 77) (tgt := 122) hx hb dX6_houseOf_45 (by rw [c45_5]; decide) (by rw [c45_5]; decide) (by rw [c45_5]; rfl) rfl ?_
        refine lv_aload_n hx hb dX6_houseOf_122 rfl (lv_at hl 0 rfl) ?_
        refine lv_iload_n hx hb dX6_houseOf_123 rfl (lv_at hl 1 rfl) ?_
        refine lv_iconst (v := 0) hx hb dX6_houseOf_124 jci_0 ?_
        obtain ⟨r8, e8, h⟩ := jh_b h
        refine jr_kp (jr_rv (As := [.int v1, .int 0]) (rest := []) S hK hP jb_16 rfl (m_X6_minutesOf l X (ju M 16 11 0 0) v1 0 r8 e8) jw_X6_minutesOf ji_X6_minutesOf jmX6_110 rfl rfl ⟨(Nat.le_of_ble_eq_true rfl), (Nat.le_of_ble_eq_true rfl)⟩ rfl hl.1 rfl (Nat.le_of_ble_eq_true rfl) dX6_houseOf_125 ⟨Nat.zero_le _, Nat.zero_le _⟩) ?_
        exact je_mi hx hb hr hlocks hK hP hS h dX6_houseOf_128
      replace h := jh_f h c45_5
      by_cases c45_6 : v2 = 6
      · replace h := jh_t h c45_6
        refine lv_tableIn (off := 84) (tgt := 129) hx hb dX6_houseOf_45 (by rw [c45_6]; decide) (by rw [c45_6]; decide) (by rw [c45_6]; rfl) rfl ?_
        refine lv_aload_n hx hb dX6_houseOf_129 rfl (lv_at hl 0 rfl) ?_
        refine lv_iload_n hx hb dX6_houseOf_130 rfl (lv_at hl 1 rfl) ?_
        obtain ⟨r9, e9, h⟩ := jh_b h
        refine jr_kp (jr_rv (As := [.int v1]) (rest := []) S hK hP jb_16 rfl (m_X6_owersOf l X (ju M 16 11 0 0) v1 r9 e9) jw_X6_owersOf ji_X6_owersOf jmX6_229 rfl rfl ⟨(Nat.le_of_ble_eq_true rfl), (Nat.le_of_ble_eq_true rfl)⟩ rfl hl.1 rfl (Nat.le_of_ble_eq_true rfl) dX6_houseOf_131 ⟨Nat.zero_le _, Nat.zero_le _⟩) ?_
        exact je_mi hx hb hr hlocks hK hP hS h dX6_houseOf_134
      replace h := jh_f h c45_6
      refine jr_tdef (ks := [0, 1, 2, 3, 4, 5, 6]) (tgt := 135) hx hb dX6_houseOf_45 (jsw_cons (jsw_ne c45_0 rfl) (jsw_cons (jsw_ne c45_1 rfl) (jsw_cons (jsw_ne c45_2 rfl) (jsw_cons (jsw_ne c45_3 rfl) (jsw_cons (jsw_ne c45_4 rfl) (jsw_cons (jsw_ne c45_5 rfl) (jsw_cons (jsw_ne c45_6 rfl) (jsw_nil)))))))) (by decide) rfl ?_
      refine lv_aload_n hx hb dX6_houseOf_135 rfl (lv_at hl 0 rfl) ?_
      refine lv_iload_n hx hb dX6_houseOf_136 rfl (lv_at hl 1 rfl) ?_
      obtain ⟨r10, e10, h⟩ := jh_b h
      refine jr_kp (jr_rv (As := [.int v1]) (rest := []) S hK hP jb_16 rfl (m_X6_seersOf l X (ju M 16 11 0 0) v1 r10 e10) jw_X6_seersOf ji_X6_seersOf jmX6_232 rfl rfl ⟨(Nat.le_of_ble_eq_true rfl), (Nat.le_of_ble_eq_true rfl)⟩ rfl hl.1 rfl (Nat.le_of_ble_eq_true rfl) dX6_houseOf_137 ⟨Nat.zero_le _, Nat.zero_le _⟩) ?_
      exact je_mi hx hb hr hlocks hK hP hS h dX6_houseOf_140
    · replace h := jh_t h c22
      exact J25 (ju M 16 11 0 0) _ _ v1 _ h hP hS (lv_sub hl [0, 1] rfl)
def f_X6_walkerOf_j25 (M_2 : jm) (v1_2 : Int32) : Option (Int32 × jm) := (if (f_X6_isWalker M_2 v1_2) = 0 then (jb2 (f_X6_refuse M_2 (-1)) fun r4 M_4 => (some (r4, M_4))) else (jb2 (f_X6_refuse M_2 (-2)) fun r5 M_5 => (some (r5, M_5))))
def f_X6_walkerOf (M : jm) (v1 : Int32) (v2 : Int32) : Option (Int32 × jm) := (if (f_X6_isWalker (ju M 16 11 0 0) v1) = 0 then (f_X6_walkerOf_j25 (ju M 16 11 0 0) v1) else (if (f_X6_in (Int32.toInt64 v2) 0 5) = 0 then (f_X6_walkerOf_j25 (ju M 16 11 0 0) v1) else (if v2 = 0 then (jgd v1 6 (some (((ju M 16 11 0 0) 16 6 (Int32.toNatClampNeg v1)), (ju M 16 11 0 0)))) else (if v2 = 1 then (jgd v1 6 (some (((ju M 16 11 0 0) 16 7 (Int32.toNatClampNeg v1)), (ju M 16 11 0 0)))) else (if v2 = 2 then (jgd v1 6 (some (((ju M 16 11 0 0) 16 8 (Int32.toNatClampNeg v1)), (ju M 16 11 0 0)))) else (if v2 = 3 then (jb (f_X6_owesBits (ju M 16 11 0 0) v1) fun r7 => (some (r7, (ju M 16 11 0 0)))) else (if v2 = 4 then (jgd v1 6 (jb (f_X6_seenFrom (ju M 16 11 0 0) v1 ((ju M 16 11 0 0) 16 6 (Int32.toNatClampNeg v1))) fun r8 => (some (r8, (ju M 16 11 0 0))))) else (jb (f_X6_priceOf (ju M 16 11 0 0) v1) fun r9 => (some (r9, (ju M 16 11 0 0)))))))))))
set_option maxRecDepth 100000 in
theorem m_X6_walkerOf (l : Launch) (X : jX) (A : Nat → Prop) (hs : jst X A) (M : jm) (v1 : Int32) (v2 : Int32) (r : Int32) (N : jm) (h : f_X6_walkerOf M v1 v2 = some (r, N)) : Met l yX6_walkerOf (jws yX6_walkerOf cX6_walkerOf 3 (some .int)) (jrm 4 90) (va_Pc [.ref (jO X 16), .int v1, .int v2] (jB X M)) (jQm X A (some (.int r)) N) 0 0 A := by
  refine jm_of (by decide) (Nat.le_of_ble_eq_true rfl) ?_
  intro p e s m args below meth c ls S hr hlocks hB hl
  have S : CallFix p m c cX6_walkerOf 3 s args jtb RX6 := S
  obtain ⟨hx, hb, hml, hown, hts⟩ := id S
  obtain ⟨hP, hK⟩ := hB
  have hN := hK.2
  have hS : va_S A s.heap s.heap [] := va_S.rf
  have hl : lv_has ls 3 [(0, .ref (jO X 16)), (1, .int v1), (2, .int v2)] := hl
  refine lv_aload_n hx hb dX6_walkerOf_0 rfl (lv_at hl 0 rfl) ?_
  refine lv_iconst (v := 0) hx hb dX6_walkerOf_1 jci_0 ?_
  refine jr_put (k := 11) (z := 0) hx hb hts hown hK hP hs hS jb_16 (Nat.le_of_ble_eq_true rfl) jlX6_79 rfl (Or.inl rfl) rfl rfl rfl dX6_walkerOf_2 (fun H locs hP hS => ?_)
  refine lv_aload_n hx hb dX6_walkerOf_5 rfl (lv_at hl 0 rfl) ?_
  refine lv_iload_n hx hb dX6_walkerOf_6 rfl (lv_at hl 1 rfl) ?_
  refine jr_kp (jr_rv (As := [.int v1]) (rest := []) S hK hP jb_16 rfl (m_X6_isWalker l X (ju M 16 11 0 0) v1 _ rfl) jw_X6_isWalker ji_X6_isWalker jmX6_184 rfl rfl ⟨(Nat.le_of_ble_eq_true rfl), (Nat.le_of_ble_eq_true rfl)⟩ rfl hl.1 rfl (Nat.le_of_ble_eq_true rfl) dX6_walkerOf_7 ⟨Nat.zero_le _, Nat.zero_le _⟩) ?_
  have J25 : ∀ (M_2 : jm) (H : Heap) (locs : List Loc) (v1_2 : Int32) (ls : Array Slot), f_X6_walkerOf_j25 M_2 v1_2 = some (r, N) → jrp X M_2 H → va_S A s.heap H locs → lv_has ls 3 [(0, .ref (jO X 16)), (1, .int v1_2)] → W p l e (jrm 4 90) s m args below meth c H locs 0 0 (MQ below (jQm X A (some (.int r)) N) args s 0 0 A) (F0 m 25 ls []) := by
    intro M_2 H locs v1_2 ls h hP hS hl
    refine lv_aload_n hx hb dX6_walkerOf_25 rfl (lv_at hl 0 rfl) ?_
    refine lv_aload_n hx hb dX6_walkerOf_26 rfl (lv_at hl 0 rfl) ?_
    refine lv_iload_n hx hb dX6_walkerOf_27 rfl (lv_at hl 1 rfl) ?_
    refine jr_kp (jr_rv (As := [.int v1_2]) (rest := [.ref (jO X 16)]) S hK hP jb_16 rfl (m_X6_isWalker l X M_2 v1_2 _ rfl) jw_X6_isWalker ji_X6_isWalker jmX6_184 rfl rfl ⟨(Nat.le_of_ble_eq_true rfl), (Nat.le_of_ble_eq_true rfl)⟩ rfl hl.1 rfl (Nat.le_of_ble_eq_true rfl) dX6_walkerOf_28 ⟨Nat.zero_le _, Nat.zero_le _⟩) ?_
    refine lv_if_eq (tgt := 39) hx hb dX6_walkerOf_31 rfl (fun c31 => ?_) (fun c31 => ?_)
    · replace h := jh_t h c31
      refine lv_iconst (v := (-1)) hx hb dX6_walkerOf_39 jci_m1 ?_
      obtain ⟨r4, M_4, e4, h⟩ := jh_b2 h
      refine jr_km (jr_rv (As := [.int (-1)]) (rest := []) S hK hP jb_16 rfl (m_X6_refuse l X A hs M_2 (-1) r4 M_4 e4) jw_X6_refuse ji_X6_refuse jmX6_143 rfl rfl ⟨(Nat.le_of_ble_eq_true rfl), (Nat.le_of_ble_eq_true rfl)⟩ rfl hl.1 rfl (Nat.le_of_ble_eq_true rfl) dX6_walkerOf_40 ⟨Nat.zero_le _, Nat.zero_le _⟩) hS (fun H locs hP hS => ?_)
      exact je_mi hx hb hr hlocks hK hP hS h dX6_walkerOf_43
    · replace h := jh_f h c31
      refine lv_bipush (v := (-2)) hx hb dX6_walkerOf_34 jcb_m2 ?_
      refine lv_goto (tgt := 40) hx hb dX6_walkerOf_36 rfl ?_
      obtain ⟨r5, M_5, e5, h⟩ := jh_b2 h
      refine jr_km (jr_rv (As := [.int (-2)]) (rest := []) S hK hP jb_16 rfl (m_X6_refuse l X A hs M_2 (-2) r5 M_5 e5) jw_X6_refuse ji_X6_refuse jmX6_143 rfl rfl ⟨(Nat.le_of_ble_eq_true rfl), (Nat.le_of_ble_eq_true rfl)⟩ rfl hl.1 rfl (Nat.le_of_ble_eq_true rfl) dX6_walkerOf_40 ⟨Nat.zero_le _, Nat.zero_le _⟩) hS (fun H locs hP hS => ?_)
      exact je_mi hx hb hr hlocks hK hP hS h dX6_walkerOf_43
  refine lv_if_eq (tgt := 25) hx hb dX6_walkerOf_10 rfl (fun c10 => ?_) (fun c10 => ?_)
  · replace h := jh_t h c10
    exact J25 (ju M 16 11 0 0) _ _ v1 _ h hP hS (lv_sub hl [0, 1] rfl)
  · replace h := jh_f h c10
    refine lv_iload_n hx hb dX6_walkerOf_13 rfl (lv_at hl 2 rfl) ?_
    refine lv_i2l hx hb dX6_walkerOf_14 rfl ?_
    refine lv_lconst (v := 0) hx hb dX6_walkerOf_15 rfl ?_
    refine lv_ldc2 hx hb hown (hts _ jkX6_235) dX6_walkerOf_16 ?_
    refine jr_kp (jr_rs (As := [.long (Int32.toInt64 v2), .long 0, .long 5]) (rest := []) S hN (m_X6_in l (Int32.toInt64 v2) 0 5 _ rfl) jw_X6_in js_X6_in jmX6_85 rfl rfl ⟨(Nat.le_of_ble_eq_true rfl), (Nat.le_of_ble_eq_true rfl)⟩ rfl hl.1 rfl (Nat.le_of_ble_eq_true rfl) dX6_walkerOf_19 ⟨Nat.zero_le _, Nat.zero_le _⟩) ?_
    refine lv_if_ne (tgt := 44) hx hb dX6_walkerOf_22 rfl (fun c22 => ?_) (fun c22 => ?_)
    · replace h := jh_f h c22
      refine lv_iload_n hx hb dX6_walkerOf_44 rfl (lv_at hl 2 rfl) ?_
      by_cases c45_0 : v2 = 0
      · replace h := jh_t h c45_0
        refine lv_tableIn (off := 35) (tgt := 80) hx hb dX6_walkerOf_45 (by rw [c45_0]; decide) (by rw [c45_0]; decide) (by rw [c45_0]; rfl) rfl ?_
        refine lv_aload_n hx hb dX6_walkerOf_80 rfl (lv_at hl 0 rfl) ?_
        refine jr_get (k := 6) hx hb hts hown hK hP jb_16 (Nat.le_of_ble_eq_true rfl) jlX6_22 rfl dX6_walkerOf_81 ?_
        refine lv_iload_n hx hb dX6_walkerOf_84 rfl (lv_at hl 1 rfl) ?_
        obtain ⟨g85, h⟩ := jh_gd h
        refine jr_ald (n := 6) hx hb hK hP jb_16 rfl g85 dX6_walkerOf_85 ?_
        exact je_mi hx hb hr hlocks hK hP hS h dX6_walkerOf_86
      replace h := jh_f h c45_0
      by_cases c45_1 : v2 = 1
      · replace h := jh_t h c45_1
        refine lv_tableIn (off := 42) (tgt := 87) hx hb dX6_walkerOf_45 (by rw [c45_1]; decide) (by rw [c45_1]; decide) (by rw [c45_1]; rfl) rfl ?_
        refine lv_aload_n hx hb dX6_walkerOf_87 rfl (lv_at hl 0 rfl) ?_
        refine jr_get (k := 7) hx hb hts hown hK hP jb_16 (Nat.le_of_ble_eq_true rfl) jlX6_25 rfl dX6_walkerOf_88 ?_
        refine lv_iload_n hx hb dX6_walkerOf_91 rfl (lv_at hl 1 rfl) ?_
        obtain ⟨g92, h⟩ := jh_gd h
        refine jr_ald (n := 6) hx hb hK hP jb_16 rfl g92 dX6_walkerOf_92 ?_
        exact je_mi hx hb hr hlocks hK hP hS h dX6_walkerOf_93
      replace h := jh_f h c45_1
      by_cases c45_2 : v2 = 2
      · replace h := jh_t h c45_2
        refine lv_tableIn (off := 49) (tgt := 94) hx hb dX6_walkerOf_45 (by rw [c45_2]; decide) (by rw [c45_2]; decide) (by rw [c45_2]; rfl) rfl ?_
        refine lv_aload_n hx hb dX6_walkerOf_94 rfl (lv_at hl 0 rfl) ?_
        refine jr_get (k := 8) hx hb hts hown hK hP jb_16 (Nat.le_of_ble_eq_true rfl) jlX6_28 rfl dX6_walkerOf_95 ?_
        refine lv_iload_n hx hb dX6_walkerOf_98 rfl (lv_at hl 1 rfl) ?_
        obtain ⟨g99, h⟩ := jh_gd h
        refine jr_ald (n := 6) hx hb hK hP jb_16 rfl g99 dX6_walkerOf_99 ?_
        exact je_mi hx hb hr hlocks hK hP hS h dX6_walkerOf_100
      replace h := jh_f h c45_2
      by_cases c45_3 : v2 = 3
      · replace h := jh_t h c45_3
        refine lv_tableIn (off := 56) (tgt := 101) hx hb dX6_walkerOf_45 (by rw [c45_3]; decide) (by rw [c45_3]; decide) (by rw [c45_3]; rfl) rfl ?_
        refine lv_aload_n hx hb dX6_walkerOf_101 rfl (lv_at hl 0 rfl) ?_
        refine lv_iload_n hx hb dX6_walkerOf_102 rfl (lv_at hl 1 rfl) ?_
        obtain ⟨r7, e7, h⟩ := jh_b h
        refine jr_kp (jr_rv (As := [.int v1]) (rest := []) S hK hP jb_16 rfl (m_X6_owesBits l X (ju M 16 11 0 0) v1 r7 e7) jw_X6_owesBits ji_X6_owesBits jmX6_116 rfl rfl ⟨(Nat.le_of_ble_eq_true rfl), (Nat.le_of_ble_eq_true rfl)⟩ rfl hl.1 rfl (Nat.le_of_ble_eq_true rfl) dX6_walkerOf_103 ⟨Nat.zero_le _, Nat.zero_le _⟩) ?_
        exact je_mi hx hb hr hlocks hK hP hS h dX6_walkerOf_106
      replace h := jh_f h c45_3
      by_cases c45_4 : v2 = 4
      · replace h := jh_t h c45_4
        refine lv_tableIn (off := 62) (tgt := 107) hx hb dX6_walkerOf_45 (by rw [c45_4]; decide) (by rw [c45_4]; decide) (by rw [c45_4]; rfl) rfl ?_
        refine lv_aload_n hx hb dX6_walkerOf_107 rfl (lv_at hl 0 rfl) ?_
        refine lv_iload_n hx hb dX6_walkerOf_108 rfl (lv_at hl 1 rfl) ?_
        refine lv_aload_n hx hb dX6_walkerOf_109 rfl (lv_at hl 0 rfl) ?_
        refine jr_get (k := 6) hx hb hts hown hK hP jb_16 (Nat.le_of_ble_eq_true rfl) jlX6_22 rfl dX6_walkerOf_110 ?_
        refine lv_iload_n hx hb dX6_walkerOf_113 rfl (lv_at hl 1 rfl) ?_
        obtain ⟨g114, h⟩ := jh_gd h
        refine jr_ald (n := 6) hx hb hK hP jb_16 rfl g114 dX6_walkerOf_114 ?_
        obtain ⟨r8, e8, h⟩ := jh_b h
        refine jr_kp (jr_rv (As := [.int v1, .int ((ju M 16 11 0 0) 16 6 (Int32.toNatClampNeg v1))]) (rest := []) S hK hP jb_16 rfl (m_X6_seenFrom l X (ju M 16 11 0 0) v1 ((ju M 16 11 0 0) 16 6 (Int32.toNatClampNeg v1)) r8 e8) jw_X6_seenFrom ji_X6_seenFrom jmX6_128 rfl rfl ⟨(Nat.le_of_ble_eq_true rfl), (Nat.le_of_ble_eq_true rfl)⟩ rfl hl.1 rfl (Nat.le_of_ble_eq_true rfl) dX6_walkerOf_115 ⟨Nat.zero_le _, Nat.zero_le _⟩) ?_
        exact je_mi hx hb hr hlocks hK hP hS h dX6_walkerOf_118
      replace h := jh_f h c45_4
      refine jr_tdef (ks := [0, 1, 2, 3, 4]) (tgt := 119) hx hb dX6_walkerOf_45 (jsw_cons (jsw_ne c45_0 rfl) (jsw_cons (jsw_ne c45_1 rfl) (jsw_cons (jsw_ne c45_2 rfl) (jsw_cons (jsw_ne c45_3 rfl) (jsw_cons (jsw_ne c45_4 rfl) (jsw_nil)))))) (by decide) rfl ?_
      refine lv_aload_n hx hb dX6_walkerOf_119 rfl (lv_at hl 0 rfl) ?_
      refine lv_iload_n hx hb dX6_walkerOf_120 rfl (lv_at hl 1 rfl) ?_
      obtain ⟨r9, e9, h⟩ := jh_b h
      refine jr_kp (jr_rv (As := [.int v1]) (rest := []) S hK hP jb_16 rfl (m_X6_priceOf l X (ju M 16 11 0 0) v1 r9 e9) jw_X6_priceOf ji_X6_priceOf jmX6_113 rfl rfl ⟨(Nat.le_of_ble_eq_true rfl), (Nat.le_of_ble_eq_true rfl)⟩ rfl hl.1 rfl (Nat.le_of_ble_eq_true rfl) dX6_walkerOf_121 ⟨Nat.zero_le _, Nat.zero_le _⟩) ?_
      exact je_mi hx hb hr hlocks hK hP hS h dX6_walkerOf_124
    · replace h := jh_t h c22
      exact J25 (ju M 16 11 0 0) _ _ v1 _ h hP hS (lv_sub hl [0, 1] rfl)
def f_X6_wrongBoth (M : jm) (v1 : Int32) (v2 : Int32) : Int32 := (if (f_X6_isWalker M v1) = 0 then (-1) else (if (f_X6_isHouse M v2) = 0 then (-1) else 0))
set_option maxRecDepth 100000 in
theorem m_X6_wrongBoth (l : Launch) (X : jX) (M : jm) (v1 : Int32) (v2 : Int32) (r : Int32) (h : f_X6_wrongBoth M v1 v2 = r) : Met l yX6_wrongBoth (jws yX6_wrongBoth cX6_wrongBoth 3 (some .int)) (jrm 2 46) (va_Pc [.ref (jO X 16), .int v1, .int v2] (jB X M)) (jQ (.int r)) 0 0 (fun _ => False) := by
  refine jm_of (by decide) (Nat.le_of_ble_eq_true rfl) ?_
  intro p e s m args below meth c ls S hr hlocks hB hl
  have S : CallFix p m c cX6_wrongBoth 3 s args jtb RX6 := S
  obtain ⟨hx, hb, hml, hown, hts⟩ := id S
  obtain ⟨hP, hK⟩ := hB
  have hN := hK.2
  have hl : lv_has ls 3 [(0, .ref (jO X 16)), (1, .int v1), (2, .int v2)] := hl
  refine lv_aload_n hx hb dX6_wrongBoth_0 rfl (lv_at hl 0 rfl) ?_
  refine lv_iload_n hx hb dX6_wrongBoth_1 rfl (lv_at hl 1 rfl) ?_
  refine jr_kp (jr_rv (As := [.int v1]) (rest := []) S hK hP jb_16 rfl (m_X6_isWalker l X M v1 _ rfl) jw_X6_isWalker ji_X6_isWalker jmX6_184 rfl rfl ⟨(Nat.le_of_ble_eq_true rfl), (Nat.le_of_ble_eq_true rfl)⟩ rfl hl.1 rfl (Nat.le_of_ble_eq_true rfl) dX6_wrongBoth_2 ⟨Nat.zero_le _, Nat.zero_le _⟩) ?_
  refine lv_if_eq (tgt := 20) hx hb dX6_wrongBoth_5 rfl (fun c5 => ?_) (fun c5 => ?_)
  · replace h := jh_t h c5
    refine lv_iconst (v := (-1)) hx hb dX6_wrongBoth_20 jci_m1 ?_
    exact je_i hx hb hr hlocks h dX6_wrongBoth_21
  · replace h := jh_f h c5
    refine lv_aload_n hx hb dX6_wrongBoth_8 rfl (lv_at hl 0 rfl) ?_
    refine lv_iload_n hx hb dX6_wrongBoth_9 rfl (lv_at hl 2 rfl) ?_
    refine jr_kp (jr_rv (As := [.int v2]) (rest := []) S hK hP jb_16 rfl (m_X6_isHouse l X M v2 _ rfl) jw_X6_isHouse ji_X6_isHouse jmX6_181 rfl rfl ⟨(Nat.le_of_ble_eq_true rfl), (Nat.le_of_ble_eq_true rfl)⟩ rfl hl.1 rfl (Nat.le_of_ble_eq_true rfl) dX6_wrongBoth_10 ⟨Nat.zero_le _, Nat.zero_le _⟩) ?_
    refine lv_if_eq (tgt := 20) hx hb dX6_wrongBoth_13 rfl (fun c13 => ?_) (fun c13 => ?_)
    · replace h := jh_t h c13
      refine lv_iconst (v := (-1)) hx hb dX6_wrongBoth_20 jci_m1 ?_
      exact je_i hx hb hr hlocks h dX6_wrongBoth_21
    · replace h := jh_f h c13
      refine lv_iconst (v := 0) hx hb dX6_wrongBoth_16 jci_0 ?_
      refine lv_goto (tgt := 21) hx hb dX6_wrongBoth_17 rfl ?_
      exact je_i hx hb hr hlocks h dX6_wrongBoth_21
def f_X6_age (M : jm) (v1 : Int32) (v2 : Int32) : Option (Int32 × jm) := (if 0 ≤ (f_X6_wrongBoth (ju M 16 11 0 0) v1 v2) then (jgd ((7 * v1) + v2) 42 (if ((ju M 16 11 0 0) 16 9 (Int32.toNatClampNeg ((7 * v1) + v2))) = 0 then (some ((-9), (ju M 16 11 0 0))) else (some ((((ju M 16 11 0 0) 16 9 (Int32.toNatClampNeg ((7 * v1) + v2))) - 1), (ju M 16 11 0 0))))) else (jb2 (f_X6_refuse (ju M 16 11 0 0) (-1)) fun r2 M_2 => (some (r2, M_2))))
set_option maxRecDepth 100000 in
theorem m_X6_age (l : Launch) (X : jX) (A : Nat → Prop) (hs : jst X A) (M : jm) (v1 : Int32) (v2 : Int32) (r : Int32) (N : jm) (h : f_X6_age M v1 v2 = some (r, N)) : Met l yX6_age (jws yX6_age cX6_age 4 (some .int)) (jrm 3 68) (va_Pc [.ref (jO X 16), .int v1, .int v2] (jB X M)) (jQm X A (some (.int r)) N) 0 0 A := by
  refine jm_of (by decide) (Nat.le_of_ble_eq_true rfl) ?_
  intro p e s m args below meth c ls S hr hlocks hB hl
  have S : CallFix p m c cX6_age 4 s args jtb RX6 := S
  obtain ⟨hx, hb, hml, hown, hts⟩ := id S
  obtain ⟨hP, hK⟩ := hB
  have hN := hK.2
  have hS : va_S A s.heap s.heap [] := va_S.rf
  have hl : lv_has ls 4 [(0, .ref (jO X 16)), (1, .int v1), (2, .int v2)] := hl
  refine lv_aload_n hx hb dX6_age_0 rfl (lv_at hl 0 rfl) ?_
  refine lv_iconst (v := 0) hx hb dX6_age_1 jci_0 ?_
  refine jr_put (k := 11) (z := 0) hx hb hts hown hK hP hs hS jb_16 (Nat.le_of_ble_eq_true rfl) jlX6_79 rfl (Or.inl rfl) rfl rfl rfl dX6_age_2 (fun H locs hP hS => ?_)
  refine lv_aload_n hx hb dX6_age_5 rfl (lv_at hl 0 rfl) ?_
  refine lv_iload_n hx hb dX6_age_6 rfl (lv_at hl 1 rfl) ?_
  refine lv_iload_n hx hb dX6_age_7 rfl (lv_at hl 2 rfl) ?_
  refine jr_kp (jr_rv (As := [.int v1, .int v2]) (rest := []) S hK hP jb_16 rfl (m_X6_wrongBoth l X (ju M 16 11 0 0) v1 v2 _ rfl) jw_X6_wrongBoth ji_X6_wrongBoth jmX6_237 rfl rfl ⟨(Nat.le_of_ble_eq_true rfl), (Nat.le_of_ble_eq_true rfl)⟩ rfl hl.1 rfl (Nat.le_of_ble_eq_true rfl) dX6_age_8 ⟨Nat.zero_le _, Nat.zero_le _⟩) ?_
  refine lv_if_ge (tgt := 20) hx hb dX6_age_11 rfl (fun c11 => ?_) (fun c11 => ?_)
  · replace h := jh_t h c11
    refine lv_aload_n hx hb dX6_age_20 rfl (lv_at hl 0 rfl) ?_
    refine jr_get (k := 9) hx hb hts hown hK hP jb_16 (Nat.le_of_ble_eq_true rfl) jlX6_31 rfl dX6_age_21 ?_
    refine lv_bipush (v := 7) hx hb dX6_age_24 jcb_7 ?_
    refine lv_iload_n hx hb dX6_age_26 rfl (lv_at hl 1 rfl) ?_
    refine lv_imul hx hb dX6_age_27 ?_
    refine lv_iload_n hx hb dX6_age_28 rfl (lv_at hl 2 rfl) ?_
    refine lv_iadd hx hb dX6_age_29 ?_
    obtain ⟨g30, h⟩ := jh_gd h
    refine jr_ald (n := 42) hx hb hK hP jb_16 rfl g30 dX6_age_30 ?_
    refine lv_istore_n (lv' := [(3, .int ((ju M 16 11 0 0) 16 9 (Int32.toNatClampNeg ((7 * v1) + v2)))), (0, .ref (jO X 16)), (1, .int v1), (2, .int v2)]) hx hb dX6_age_31 rfl hl (Nat.le_of_ble_eq_true rfl) rfl (fun ls hl => ?_)
    refine lv_iload_n hx hb dX6_age_32 rfl (lv_at hl 0 rfl) ?_
    refine lv_if_ne (tgt := 41) hx hb dX6_age_33 rfl (fun c33 => ?_) (fun c33 => ?_)
    · replace h := jh_f h c33
      refine lv_iload_n hx hb dX6_age_41 rfl (lv_at hl 0 rfl) ?_
      refine lv_iconst (v := 1) hx hb dX6_age_42 jci_1 ?_
      refine lv_isub hx hb dX6_age_43 ?_
      exact je_mi hx hb hr hlocks hK hP hS h dX6_age_44
    · replace h := jh_t h c33
      refine lv_bipush (v := (-9)) hx hb dX6_age_36 jcb_m9 ?_
      refine lv_goto (tgt := 44) hx hb dX6_age_38 rfl ?_
      exact je_mi hx hb hr hlocks hK hP hS h dX6_age_44
  · replace h := jh_f h c11
    refine lv_aload_n hx hb dX6_age_14 rfl (lv_at hl 0 rfl) ?_
    refine lv_iconst (v := (-1)) hx hb dX6_age_15 jci_m1 ?_
    obtain ⟨r2, M_2, e2, h⟩ := jh_b2 h
    refine jr_km (jr_rv (As := [.int (-1)]) (rest := []) S hK hP jb_16 rfl (m_X6_refuse l X A hs (ju M 16 11 0 0) (-1) r2 M_2 e2) jw_X6_refuse ji_X6_refuse jmX6_143 rfl rfl ⟨(Nat.le_of_ble_eq_true rfl), (Nat.le_of_ble_eq_true rfl)⟩ rfl hl.1 rfl (Nat.le_of_ble_eq_true rfl) dX6_age_16 ⟨Nat.zero_le _, Nat.zero_le _⟩) hS (fun H locs hP hS => ?_)
    exact je_mi hx hb hr hlocks hK hP hS h dX6_age_19
def f_X6_house_j72 (M_4 : jm) (v1_4 : Int32) (v2_4 : Int32) (v3_4 : Int32) (t0_4 : Int32) : Option (Int32 × jm) := (if 0 ≤ t0_4 then (jb2 (f_X6_houseComes M_4 v1_4 v2_4 v3_4) fun r5 M_5 => (some ((((ju M_5 16 29 0 0) 16 0 0) - 1), (ju M_5 16 29 0 0)))) else (jb2 (f_X6_refuse M_4 t0_4) fun r6 M_6 => (some (r6, M_6))))
def f_X6_house_j70 (M_7 : jm) (v1_7 : Int32) (v2_7 : Int32) (v3_7 : Int32) (v4_7 : Int32) : Option (Int32 × jm) := (f_X6_house_j72 M_7 v1_7 v2_7 v3_7 v4_7)
def f_X6_house_j52 (M_3 : jm) (v1_3 : Int32) (v2_3 : Int32) (v3_3 : Int32) (t0_3 : Int32) : Option (Int32 × jm) := (if t0_3 = 0 then (if (f_X6_isCell v3_3) = 0 then (f_X6_house_j72 M_3 v1_3 v2_3 v3_3 (-1)) else (f_X6_house_j70 M_3 v1_3 v2_3 v3_3 t0_3)) else (f_X6_house_j70 M_3 v1_3 v2_3 v3_3 t0_3))
def f_X6_house_j50 (M_9 : jm) (v1_9 : Int32) (v2_9 : Int32) (v3_9 : Int32) (v4_9 : Int32) : Option (Int32 × jm) := (f_X6_house_j52 M_9 v1_9 v2_9 v3_9 v4_9)
def f_X6_house_j29 (M_2 : jm) (v1_2 : Int32) (v2_2 : Int32) (v3_2 : Int32) (t0_2 : Int32) : Option (Int32 × jm) := (if t0_2 = 0 then (if (M_2 16 0 0) = 7 then (f_X6_house_j52 M_2 v1_2 v2_2 v3_2 (-6)) else (f_X6_house_j50 M_2 v1_2 v2_2 v3_2 t0_2)) else (f_X6_house_j50 M_2 v1_2 v2_2 v3_2 t0_2))
def f_X6_house (M : jm) (v1 : Int32) (v2 : Int32) (v3 : Int32) : Option (Int32 × jm) := (if (f_X6_in (Int32.toInt64 v1) 0 5) = 0 then (f_X6_house_j29 (ju M 16 11 0 0) v1 v2 v3 (-2)) else (f_X6_house_j29 (ju M 16 11 0 0) v1 v2 v3 (f_X6_wrongNumber v2 0 9)))
set_option maxRecDepth 100000 in
theorem m_X6_house (l : Launch) (X : jX) (A : Nat → Prop) (hs : jst X A) (M : jm) (v1 : Int32) (v2 : Int32) (v3 : Int32) (r : Int32) (N : jm) (h : f_X6_house M v1 v2 v3 = some (r, N)) : Met l yX6_house (jws yX6_house cX6_house 5 (some .int)) (jrm 3 70) (va_Pc [.ref (jO X 16), .int v1, .int v2, .int v3] (jB X M)) (jQm X A (some (.int r)) N) 0 0 A := by
  refine jm_of (by decide) (Nat.le_of_ble_eq_true rfl) ?_
  intro p e s m args below meth c ls S hr hlocks hB hl
  have S : CallFix p m c cX6_house 5 s args jtb RX6 := S
  obtain ⟨hx, hb, hml, hown, hts⟩ := id S
  obtain ⟨hP, hK⟩ := hB
  have hN := hK.2
  have hS : va_S A s.heap s.heap [] := va_S.rf
  have hl : lv_has ls 5 [(0, .ref (jO X 16)), (1, .int v1), (2, .int v2), (3, .int v3)] := hl
  refine lv_aload_n hx hb dX6_house_0 rfl (lv_at hl 0 rfl) ?_
  refine lv_iconst (v := 0) hx hb dX6_house_1 jci_0 ?_
  refine jr_put (k := 11) (z := 0) hx hb hts hown hK hP hs hS jb_16 (Nat.le_of_ble_eq_true rfl) jlX6_79 rfl (Or.inl rfl) rfl rfl rfl dX6_house_2 (fun H locs hP hS => ?_)
  refine lv_iload_n hx hb dX6_house_5 rfl (lv_at hl 1 rfl) ?_
  refine lv_i2l hx hb dX6_house_6 rfl ?_
  refine lv_lconst (v := 0) hx hb dX6_house_7 rfl ?_
  refine lv_ldc2 hx hb hown (hts _ jkX6_235) dX6_house_8 ?_
  refine jr_kp (jr_rs (As := [.long (Int32.toInt64 v1), .long 0, .long 5]) (rest := []) S hN (m_X6_in l (Int32.toInt64 v1) 0 5 _ rfl) jw_X6_in js_X6_in jmX6_85 rfl rfl ⟨(Nat.le_of_ble_eq_true rfl), (Nat.le_of_ble_eq_true rfl)⟩ rfl hl.1 rfl (Nat.le_of_ble_eq_true rfl) dX6_house_11 ⟨Nat.zero_le _, Nat.zero_le _⟩) ?_
  have J29 : ∀ (M_2 : jm) (H : Heap) (locs : List Loc) (v1_2 : Int32) (v2_2 : Int32) (v3_2 : Int32) (t0_2 : Int32) (ls : Array Slot), f_X6_house_j29 M_2 v1_2 v2_2 v3_2 t0_2 = some (r, N) → jrp X M_2 H → va_S A s.heap H locs → lv_has ls 5 [(0, .ref (jO X 16)), (1, .int v1_2), (2, .int v2_2), (3, .int v3_2)] → W p l e (jrm 3 70) s m args below meth c H locs 0 0 (MQ below (jQm X A (some (.int r)) N) args s 0 0 A) (F0 m 29 ls [.int t0_2]) := by
    intro M_2 H locs v1_2 v2_2 v3_2 t0_2 ls h hP hS hl
    refine lv_istore (lv' := [(4, .int t0_2), (0, .ref (jO X 16)), (1, .int v1_2), (2, .int v2_2), (3, .int v3_2)]) hx hb dX6_house_29 hl (Nat.le_of_ble_eq_true rfl) rfl (fun ls hl => ?_)
    refine lv_iload hx hb dX6_house_31 (lv_at hl 0 rfl) ?_
    have J52 : ∀ (M_3 : jm) (H : Heap) (locs : List Loc) (v1_3 : Int32) (v2_3 : Int32) (v3_3 : Int32) (t0_3 : Int32) (ls : Array Slot), f_X6_house_j52 M_3 v1_3 v2_3 v3_3 t0_3 = some (r, N) → jrp X M_3 H → va_S A s.heap H locs → lv_has ls 5 [(0, .ref (jO X 16)), (1, .int v1_3), (2, .int v2_3), (3, .int v3_3)] → W p l e (jrm 3 70) s m args below meth c H locs 0 0 (MQ below (jQm X A (some (.int r)) N) args s 0 0 A) (F0 m 52 ls [.int t0_3]) := by
      intro M_3 H locs v1_3 v2_3 v3_3 t0_3 ls h hP hS hl
      refine lv_istore (lv' := [(4, .int t0_3), (0, .ref (jO X 16)), (1, .int v1_3), (2, .int v2_3), (3, .int v3_3)]) hx hb dX6_house_52 hl (Nat.le_of_ble_eq_true rfl) rfl (fun ls hl => ?_)
      refine lv_iload hx hb dX6_house_54 (lv_at hl 0 rfl) ?_
      have J72 : ∀ (M_4 : jm) (H : Heap) (locs : List Loc) (v1_4 : Int32) (v2_4 : Int32) (v3_4 : Int32) (t0_4 : Int32) (ls : Array Slot), f_X6_house_j72 M_4 v1_4 v2_4 v3_4 t0_4 = some (r, N) → jrp X M_4 H → va_S A s.heap H locs → lv_has ls 5 [(0, .ref (jO X 16)), (1, .int v1_4), (2, .int v2_4), (3, .int v3_4)] → W p l e (jrm 3 70) s m args below meth c H locs 0 0 (MQ below (jQm X A (some (.int r)) N) args s 0 0 A) (F0 m 72 ls [.int t0_4]) := by
        intro M_4 H locs v1_4 v2_4 v3_4 t0_4 ls h hP hS hl
        refine lv_istore (lv' := [(4, .int t0_4), (0, .ref (jO X 16)), (1, .int v1_4), (2, .int v2_4), (3, .int v3_4)]) hx hb dX6_house_72 hl (Nat.le_of_ble_eq_true rfl) rfl (fun ls hl => ?_)
        refine lv_iload hx hb dX6_house_74 (lv_at hl 0 rfl) ?_
        refine lv_if_ge (tgt := 86) hx hb dX6_house_76 rfl (fun c76 => ?_) (fun c76 => ?_)
        · replace h := jh_t h c76
          refine lv_aload_n hx hb dX6_house_86 rfl (lv_at hl 1 rfl) ?_
          refine lv_iload_n hx hb dX6_house_87 rfl (lv_at hl 2 rfl) ?_
          refine lv_iload_n hx hb dX6_house_88 rfl (lv_at hl 3 rfl) ?_
          refine lv_iload_n hx hb dX6_house_89 rfl (lv_at hl 4 rfl) ?_
          obtain ⟨r5, M_5, e5, h⟩ := jh_b2 h
          refine jr_km (jr_rv (As := [.int v1_4, .int v2_4, .int v3_4]) (rest := []) S hK hP jb_16 rfl (m_X6_houseComes l X A hs M_4 v1_4 v2_4 v3_4 r5 M_5 e5) jw_X6_houseComes ji_X6_houseComes jmX6_175 rfl rfl ⟨(Nat.le_of_ble_eq_true rfl), (Nat.le_of_ble_eq_true rfl)⟩ rfl hl.1 rfl (Nat.le_of_ble_eq_true rfl) dX6_house_90 ⟨Nat.zero_le _, Nat.zero_le _⟩) hS (fun H locs hP hS => ?_)
          refine lv_pop hx hb dX6_house_93 rfl ?_
          refine lv_aload_n hx hb dX6_house_94 rfl (lv_at hl 1 rfl) ?_
          refine lv_iconst (v := 0) hx hb dX6_house_95 jci_0 ?_
          refine jr_put (k := 29) (z := 0) hx hb hts hown hK hP hs hS jb_16 (Nat.le_of_ble_eq_true rfl) jlX6_205 rfl (Or.inl rfl) rfl rfl rfl dX6_house_96 (fun H locs hP hS => ?_)
          refine lv_aload_n hx hb dX6_house_99 rfl (lv_at hl 1 rfl) ?_
          refine jr_get (k := 0) hx hb hts hown hK hP jb_16 (Nat.le_of_ble_eq_true rfl) jlX6_89 rfl dX6_house_100 ?_
          refine lv_iconst (v := 1) hx hb dX6_house_103 jci_1 ?_
          refine lv_isub hx hb dX6_house_104 ?_
          exact je_mi hx hb hr hlocks hK hP hS h dX6_house_105
        · replace h := jh_f h c76
          refine lv_aload_n hx hb dX6_house_79 rfl (lv_at hl 1 rfl) ?_
          refine lv_iload hx hb dX6_house_80 (lv_at hl 0 rfl) ?_
          obtain ⟨r6, M_6, e6, h⟩ := jh_b2 h
          refine jr_km (jr_rv (As := [.int t0_4]) (rest := []) S hK hP jb_16 rfl (m_X6_refuse l X A hs M_4 t0_4 r6 M_6 e6) jw_X6_refuse ji_X6_refuse jmX6_143 rfl rfl ⟨(Nat.le_of_ble_eq_true rfl), (Nat.le_of_ble_eq_true rfl)⟩ rfl hl.1 rfl (Nat.le_of_ble_eq_true rfl) dX6_house_82 ⟨Nat.zero_le _, Nat.zero_le _⟩) hS (fun H locs hP hS => ?_)
          exact je_mi hx hb hr hlocks hK hP hS h dX6_house_85
      have J70 : ∀ (M_7 : jm) (H : Heap) (locs : List Loc) (v1_7 : Int32) (v2_7 : Int32) (v3_7 : Int32) (v4_7 : Int32) (ls : Array Slot), f_X6_house_j70 M_7 v1_7 v2_7 v3_7 v4_7 = some (r, N) → jrp X M_7 H → va_S A s.heap H locs → lv_has ls 5 [(0, .ref (jO X 16)), (1, .int v1_7), (2, .int v2_7), (3, .int v3_7), (4, .int v4_7)] → W p l e (jrm 3 70) s m args below meth c H locs 0 0 (MQ below (jQm X A (some (.int r)) N) args s 0 0 A) (F0 m 70 ls []) := by
        intro M_7 H locs v1_7 v2_7 v3_7 v4_7 ls h hP hS hl
        refine lv_iload hx hb dX6_house_70 (lv_at hl 4 rfl) ?_
        exact J72 M_7 _ _ v1_7 v2_7 v3_7 v4_7 _ h hP hS (lv_sub hl [0, 1, 2, 3] rfl)
      refine lv_if_ne (tgt := 70) hx hb dX6_house_56 rfl (fun c56 => ?_) (fun c56 => ?_)
      · replace h := jh_f h c56
        exact J70 M_3 _ _ v1_3 v2_3 v3_3 t0_3 _ h hP hS (lv_sub hl [1, 2, 3, 4, 0] rfl)
      · replace h := jh_t h c56
        refine lv_iload_n hx hb dX6_house_59 rfl (lv_at hl 4 rfl) ?_
        refine jr_kp (jr_rs (As := [.int v3_3]) (rest := []) S hN (m_X6_isCell l v3_3 _ rfl) jw_X6_isCell js_X6_isCell jmX6_139 rfl rfl ⟨(Nat.le_of_ble_eq_true rfl), (Nat.le_of_ble_eq_true rfl)⟩ rfl hl.1 rfl (Nat.le_of_ble_eq_true rfl) dX6_house_60 ⟨Nat.zero_le _, Nat.zero_le _⟩) ?_
        refine lv_if_ne (tgt := 70) hx hb dX6_house_63 rfl (fun c63 => ?_) (fun c63 => ?_)
        · replace h := jh_f h c63
          exact J70 M_3 _ _ v1_3 v2_3 v3_3 t0_3 _ h hP hS (lv_sub hl [1, 2, 3, 4, 0] rfl)
        · replace h := jh_t h c63
          refine lv_iconst (v := (-1)) hx hb dX6_house_66 jci_m1 ?_
          refine lv_goto (tgt := 72) hx hb dX6_house_67 rfl ?_
          exact J72 M_3 _ _ v1_3 v2_3 v3_3 (-1) _ h hP hS (lv_sub hl [1, 2, 3, 4] rfl)
    have J50 : ∀ (M_9 : jm) (H : Heap) (locs : List Loc) (v1_9 : Int32) (v2_9 : Int32) (v3_9 : Int32) (v4_9 : Int32) (ls : Array Slot), f_X6_house_j50 M_9 v1_9 v2_9 v3_9 v4_9 = some (r, N) → jrp X M_9 H → va_S A s.heap H locs → lv_has ls 5 [(0, .ref (jO X 16)), (1, .int v1_9), (2, .int v2_9), (3, .int v3_9), (4, .int v4_9)] → W p l e (jrm 3 70) s m args below meth c H locs 0 0 (MQ below (jQm X A (some (.int r)) N) args s 0 0 A) (F0 m 50 ls []) := by
      intro M_9 H locs v1_9 v2_9 v3_9 v4_9 ls h hP hS hl
      refine lv_iload hx hb dX6_house_50 (lv_at hl 4 rfl) ?_
      exact J52 M_9 _ _ v1_9 v2_9 v3_9 v4_9 _ h hP hS (lv_sub hl [0, 1, 2, 3] rfl)
    refine lv_if_ne (tgt := 50) hx hb dX6_house_33 rfl (fun c33 => ?_) (fun c33 => ?_)
    · replace h := jh_f h c33
      exact J50 M_2 _ _ v1_2 v2_2 v3_2 t0_2 _ h hP hS (lv_sub hl [1, 2, 3, 4, 0] rfl)
    · replace h := jh_t h c33
      refine lv_aload_n hx hb dX6_house_36 rfl (lv_at hl 1 rfl) ?_
      refine jr_get (k := 0) hx hb hts hown hK hP jb_16 (Nat.le_of_ble_eq_true rfl) jlX6_89 rfl dX6_house_37 ?_
      refine lv_bipush (v := 7) hx hb dX6_house_40 jcb_7 ?_
      refine lv_icmp_ne (tgt := 50) hx hb dX6_house_42 rfl (fun c42 => ?_) (fun c42 => ?_)
      · replace h := jh_f h c42
        exact J50 M_2 _ _ v1_2 v2_2 v3_2 t0_2 _ h hP hS (lv_sub hl [1, 2, 3, 4, 0] rfl)
      · replace h := jh_t h c42
        refine lv_bipush (v := (-6)) hx hb dX6_house_45 jcb_m6 ?_
        refine lv_goto (tgt := 52) hx hb dX6_house_47 rfl ?_
        exact J52 M_2 _ _ v1_2 v2_2 v3_2 (-6) _ h hP hS (lv_sub hl [1, 2, 3, 4] rfl)
  refine lv_if_eq (tgt := 27) hx hb dX6_house_14 rfl (fun c14 => ?_) (fun c14 => ?_)
  · replace h := jh_t h c14
    refine lv_bipush (v := (-2)) hx hb dX6_house_27 jcb_m2 ?_
    exact J29 (ju M 16 11 0 0) _ _ v1 v2 v3 (-2) _ h hP hS hl
  · replace h := jh_f h c14
    refine lv_iload_n hx hb dX6_house_17 rfl (lv_at hl 2 rfl) ?_
    refine lv_iconst (v := 0) hx hb dX6_house_18 jci_0 ?_
    refine lv_bipush (v := 9) hx hb dX6_house_19 jcb_9 ?_
    refine jr_kp (jr_rs (As := [.int v2, .int 0, .int 9]) (rest := []) S hN (m_X6_wrongNumber l v2 0 9 _ rfl) jw_X6_wrongNumber js_X6_wrongNumber jmX6_240 rfl rfl ⟨(Nat.le_of_ble_eq_true rfl), (Nat.le_of_ble_eq_true rfl)⟩ rfl hl.1 rfl (Nat.le_of_ble_eq_true rfl) dX6_house_21 ⟨Nat.zero_le _, Nat.zero_le _⟩) ?_
    refine lv_goto (tgt := 29) hx hb dX6_house_24 rfl ?_
    exact J29 (ju M 16 11 0 0) _ _ v1 v2 v3 (f_X6_wrongNumber v2 0 9) _ h hP hS hl
def f_X6_walker_j52 (M_3 : jm) (v1_3 : Int32) (v2_3 : Int32) (v3_3 : Int32) (t0_3 : Int32) : Option (Int32 × jm) := (if 0 ≤ t0_3 then (jb2 (f_X6_walkerComes M_3 v1_3 v2_3 v3_3) fun r4 M_4 => (some ((((ju M_4 16 29 0 0) 16 5 0) - 1), (ju M_4 16 29 0 0)))) else (jb2 (f_X6_refuse M_3 t0_3) fun r5 M_5 => (some (r5, M_5))))
def f_X6_walker_j50 (M_6 : jm) (v1_6 : Int32) (v2_6 : Int32) (v3_6 : Int32) (v4_6 : Int32) : Option (Int32 × jm) := (f_X6_walker_j52 M_6 v1_6 v2_6 v3_6 v4_6)
def f_X6_walker_j29 (M_2 : jm) (v1_2 : Int32) (v2_2 : Int32) (v3_2 : Int32) (t0_2 : Int32) : Option (Int32 × jm) := (if t0_2 = 0 then (if (M_2 16 5 0) = 6 then (f_X6_walker_j52 M_2 v1_2 v2_2 v3_2 (-6)) else (f_X6_walker_j50 M_2 v1_2 v2_2 v3_2 t0_2)) else (f_X6_walker_j50 M_2 v1_2 v2_2 v3_2 t0_2))
def f_X6_walker_j28 (M_7 : jm) (v1_7 : Int32) (v2_7 : Int32) (v3_7 : Int32) : Option (Int32 × jm) := (f_X6_walker_j29 M_7 v1_7 v2_7 v3_7 (-1))
def f_X6_walker (M : jm) (v1 : Int32) (v2 : Int32) (v3 : Int32) : Option (Int32 × jm) := (if (f_X6_isCell v1) = 0 then (f_X6_walker_j28 (ju M 16 11 0 0) v1 v2 v3) else (if (f_X6_isCell v2) = 0 then (f_X6_walker_j28 (ju M 16 11 0 0) v1 v2 v3) else (f_X6_walker_j29 (ju M 16 11 0 0) v1 v2 v3 (f_X6_wrongNumber v3 0 2))))
set_option maxRecDepth 100000 in
theorem m_X6_walker (l : Launch) (X : jX) (A : Nat → Prop) (hs : jst X A) (M : jm) (v1 : Int32) (v2 : Int32) (v3 : Int32) (r : Int32) (N : jm) (h : f_X6_walker M v1 v2 v3 = some (r, N)) : Met l yX6_walker (jws yX6_walker cX6_walker 5 (some .int)) (jrm 3 70) (va_Pc [.ref (jO X 16), .int v1, .int v2, .int v3] (jB X M)) (jQm X A (some (.int r)) N) 0 0 A := by
  refine jm_of (by decide) (Nat.le_of_ble_eq_true rfl) ?_
  intro p e s m args below meth c ls S hr hlocks hB hl
  have S : CallFix p m c cX6_walker 5 s args jtb RX6 := S
  obtain ⟨hx, hb, hml, hown, hts⟩ := id S
  obtain ⟨hP, hK⟩ := hB
  have hN := hK.2
  have hS : va_S A s.heap s.heap [] := va_S.rf
  have hl : lv_has ls 5 [(0, .ref (jO X 16)), (1, .int v1), (2, .int v2), (3, .int v3)] := hl
  refine lv_aload_n hx hb dX6_walker_0 rfl (lv_at hl 0 rfl) ?_
  refine lv_iconst (v := 0) hx hb dX6_walker_1 jci_0 ?_
  refine jr_put (k := 11) (z := 0) hx hb hts hown hK hP hs hS jb_16 (Nat.le_of_ble_eq_true rfl) jlX6_79 rfl (Or.inl rfl) rfl rfl rfl dX6_walker_2 (fun H locs hP hS => ?_)
  refine lv_iload_n hx hb dX6_walker_5 rfl (lv_at hl 1 rfl) ?_
  refine jr_kp (jr_rs (As := [.int v1]) (rest := []) S hN (m_X6_isCell l v1 _ rfl) jw_X6_isCell js_X6_isCell jmX6_139 rfl rfl ⟨(Nat.le_of_ble_eq_true rfl), (Nat.le_of_ble_eq_true rfl)⟩ rfl hl.1 rfl (Nat.le_of_ble_eq_true rfl) dX6_walker_6 ⟨Nat.zero_le _, Nat.zero_le _⟩) ?_
  have J29 : ∀ (M_2 : jm) (H : Heap) (locs : List Loc) (v1_2 : Int32) (v2_2 : Int32) (v3_2 : Int32) (t0_2 : Int32) (ls : Array Slot), f_X6_walker_j29 M_2 v1_2 v2_2 v3_2 t0_2 = some (r, N) → jrp X M_2 H → va_S A s.heap H locs → lv_has ls 5 [(0, .ref (jO X 16)), (1, .int v1_2), (2, .int v2_2), (3, .int v3_2)] → W p l e (jrm 3 70) s m args below meth c H locs 0 0 (MQ below (jQm X A (some (.int r)) N) args s 0 0 A) (F0 m 29 ls [.int t0_2]) := by
    intro M_2 H locs v1_2 v2_2 v3_2 t0_2 ls h hP hS hl
    refine lv_istore (lv' := [(4, .int t0_2), (0, .ref (jO X 16)), (1, .int v1_2), (2, .int v2_2), (3, .int v3_2)]) hx hb dX6_walker_29 hl (Nat.le_of_ble_eq_true rfl) rfl (fun ls hl => ?_)
    refine lv_iload hx hb dX6_walker_31 (lv_at hl 0 rfl) ?_
    have J52 : ∀ (M_3 : jm) (H : Heap) (locs : List Loc) (v1_3 : Int32) (v2_3 : Int32) (v3_3 : Int32) (t0_3 : Int32) (ls : Array Slot), f_X6_walker_j52 M_3 v1_3 v2_3 v3_3 t0_3 = some (r, N) → jrp X M_3 H → va_S A s.heap H locs → lv_has ls 5 [(0, .ref (jO X 16)), (1, .int v1_3), (2, .int v2_3), (3, .int v3_3)] → W p l e (jrm 3 70) s m args below meth c H locs 0 0 (MQ below (jQm X A (some (.int r)) N) args s 0 0 A) (F0 m 52 ls [.int t0_3]) := by
      intro M_3 H locs v1_3 v2_3 v3_3 t0_3 ls h hP hS hl
      refine lv_istore (lv' := [(4, .int t0_3), (0, .ref (jO X 16)), (1, .int v1_3), (2, .int v2_3), (3, .int v3_3)]) hx hb dX6_walker_52 hl (Nat.le_of_ble_eq_true rfl) rfl (fun ls hl => ?_)
      refine lv_iload hx hb dX6_walker_54 (lv_at hl 0 rfl) ?_
      refine lv_if_ge (tgt := 66) hx hb dX6_walker_56 rfl (fun c56 => ?_) (fun c56 => ?_)
      · replace h := jh_t h c56
        refine lv_aload_n hx hb dX6_walker_66 rfl (lv_at hl 1 rfl) ?_
        refine lv_iload_n hx hb dX6_walker_67 rfl (lv_at hl 2 rfl) ?_
        refine lv_iload_n hx hb dX6_walker_68 rfl (lv_at hl 3 rfl) ?_
        refine lv_iload_n hx hb dX6_walker_69 rfl (lv_at hl 4 rfl) ?_
        obtain ⟨r4, M_4, e4, h⟩ := jh_b2 h
        refine jr_km (jr_rv (As := [.int v1_3, .int v2_3, .int v3_3]) (rest := []) S hK hP jb_16 rfl (m_X6_walkerComes l X A hs M_3 v1_3 v2_3 v3_3 r4 M_4 e4) jw_X6_walkerComes ji_X6_walkerComes jmX6_178 rfl rfl ⟨(Nat.le_of_ble_eq_true rfl), (Nat.le_of_ble_eq_true rfl)⟩ rfl hl.1 rfl (Nat.le_of_ble_eq_true rfl) dX6_walker_70 ⟨Nat.zero_le _, Nat.zero_le _⟩) hS (fun H locs hP hS => ?_)
        refine lv_pop hx hb dX6_walker_73 rfl ?_
        refine lv_aload_n hx hb dX6_walker_74 rfl (lv_at hl 1 rfl) ?_
        refine lv_iconst (v := 0) hx hb dX6_walker_75 jci_0 ?_
        refine jr_put (k := 29) (z := 0) hx hb hts hown hK hP hs hS jb_16 (Nat.le_of_ble_eq_true rfl) jlX6_205 rfl (Or.inl rfl) rfl rfl rfl dX6_walker_76 (fun H locs hP hS => ?_)
        refine lv_aload_n hx hb dX6_walker_79 rfl (lv_at hl 1 rfl) ?_
        refine jr_get (k := 5) hx hb hts hown hK hP jb_16 (Nat.le_of_ble_eq_true rfl) jlX6_92 rfl dX6_walker_80 ?_
        refine lv_iconst (v := 1) hx hb dX6_walker_83 jci_1 ?_
        refine lv_isub hx hb dX6_walker_84 ?_
        exact je_mi hx hb hr hlocks hK hP hS h dX6_walker_85
      · replace h := jh_f h c56
        refine lv_aload_n hx hb dX6_walker_59 rfl (lv_at hl 1 rfl) ?_
        refine lv_iload hx hb dX6_walker_60 (lv_at hl 0 rfl) ?_
        obtain ⟨r5, M_5, e5, h⟩ := jh_b2 h
        refine jr_km (jr_rv (As := [.int t0_3]) (rest := []) S hK hP jb_16 rfl (m_X6_refuse l X A hs M_3 t0_3 r5 M_5 e5) jw_X6_refuse ji_X6_refuse jmX6_143 rfl rfl ⟨(Nat.le_of_ble_eq_true rfl), (Nat.le_of_ble_eq_true rfl)⟩ rfl hl.1 rfl (Nat.le_of_ble_eq_true rfl) dX6_walker_62 ⟨Nat.zero_le _, Nat.zero_le _⟩) hS (fun H locs hP hS => ?_)
        exact je_mi hx hb hr hlocks hK hP hS h dX6_walker_65
    have J50 : ∀ (M_6 : jm) (H : Heap) (locs : List Loc) (v1_6 : Int32) (v2_6 : Int32) (v3_6 : Int32) (v4_6 : Int32) (ls : Array Slot), f_X6_walker_j50 M_6 v1_6 v2_6 v3_6 v4_6 = some (r, N) → jrp X M_6 H → va_S A s.heap H locs → lv_has ls 5 [(0, .ref (jO X 16)), (1, .int v1_6), (2, .int v2_6), (3, .int v3_6), (4, .int v4_6)] → W p l e (jrm 3 70) s m args below meth c H locs 0 0 (MQ below (jQm X A (some (.int r)) N) args s 0 0 A) (F0 m 50 ls []) := by
      intro M_6 H locs v1_6 v2_6 v3_6 v4_6 ls h hP hS hl
      refine lv_iload hx hb dX6_walker_50 (lv_at hl 4 rfl) ?_
      exact J52 M_6 _ _ v1_6 v2_6 v3_6 v4_6 _ h hP hS (lv_sub hl [0, 1, 2, 3] rfl)
    refine lv_if_ne (tgt := 50) hx hb dX6_walker_33 rfl (fun c33 => ?_) (fun c33 => ?_)
    · replace h := jh_f h c33
      exact J50 M_2 _ _ v1_2 v2_2 v3_2 t0_2 _ h hP hS (lv_sub hl [1, 2, 3, 4, 0] rfl)
    · replace h := jh_t h c33
      refine lv_aload_n hx hb dX6_walker_36 rfl (lv_at hl 1 rfl) ?_
      refine jr_get (k := 5) hx hb hts hown hK hP jb_16 (Nat.le_of_ble_eq_true rfl) jlX6_92 rfl dX6_walker_37 ?_
      refine lv_bipush (v := 6) hx hb dX6_walker_40 jcb_6 ?_
      refine lv_icmp_ne (tgt := 50) hx hb dX6_walker_42 rfl (fun c42 => ?_) (fun c42 => ?_)
      · replace h := jh_f h c42
        exact J50 M_2 _ _ v1_2 v2_2 v3_2 t0_2 _ h hP hS (lv_sub hl [1, 2, 3, 4, 0] rfl)
      · replace h := jh_t h c42
        refine lv_bipush (v := (-6)) hx hb dX6_walker_45 jcb_m6 ?_
        refine lv_goto (tgt := 52) hx hb dX6_walker_47 rfl ?_
        exact J52 M_2 _ _ v1_2 v2_2 v3_2 (-6) _ h hP hS (lv_sub hl [1, 2, 3, 4] rfl)
  have J28 : ∀ (M_7 : jm) (H : Heap) (locs : List Loc) (v1_7 : Int32) (v2_7 : Int32) (v3_7 : Int32) (ls : Array Slot), f_X6_walker_j28 M_7 v1_7 v2_7 v3_7 = some (r, N) → jrp X M_7 H → va_S A s.heap H locs → lv_has ls 5 [(0, .ref (jO X 16)), (1, .int v1_7), (2, .int v2_7), (3, .int v3_7)] → W p l e (jrm 3 70) s m args below meth c H locs 0 0 (MQ below (jQm X A (some (.int r)) N) args s 0 0 A) (F0 m 28 ls []) := by
    intro M_7 H locs v1_7 v2_7 v3_7 ls h hP hS hl
    refine lv_iconst (v := (-1)) hx hb dX6_walker_28 jci_m1 ?_
    exact J29 M_7 _ _ v1_7 v2_7 v3_7 (-1) _ h hP hS hl
  refine lv_if_eq (tgt := 28) hx hb dX6_walker_9 rfl (fun c9 => ?_) (fun c9 => ?_)
  · replace h := jh_t h c9
    exact J28 (ju M 16 11 0 0) _ _ v1 v2 v3 _ h hP hS hl
  · replace h := jh_f h c9
    refine lv_iload_n hx hb dX6_walker_12 rfl (lv_at hl 2 rfl) ?_
    refine jr_kp (jr_rs (As := [.int v2]) (rest := []) S hN (m_X6_isCell l v2 _ rfl) jw_X6_isCell js_X6_isCell jmX6_139 rfl rfl ⟨(Nat.le_of_ble_eq_true rfl), (Nat.le_of_ble_eq_true rfl)⟩ rfl hl.1 rfl (Nat.le_of_ble_eq_true rfl) dX6_walker_13 ⟨Nat.zero_le _, Nat.zero_le _⟩) ?_
    refine lv_if_eq (tgt := 28) hx hb dX6_walker_16 rfl (fun c16 => ?_) (fun c16 => ?_)
    · replace h := jh_t h c16
      exact J28 (ju M 16 11 0 0) _ _ v1 v2 v3 _ h hP hS hl
    · replace h := jh_f h c16
      refine lv_iload_n hx hb dX6_walker_19 rfl (lv_at hl 3 rfl) ?_
      refine lv_iconst (v := 0) hx hb dX6_walker_20 jci_0 ?_
      refine lv_iconst (v := 2) hx hb dX6_walker_21 jci_2 ?_
      refine jr_kp (jr_rs (As := [.int v3, .int 0, .int 2]) (rest := []) S hN (m_X6_wrongNumber l v3 0 2 _ rfl) jw_X6_wrongNumber js_X6_wrongNumber jmX6_240 rfl rfl ⟨(Nat.le_of_ble_eq_true rfl), (Nat.le_of_ble_eq_true rfl)⟩ rfl hl.1 rfl (Nat.le_of_ble_eq_true rfl) dX6_walker_22 ⟨Nat.zero_le _, Nat.zero_le _⟩) ?_
      refine lv_goto (tgt := 29) hx hb dX6_walker_25 rfl ?_
      exact J29 (ju M 16 11 0 0) _ _ v1 v2 v3 (f_X6_wrongNumber v3 0 2) _ h hP hS hl
def f_X6_lights (M : jm) (v1 : Int32) : Option (Int32 × jm) := (if (f_X6_isHouse (ju M 16 11 0 0) v1) = 0 then (jb2 (f_X6_refuse (ju M 16 11 0 0) (-1)) fun r3 M_3 => (some (r3, M_3))) else (jb (f_X6_keepTurn (ju M 16 11 0 0)) fun M_2 => (jgd v1 8 (jgd v1 8 (jgd v1 8 (some (((ju M_2 16 4 (Int32.toNatClampNeg v1) (1 - (M_2 16 4 (Int32.toNatClampNeg v1)))) 16 4 (Int32.toNatClampNeg v1)), (ju M_2 16 4 (Int32.toNatClampNeg v1) (1 - (M_2 16 4 (Int32.toNatClampNeg v1)))))))))))
set_option maxRecDepth 100000 in
theorem m_X6_lights (l : Launch) (X : jX) (A : Nat → Prop) (hs : jst X A) (M : jm) (v1 : Int32) (r : Int32) (N : jm) (h : f_X6_lights M v1 = some (r, N)) : Met l yX6_lights (jws yX6_lights cX6_lights 2 (some .int)) (jrm 3 65) (va_Pc [.ref (jO X 16), .int v1] (jB X M)) (jQm X A (some (.int r)) N) 0 0 A := by
  refine jm_of (by decide) (Nat.le_of_ble_eq_true rfl) ?_
  intro p e s m args below meth c ls S hr hlocks hB hl
  have S : CallFix p m c cX6_lights 2 s args jtb RX6 := S
  obtain ⟨hx, hb, hml, hown, hts⟩ := id S
  obtain ⟨hP, hK⟩ := hB
  have hN := hK.2
  have hS : va_S A s.heap s.heap [] := va_S.rf
  have hl : lv_has ls 2 [(0, .ref (jO X 16)), (1, .int v1)] := hl
  refine lv_aload_n hx hb dX6_lights_0 rfl (lv_at hl 0 rfl) ?_
  refine lv_iconst (v := 0) hx hb dX6_lights_1 jci_0 ?_
  refine jr_put (k := 11) (z := 0) hx hb hts hown hK hP hs hS jb_16 (Nat.le_of_ble_eq_true rfl) jlX6_79 rfl (Or.inl rfl) rfl rfl rfl dX6_lights_2 (fun H locs hP hS => ?_)
  refine lv_aload_n hx hb dX6_lights_5 rfl (lv_at hl 0 rfl) ?_
  refine lv_iload_n hx hb dX6_lights_6 rfl (lv_at hl 1 rfl) ?_
  refine jr_kp (jr_rv (As := [.int v1]) (rest := []) S hK hP jb_16 rfl (m_X6_isHouse l X (ju M 16 11 0 0) v1 _ rfl) jw_X6_isHouse ji_X6_isHouse jmX6_181 rfl rfl ⟨(Nat.le_of_ble_eq_true rfl), (Nat.le_of_ble_eq_true rfl)⟩ rfl hl.1 rfl (Nat.le_of_ble_eq_true rfl) dX6_lights_7 ⟨Nat.zero_le _, Nat.zero_le _⟩) ?_
  refine lv_if_ne (tgt := 19) hx hb dX6_lights_10 rfl (fun c10 => ?_) (fun c10 => ?_)
  · replace h := jh_f h c10
    refine lv_aload_n hx hb dX6_lights_19 rfl (lv_at hl 0 rfl) ?_
    obtain ⟨M_2, e2, h⟩ := jh_b h
    refine jr_kv (jr_rv (As := []) (rest := []) S hK hP jb_16 rfl (m_X6_keepTurn l X A hs (ju M 16 11 0 0)  M_2 e2) jw_X6_keepTurn ji_X6_keepTurn jmX6_244 rfl rfl ⟨(Nat.le_of_ble_eq_true rfl), (Nat.le_of_ble_eq_true rfl)⟩ rfl hl.1 rfl (Nat.le_of_ble_eq_true rfl) dX6_lights_20 ⟨Nat.zero_le _, Nat.zero_le _⟩) hS (fun H locs hP hS => ?_)
    refine lv_aload_n hx hb dX6_lights_23 rfl (lv_at hl 0 rfl) ?_
    refine jr_get (k := 4) hx hb hts hown hK hP jb_16 (Nat.le_of_ble_eq_true rfl) jlX6_19 rfl dX6_lights_24 ?_
    refine lv_iload_n hx hb dX6_lights_27 rfl (lv_at hl 1 rfl) ?_
    refine lv_iconst (v := 1) hx hb dX6_lights_28 jci_1 ?_
    refine lv_aload_n hx hb dX6_lights_29 rfl (lv_at hl 0 rfl) ?_
    refine jr_get (k := 4) hx hb hts hown hK hP jb_16 (Nat.le_of_ble_eq_true rfl) jlX6_19 rfl dX6_lights_30 ?_
    refine lv_iload_n hx hb dX6_lights_33 rfl (lv_at hl 1 rfl) ?_
    obtain ⟨g34, h⟩ := jh_gd h
    refine jr_ald (n := 8) hx hb hK hP jb_16 rfl g34 dX6_lights_34 ?_
    refine lv_isub hx hb dX6_lights_35 ?_
    obtain ⟨g36, h⟩ := jh_gd h
    refine jr_ast (n := 8) hx hb hK hP hs hS jb_16 rfl g36 dX6_lights_36 (fun H locs hP hS => ?_)
    refine lv_aload_n hx hb dX6_lights_37 rfl (lv_at hl 0 rfl) ?_
    refine jr_get (k := 4) hx hb hts hown hK hP jb_16 (Nat.le_of_ble_eq_true rfl) jlX6_19 rfl dX6_lights_38 ?_
    refine lv_iload_n hx hb dX6_lights_41 rfl (lv_at hl 1 rfl) ?_
    obtain ⟨g42, h⟩ := jh_gd h
    refine jr_ald (n := 8) hx hb hK hP jb_16 rfl g42 dX6_lights_42 ?_
    exact je_mi hx hb hr hlocks hK hP hS h dX6_lights_43
  · replace h := jh_t h c10
    refine lv_aload_n hx hb dX6_lights_13 rfl (lv_at hl 0 rfl) ?_
    refine lv_iconst (v := (-1)) hx hb dX6_lights_14 jci_m1 ?_
    obtain ⟨r3, M_3, e3, h⟩ := jh_b2 h
    refine jr_km (jr_rv (As := [.int (-1)]) (rest := []) S hK hP jb_16 rfl (m_X6_refuse l X A hs (ju M 16 11 0 0) (-1) r3 M_3 e3) jw_X6_refuse ji_X6_refuse jmX6_143 rfl rfl ⟨(Nat.le_of_ble_eq_true rfl), (Nat.le_of_ble_eq_true rfl)⟩ rfl hl.1 rfl (Nat.le_of_ble_eq_true rfl) dX6_lights_15 ⟨Nat.zero_le _, Nat.zero_le _⟩) hS (fun H locs hP hS => ?_)
    exact je_mi hx hb hr hlocks hK hP hS h dX6_lights_18
def f_X6_goals (M : jm) (v1 : Int32) (v2 : Int32) : Option (Int32 × jm) := (if (f_X6_isWalker (ju M 16 11 0 0) v1) = 0 then (jb2 (f_X6_refuse (ju M 16 11 0 0) (-1)) fun r2 M_2 => (some (r2, M_2))) else (if (f_X6_isCell v2) = 0 then (jb2 (f_X6_refuse (ju M 16 11 0 0) (-1)) fun r5 M_5 => (some (r5, M_5))) else (jb (f_X6_keepTurn (ju M 16 11 0 0)) fun M_4 => (jgd v1 6 (jgd v1 6 (some ((M_4 16 7 (Int32.toNatClampNeg v1)), (ju M_4 16 7 (Int32.toNatClampNeg v1) v2))))))))
set_option maxRecDepth 100000 in
theorem m_X6_goals (l : Launch) (X : jX) (A : Nat → Prop) (hs : jst X A) (M : jm) (v1 : Int32) (v2 : Int32) (r : Int32) (N : jm) (h : f_X6_goals M v1 v2 = some (r, N)) : Met l yX6_goals (jws yX6_goals cX6_goals 4 (some .int)) (jrm 3 65) (va_Pc [.ref (jO X 16), .int v1, .int v2] (jB X M)) (jQm X A (some (.int r)) N) 0 0 A := by
  refine jm_of (by decide) (Nat.le_of_ble_eq_true rfl) ?_
  intro p e s m args below meth c ls S hr hlocks hB hl
  have S : CallFix p m c cX6_goals 4 s args jtb RX6 := S
  obtain ⟨hx, hb, hml, hown, hts⟩ := id S
  obtain ⟨hP, hK⟩ := hB
  have hN := hK.2
  have hS : va_S A s.heap s.heap [] := va_S.rf
  have hl : lv_has ls 4 [(0, .ref (jO X 16)), (1, .int v1), (2, .int v2)] := hl
  refine lv_aload_n hx hb dX6_goals_0 rfl (lv_at hl 0 rfl) ?_
  refine lv_iconst (v := 0) hx hb dX6_goals_1 jci_0 ?_
  refine jr_put (k := 11) (z := 0) hx hb hts hown hK hP hs hS jb_16 (Nat.le_of_ble_eq_true rfl) jlX6_79 rfl (Or.inl rfl) rfl rfl rfl dX6_goals_2 (fun H locs hP hS => ?_)
  refine lv_aload_n hx hb dX6_goals_5 rfl (lv_at hl 0 rfl) ?_
  refine lv_iload_n hx hb dX6_goals_6 rfl (lv_at hl 1 rfl) ?_
  refine jr_kp (jr_rv (As := [.int v1]) (rest := []) S hK hP jb_16 rfl (m_X6_isWalker l X (ju M 16 11 0 0) v1 _ rfl) jw_X6_isWalker ji_X6_isWalker jmX6_184 rfl rfl ⟨(Nat.le_of_ble_eq_true rfl), (Nat.le_of_ble_eq_true rfl)⟩ rfl hl.1 rfl (Nat.le_of_ble_eq_true rfl) dX6_goals_7 ⟨Nat.zero_le _, Nat.zero_le _⟩) ?_
  refine lv_if_eq (tgt := 20) hx hb dX6_goals_10 rfl (fun c10 => ?_) (fun c10 => ?_)
  · replace h := jh_t h c10
    refine lv_aload_n hx hb dX6_goals_20 rfl (lv_at hl 0 rfl) ?_
    refine lv_iconst (v := (-1)) hx hb dX6_goals_21 jci_m1 ?_
    obtain ⟨r2, M_2, e2, h⟩ := jh_b2 h
    refine jr_km (jr_rv (As := [.int (-1)]) (rest := []) S hK hP jb_16 rfl (m_X6_refuse l X A hs (ju M 16 11 0 0) (-1) r2 M_2 e2) jw_X6_refuse ji_X6_refuse jmX6_143 rfl rfl ⟨(Nat.le_of_ble_eq_true rfl), (Nat.le_of_ble_eq_true rfl)⟩ rfl hl.1 rfl (Nat.le_of_ble_eq_true rfl) dX6_goals_22 ⟨Nat.zero_le _, Nat.zero_le _⟩) hS (fun H locs hP hS => ?_)
    exact je_mi hx hb hr hlocks hK hP hS h dX6_goals_25
  · replace h := jh_f h c10
    refine lv_iload_n hx hb dX6_goals_13 rfl (lv_at hl 2 rfl) ?_
    refine jr_kp (jr_rs (As := [.int v2]) (rest := []) S hN (m_X6_isCell l v2 _ rfl) jw_X6_isCell js_X6_isCell jmX6_139 rfl rfl ⟨(Nat.le_of_ble_eq_true rfl), (Nat.le_of_ble_eq_true rfl)⟩ rfl hl.1 rfl (Nat.le_of_ble_eq_true rfl) dX6_goals_14 ⟨Nat.zero_le _, Nat.zero_le _⟩) ?_
    refine lv_if_ne (tgt := 26) hx hb dX6_goals_17 rfl (fun c17 => ?_) (fun c17 => ?_)
    · replace h := jh_f h c17
      refine lv_aload_n hx hb dX6_goals_26 rfl (lv_at hl 0 rfl) ?_
      obtain ⟨M_4, e4, h⟩ := jh_b h
      refine jr_kv (jr_rv (As := []) (rest := []) S hK hP jb_16 rfl (m_X6_keepTurn l X A hs (ju M 16 11 0 0)  M_4 e4) jw_X6_keepTurn ji_X6_keepTurn jmX6_244 rfl rfl ⟨(Nat.le_of_ble_eq_true rfl), (Nat.le_of_ble_eq_true rfl)⟩ rfl hl.1 rfl (Nat.le_of_ble_eq_true rfl) dX6_goals_27 ⟨Nat.zero_le _, Nat.zero_le _⟩) hS (fun H locs hP hS => ?_)
      refine lv_aload_n hx hb dX6_goals_30 rfl (lv_at hl 0 rfl) ?_
      refine jr_get (k := 7) hx hb hts hown hK hP jb_16 (Nat.le_of_ble_eq_true rfl) jlX6_25 rfl dX6_goals_31 ?_
      refine lv_iload_n hx hb dX6_goals_34 rfl (lv_at hl 1 rfl) ?_
      obtain ⟨g35, h⟩ := jh_gd h
      refine jr_ald (n := 6) hx hb hK hP jb_16 rfl g35 dX6_goals_35 ?_
      refine lv_istore_n (lv' := [(3, .int (M_4 16 7 (Int32.toNatClampNeg v1))), (0, .ref (jO X 16)), (1, .int v1), (2, .int v2)]) hx hb dX6_goals_36 rfl hl (Nat.le_of_ble_eq_true rfl) rfl (fun ls hl => ?_)
      refine lv_aload_n hx hb dX6_goals_37 rfl (lv_at hl 1 rfl) ?_
      refine jr_get (k := 7) hx hb hts hown hK hP jb_16 (Nat.le_of_ble_eq_true rfl) jlX6_25 rfl dX6_goals_38 ?_
      refine lv_iload_n hx hb dX6_goals_41 rfl (lv_at hl 2 rfl) ?_
      refine lv_iload_n hx hb dX6_goals_42 rfl (lv_at hl 3 rfl) ?_
      obtain ⟨g43, h⟩ := jh_gd h
      refine jr_ast (n := 6) hx hb hK hP hs hS jb_16 rfl g43 dX6_goals_43 (fun H locs hP hS => ?_)
      refine lv_iload_n hx hb dX6_goals_44 rfl (lv_at hl 0 rfl) ?_
      exact je_mi hx hb hr hlocks hK hP hS h dX6_goals_45
    · replace h := jh_t h c17
      refine lv_aload_n hx hb dX6_goals_20 rfl (lv_at hl 0 rfl) ?_
      refine lv_iconst (v := (-1)) hx hb dX6_goals_21 jci_m1 ?_
      obtain ⟨r5, M_5, e5, h⟩ := jh_b2 h
      refine jr_km (jr_rv (As := [.int (-1)]) (rest := []) S hK hP jb_16 rfl (m_X6_refuse l X A hs (ju M 16 11 0 0) (-1) r5 M_5 e5) jw_X6_refuse ji_X6_refuse jmX6_143 rfl rfl ⟨(Nat.le_of_ble_eq_true rfl), (Nat.le_of_ble_eq_true rfl)⟩ rfl hl.1 rfl (Nat.le_of_ble_eq_true rfl) dX6_goals_22 ⟨Nat.zero_le _, Nat.zero_le _⟩) hS (fun H locs hP hS => ?_)
      exact je_mi hx hb hr hlocks hK hP hS h dX6_goals_25
def f_X6_visits_j51 (M_2 : jm) (v1_2 : Int32) (v2_2 : Int32) (t0_2 : Int32) : Option (Int32 × jm) := (if 0 ≤ t0_2 then (jb (f_X6_keepTurn M_2) fun M_3 => (jgd ((7 * v1_2) + v2_2) 42 (jb (f_X6_minutesOf M_3 v2_2 ((M_3 16 9 (Int32.toNatClampNeg ((7 * v1_2) + v2_2))) - 1)) fun r4 => (jgd ((7 * v1_2) + v2_2) 42 (some (r4, (ju M_3 16 9 (Int32.toNatClampNeg ((7 * v1_2) + v2_2)) 0))))))) else (jb2 (f_X6_refuse M_2 t0_2) fun r5 M_5 => (some (r5, M_5))))
def f_X6_visits_j50 (M_6 : jm) (v1_6 : Int32) (v2_6 : Int32) (v3_6 : Int32) : Option (Int32 × jm) := (f_X6_visits_j51 M_6 v1_6 v2_6 v3_6)
def f_X6_visits_j45 (M_7 : jm) (v1_7 : Int32) (v2_7 : Int32) : Option (Int32 × jm) := (f_X6_visits_j51 M_7 v1_7 v2_7 (-3))
def f_X6_visits (M : jm) (v1 : Int32) (v2 : Int32) : Option (Int32 × jm) := (if (f_X6_wrongBoth (ju M 16 11 0 0) v1 v2) = 0 then (jgd ((7 * v1) + v2) 42 (if ((ju M 16 11 0 0) 16 9 (Int32.toNatClampNeg ((7 * v1) + v2))) = 0 then (f_X6_visits_j45 (ju M 16 11 0 0) v1 v2) else (jgd v1 6 (jgd v2 8 (if ((ju M 16 11 0 0) 16 6 (Int32.toNatClampNeg v1)) = ((ju M 16 11 0 0) 16 3 (Int32.toNatClampNeg v2)) then (f_X6_visits_j50 (ju M 16 11 0 0) v1 v2 (f_X6_wrongBoth (ju M 16 11 0 0) v1 v2)) else (f_X6_visits_j45 (ju M 16 11 0 0) v1 v2)))))) else (f_X6_visits_j50 (ju M 16 11 0 0) v1 v2 (f_X6_wrongBoth (ju M 16 11 0 0) v1 v2)))
set_option maxRecDepth 100000 in
theorem m_X6_visits (l : Launch) (X : jX) (A : Nat → Prop) (hs : jst X A) (M : jm) (v1 : Int32) (v2 : Int32) (r : Int32) (N : jm) (h : f_X6_visits M v1 v2 = some (r, N)) : Met l yX6_visits (jws yX6_visits cX6_visits 5 (some .int)) (jrm 3 68) (va_Pc [.ref (jO X 16), .int v1, .int v2] (jB X M)) (jQm X A (some (.int r)) N) 0 0 A := by
  refine jm_of (by decide) (Nat.le_of_ble_eq_true rfl) ?_
  intro p e s m args below meth c ls S hr hlocks hB hl
  have S : CallFix p m c cX6_visits 5 s args jtb RX6 := S
  obtain ⟨hx, hb, hml, hown, hts⟩ := id S
  obtain ⟨hP, hK⟩ := hB
  have hN := hK.2
  have hS : va_S A s.heap s.heap [] := va_S.rf
  have hl : lv_has ls 5 [(0, .ref (jO X 16)), (1, .int v1), (2, .int v2)] := hl
  refine lv_aload_n hx hb dX6_visits_0 rfl (lv_at hl 0 rfl) ?_
  refine lv_iconst (v := 0) hx hb dX6_visits_1 jci_0 ?_
  refine jr_put (k := 11) (z := 0) hx hb hts hown hK hP hs hS jb_16 (Nat.le_of_ble_eq_true rfl) jlX6_79 rfl (Or.inl rfl) rfl rfl rfl dX6_visits_2 (fun H locs hP hS => ?_)
  refine lv_aload_n hx hb dX6_visits_5 rfl (lv_at hl 0 rfl) ?_
  refine lv_iload_n hx hb dX6_visits_6 rfl (lv_at hl 1 rfl) ?_
  refine lv_iload_n hx hb dX6_visits_7 rfl (lv_at hl 2 rfl) ?_
  refine jr_kp (jr_rv (As := [.int v1, .int v2]) (rest := []) S hK hP jb_16 rfl (m_X6_wrongBoth l X (ju M 16 11 0 0) v1 v2 _ rfl) jw_X6_wrongBoth ji_X6_wrongBoth jmX6_237 rfl rfl ⟨(Nat.le_of_ble_eq_true rfl), (Nat.le_of_ble_eq_true rfl)⟩ rfl hl.1 rfl (Nat.le_of_ble_eq_true rfl) dX6_visits_8 ⟨Nat.zero_le _, Nat.zero_le _⟩) ?_
  refine lv_istore_n (lv' := [(3, .int (f_X6_wrongBoth (ju M 16 11 0 0) v1 v2)), (0, .ref (jO X 16)), (1, .int v1), (2, .int v2)]) hx hb dX6_visits_11 rfl hl (Nat.le_of_ble_eq_true rfl) rfl (fun ls hl => ?_)
  refine lv_iload_n hx hb dX6_visits_12 rfl (lv_at hl 0 rfl) ?_
  have J51 : ∀ (M_2 : jm) (H : Heap) (locs : List Loc) (v1_2 : Int32) (v2_2 : Int32) (t0_2 : Int32) (ls : Array Slot), f_X6_visits_j51 M_2 v1_2 v2_2 t0_2 = some (r, N) → jrp X M_2 H → va_S A s.heap H locs → lv_has ls 5 [(0, .ref (jO X 16)), (1, .int v1_2), (2, .int v2_2)] → W p l e (jrm 3 68) s m args below meth c H locs 0 0 (MQ below (jQm X A (some (.int r)) N) args s 0 0 A) (F0 m 51 ls [.int t0_2]) := by
    intro M_2 H locs v1_2 v2_2 t0_2 ls h hP hS hl
    refine lv_istore_n (lv' := [(3, .int t0_2), (0, .ref (jO X 16)), (1, .int v1_2), (2, .int v2_2)]) hx hb dX6_visits_51 rfl hl (Nat.le_of_ble_eq_true rfl) rfl (fun ls hl => ?_)
    refine lv_iload_n hx hb dX6_visits_52 rfl (lv_at hl 0 rfl) ?_
    refine lv_if_ge (tgt := 62) hx hb dX6_visits_53 rfl (fun c53 => ?_) (fun c53 => ?_)
    · replace h := jh_t h c53
      refine lv_aload_n hx hb dX6_visits_62 rfl (lv_at hl 1 rfl) ?_
      obtain ⟨M_3, e3, h⟩ := jh_b h
      refine jr_kv (jr_rv (As := []) (rest := []) S hK hP jb_16 rfl (m_X6_keepTurn l X A hs M_2  M_3 e3) jw_X6_keepTurn ji_X6_keepTurn jmX6_244 rfl rfl ⟨(Nat.le_of_ble_eq_true rfl), (Nat.le_of_ble_eq_true rfl)⟩ rfl hl.1 rfl (Nat.le_of_ble_eq_true rfl) dX6_visits_63 ⟨Nat.zero_le _, Nat.zero_le _⟩) hS (fun H locs hP hS => ?_)
      refine lv_aload_n hx hb dX6_visits_66 rfl (lv_at hl 1 rfl) ?_
      refine lv_iload_n hx hb dX6_visits_67 rfl (lv_at hl 3 rfl) ?_
      refine lv_aload_n hx hb dX6_visits_68 rfl (lv_at hl 1 rfl) ?_
      refine jr_get (k := 9) hx hb hts hown hK hP jb_16 (Nat.le_of_ble_eq_true rfl) jlX6_31 rfl dX6_visits_69 ?_
      refine lv_bipush (v := 7) hx hb dX6_visits_72 jcb_7 ?_
      refine lv_iload_n hx hb dX6_visits_74 rfl (lv_at hl 2 rfl) ?_
      refine lv_imul hx hb dX6_visits_75 ?_
      refine lv_iload_n hx hb dX6_visits_76 rfl (lv_at hl 3 rfl) ?_
      refine lv_iadd hx hb dX6_visits_77 ?_
      obtain ⟨g78, h⟩ := jh_gd h
      refine jr_ald (n := 42) hx hb hK hP jb_16 rfl g78 dX6_visits_78 ?_
      refine lv_iconst (v := 1) hx hb dX6_visits_79 jci_1 ?_
      refine lv_isub hx hb dX6_visits_80 ?_
      obtain ⟨r4, e4, h⟩ := jh_b h
      refine jr_kp (jr_rv (As := [.int v2_2, .int ((M_3 16 9 (Int32.toNatClampNeg ((7 * v1_2) + v2_2))) - 1)]) (rest := []) S hK hP jb_16 rfl (m_X6_minutesOf l X M_3 v2_2 ((M_3 16 9 (Int32.toNatClampNeg ((7 * v1_2) + v2_2))) - 1) r4 e4) jw_X6_minutesOf ji_X6_minutesOf jmX6_110 rfl rfl ⟨(Nat.le_of_ble_eq_true rfl), (Nat.le_of_ble_eq_true rfl)⟩ rfl hl.1 rfl (Nat.le_of_ble_eq_true rfl) dX6_visits_81 ⟨Nat.zero_le _, Nat.zero_le _⟩) ?_
      refine lv_istore (lv' := [(4, .int r4), (3, .int t0_2), (0, .ref (jO X 16)), (1, .int v1_2), (2, .int v2_2)]) hx hb dX6_visits_84 hl (Nat.le_of_ble_eq_true rfl) rfl (fun ls hl => ?_)
      refine lv_aload_n hx hb dX6_visits_86 rfl (lv_at hl 2 rfl) ?_
      refine jr_get (k := 9) hx hb hts hown hK hP jb_16 (Nat.le_of_ble_eq_true rfl) jlX6_31 rfl dX6_visits_87 ?_
      refine lv_bipush (v := 7) hx hb dX6_visits_90 jcb_7 ?_
      refine lv_iload_n hx hb dX6_visits_92 rfl (lv_at hl 3 rfl) ?_
      refine lv_imul hx hb dX6_visits_93 ?_
      refine lv_iload_n hx hb dX6_visits_94 rfl (lv_at hl 4 rfl) ?_
      refine lv_iadd hx hb dX6_visits_95 ?_
      refine lv_iconst (v := 0) hx hb dX6_visits_96 jci_0 ?_
      obtain ⟨g97, h⟩ := jh_gd h
      refine jr_ast (n := 42) hx hb hK hP hs hS jb_16 rfl g97 dX6_visits_97 (fun H locs hP hS => ?_)
      refine lv_iload hx hb dX6_visits_98 (lv_at hl 0 rfl) ?_
      exact je_mi hx hb hr hlocks hK hP hS h dX6_visits_100
    · replace h := jh_f h c53
      refine lv_aload_n hx hb dX6_visits_56 rfl (lv_at hl 1 rfl) ?_
      refine lv_iload_n hx hb dX6_visits_57 rfl (lv_at hl 0 rfl) ?_
      obtain ⟨r5, M_5, e5, h⟩ := jh_b2 h
      refine jr_km (jr_rv (As := [.int t0_2]) (rest := []) S hK hP jb_16 rfl (m_X6_refuse l X A hs M_2 t0_2 r5 M_5 e5) jw_X6_refuse ji_X6_refuse jmX6_143 rfl rfl ⟨(Nat.le_of_ble_eq_true rfl), (Nat.le_of_ble_eq_true rfl)⟩ rfl hl.1 rfl (Nat.le_of_ble_eq_true rfl) dX6_visits_58 ⟨Nat.zero_le _, Nat.zero_le _⟩) hS (fun H locs hP hS => ?_)
      exact je_mi hx hb hr hlocks hK hP hS h dX6_visits_61
  have J50 : ∀ (M_6 : jm) (H : Heap) (locs : List Loc) (v1_6 : Int32) (v2_6 : Int32) (v3_6 : Int32) (ls : Array Slot), f_X6_visits_j50 M_6 v1_6 v2_6 v3_6 = some (r, N) → jrp X M_6 H → va_S A s.heap H locs → lv_has ls 5 [(0, .ref (jO X 16)), (1, .int v1_6), (2, .int v2_6), (3, .int v3_6)] → W p l e (jrm 3 68) s m args below meth c H locs 0 0 (MQ below (jQm X A (some (.int r)) N) args s 0 0 A) (F0 m 50 ls []) := by
    intro M_6 H locs v1_6 v2_6 v3_6 ls h hP hS hl
    refine lv_iload_n hx hb dX6_visits_50 rfl (lv_at hl 3 rfl) ?_
    exact J51 M_6 _ _ v1_6 v2_6 v3_6 _ h hP hS (lv_sub hl [0, 1, 2] rfl)
  refine lv_if_ne (tgt := 50) hx hb dX6_visits_13 rfl (fun c13 => ?_) (fun c13 => ?_)
  · replace h := jh_f h c13
    exact J50 (ju M 16 11 0 0) _ _ v1 v2 (f_X6_wrongBoth (ju M 16 11 0 0) v1 v2) _ h hP hS (lv_sub hl [1, 2, 3, 0] rfl)
  · replace h := jh_t h c13
    refine lv_aload_n hx hb dX6_visits_16 rfl (lv_at hl 1 rfl) ?_
    refine jr_get (k := 9) hx hb hts hown hK hP jb_16 (Nat.le_of_ble_eq_true rfl) jlX6_31 rfl dX6_visits_17 ?_
    refine lv_bipush (v := 7) hx hb dX6_visits_20 jcb_7 ?_
    refine lv_iload_n hx hb dX6_visits_22 rfl (lv_at hl 2 rfl) ?_
    refine lv_imul hx hb dX6_visits_23 ?_
    refine lv_iload_n hx hb dX6_visits_24 rfl (lv_at hl 3 rfl) ?_
    refine lv_iadd hx hb dX6_visits_25 ?_
    obtain ⟨g26, h⟩ := jh_gd h
    refine jr_ald (n := 42) hx hb hK hP jb_16 rfl g26 dX6_visits_26 ?_
    have J45 : ∀ (M_7 : jm) (H : Heap) (locs : List Loc) (v1_7 : Int32) (v2_7 : Int32) (ls : Array Slot), f_X6_visits_j45 M_7 v1_7 v2_7 = some (r, N) → jrp X M_7 H → va_S A s.heap H locs → lv_has ls 5 [(0, .ref (jO X 16)), (1, .int v1_7), (2, .int v2_7)] → W p l e (jrm 3 68) s m args below meth c H locs 0 0 (MQ below (jQm X A (some (.int r)) N) args s 0 0 A) (F0 m 45 ls []) := by
      intro M_7 H locs v1_7 v2_7 ls h hP hS hl
      refine lv_bipush (v := (-3)) hx hb dX6_visits_45 jcb_m3 ?_
      refine lv_goto (tgt := 51) hx hb dX6_visits_47 rfl ?_
      exact J51 M_7 _ _ v1_7 v2_7 (-3) _ h hP hS hl
    refine lv_if_eq (tgt := 45) hx hb dX6_visits_27 rfl (fun c27 => ?_) (fun c27 => ?_)
    · replace h := jh_t h c27
      exact J45 (ju M 16 11 0 0) _ _ v1 v2 _ h hP hS (lv_sub hl [1, 2, 3] rfl)
    · replace h := jh_f h c27
      refine lv_aload_n hx hb dX6_visits_30 rfl (lv_at hl 1 rfl) ?_
      refine jr_get (k := 6) hx hb hts hown hK hP jb_16 (Nat.le_of_ble_eq_true rfl) jlX6_22 rfl dX6_visits_31 ?_
      refine lv_iload_n hx hb dX6_visits_34 rfl (lv_at hl 2 rfl) ?_
      obtain ⟨g35, h⟩ := jh_gd h
      refine jr_ald (n := 6) hx hb hK hP jb_16 rfl g35 dX6_visits_35 ?_
      refine lv_aload_n hx hb dX6_visits_36 rfl (lv_at hl 1 rfl) ?_
      refine jr_get (k := 3) hx hb hts hown hK hP jb_16 (Nat.le_of_ble_eq_true rfl) jlX6_16 rfl dX6_visits_37 ?_
      refine lv_iload_n hx hb dX6_visits_40 rfl (lv_at hl 3 rfl) ?_
      obtain ⟨g41, h⟩ := jh_gd h
      refine jr_ald (n := 8) hx hb hK hP jb_16 rfl g41 dX6_visits_41 ?_
      refine lv_icmp_eq (tgt := 50) hx hb dX6_visits_42 rfl (fun c42 => ?_) (fun c42 => ?_)
      · replace h := jh_t h c42
        exact J50 (ju M 16 11 0 0) _ _ v1 v2 (f_X6_wrongBoth (ju M 16 11 0 0) v1 v2) _ h hP hS (lv_sub hl [1, 2, 3, 0] rfl)
      · replace h := jh_f h c42
        exact J45 (ju M 16 11 0 0) _ _ v1 v2 _ h hP hS (lv_sub hl [1, 2, 3] rfl)
def f_X6_trades_j81 (M_3 : jm) (v1_3 : Int32) (v2_3 : Int32) (v3_3 : Int32) (t0_3 : Int32) : Option (Int32 × jm) := (if 0 ≤ t0_3 then (jb (f_X6_keepTurn M_3) fun M_4 => (jgd ((7 * v2_3) + v1_3) 42 (jgd ((7 * v3_3) + v1_3) 42 (jgd ((7 * v2_3) + v1_3) 42 (jgd ((7 * v3_3) + v1_3) 42 (some ((((ju (ju M_4 16 9 (Int32.toNatClampNeg ((7 * v3_3) + v1_3)) (M_4 16 9 (Int32.toNatClampNeg ((7 * v2_3) + v1_3)))) 16 9 (Int32.toNatClampNeg ((7 * v2_3) + v1_3)) 0) 16 9 (Int32.toNatClampNeg ((7 * v3_3) + v1_3))) - 1), (ju (ju M_4 16 9 (Int32.toNatClampNeg ((7 * v3_3) + v1_3)) (M_4 16 9 (Int32.toNatClampNeg ((7 * v2_3) + v1_3)))) 16 9 (Int32.toNatClampNeg ((7 * v2_3) + v1_3)) 0)))))))) else (jb2 (f_X6_refuse M_3 t0_3) fun r5 M_5 => (some (r5, M_5))))
def f_X6_trades_j79 (M_6 : jm) (v1_6 : Int32) (v2_6 : Int32) (v3_6 : Int32) (v4_6 : Int32) : Option (Int32 × jm) := (f_X6_trades_j81 M_6 v1_6 v2_6 v3_6 v4_6)
def f_X6_trades_j74 (M_7 : jm) (v1_7 : Int32) (v2_7 : Int32) (v3_7 : Int32) : Option (Int32 × jm) := (f_X6_trades_j81 M_7 v1_7 v2_7 v3_7 (-3))
def f_X6_trades_j39 (M_2 : jm) (v1_2 : Int32) (v2_2 : Int32) (v3_2 : Int32) (t0_2 : Int32) : Option (Int32 × jm) := (if t0_2 = 0 then (jgd ((7 * v2_2) + v1_2) 42 (if (M_2 16 9 (Int32.toNatClampNeg ((7 * v2_2) + v1_2))) = 0 then (f_X6_trades_j74 M_2 v1_2 v2_2 v3_2) else (jgd ((7 * v3_2) + v1_2) 42 (if (M_2 16 9 (Int32.toNatClampNeg ((7 * v3_2) + v1_2))) ≤ 0 then (f_X6_trades_j79 M_2 v1_2 v2_2 v3_2 t0_2) else (f_X6_trades_j74 M_2 v1_2 v2_2 v3_2))))) else (f_X6_trades_j79 M_2 v1_2 v2_2 v3_2 t0_2))
def f_X6_trades_j38 (M_8 : jm) (v1_8 : Int32) (v2_8 : Int32) (v3_8 : Int32) : Option (Int32 × jm) := (f_X6_trades_j39 M_8 v1_8 v2_8 v3_8 (-1))
def f_X6_trades (M : jm) (v1 : Int32) (v2 : Int32) (v3 : Int32) : Option (Int32 × jm) := (if (f_X6_isHouse (ju M 16 11 0 0) v1) = 0 then (f_X6_trades_j38 (ju M 16 11 0 0) v1 v2 v3) else (if (f_X6_isWalker (ju M 16 11 0 0) v2) = 0 then (f_X6_trades_j38 (ju M 16 11 0 0) v1 v2 v3) else (if (f_X6_isWalker (ju M 16 11 0 0) v3) = 0 then (f_X6_trades_j38 (ju M 16 11 0 0) v1 v2 v3) else (if v2 = v3 then (f_X6_trades_j38 (ju M 16 11 0 0) v1 v2 v3) else (f_X6_trades_j39 (ju M 16 11 0 0) v1 v2 v3 0)))))
set_option maxRecDepth 100000 in
theorem m_X6_trades (l : Launch) (X : jX) (A : Nat → Prop) (hs : jst X A) (M : jm) (v1 : Int32) (v2 : Int32) (v3 : Int32) (r : Int32) (N : jm) (h : f_X6_trades M v1 v2 v3 = some (r, N)) : Met l yX6_trades (jws yX6_trades cX6_trades 5 (some .int)) (jrm 3 65) (va_Pc [.ref (jO X 16), .int v1, .int v2, .int v3] (jB X M)) (jQm X A (some (.int r)) N) 0 0 A := by
  refine jm_of (by decide) (Nat.le_of_ble_eq_true rfl) ?_
  intro p e s m args below meth c ls S hr hlocks hB hl
  have S : CallFix p m c cX6_trades 5 s args jtb RX6 := S
  obtain ⟨hx, hb, hml, hown, hts⟩ := id S
  obtain ⟨hP, hK⟩ := hB
  have hN := hK.2
  have hS : va_S A s.heap s.heap [] := va_S.rf
  have hl : lv_has ls 5 [(0, .ref (jO X 16)), (1, .int v1), (2, .int v2), (3, .int v3)] := hl
  refine lv_aload_n hx hb dX6_trades_0 rfl (lv_at hl 0 rfl) ?_
  refine lv_iconst (v := 0) hx hb dX6_trades_1 jci_0 ?_
  refine jr_put (k := 11) (z := 0) hx hb hts hown hK hP hs hS jb_16 (Nat.le_of_ble_eq_true rfl) jlX6_79 rfl (Or.inl rfl) rfl rfl rfl dX6_trades_2 (fun H locs hP hS => ?_)
  refine lv_aload_n hx hb dX6_trades_5 rfl (lv_at hl 0 rfl) ?_
  refine lv_iload_n hx hb dX6_trades_6 rfl (lv_at hl 1 rfl) ?_
  refine jr_kp (jr_rv (As := [.int v1]) (rest := []) S hK hP jb_16 rfl (m_X6_isHouse l X (ju M 16 11 0 0) v1 _ rfl) jw_X6_isHouse ji_X6_isHouse jmX6_181 rfl rfl ⟨(Nat.le_of_ble_eq_true rfl), (Nat.le_of_ble_eq_true rfl)⟩ rfl hl.1 rfl (Nat.le_of_ble_eq_true rfl) dX6_trades_7 ⟨Nat.zero_le _, Nat.zero_le _⟩) ?_
  have J39 : ∀ (M_2 : jm) (H : Heap) (locs : List Loc) (v1_2 : Int32) (v2_2 : Int32) (v3_2 : Int32) (t0_2 : Int32) (ls : Array Slot), f_X6_trades_j39 M_2 v1_2 v2_2 v3_2 t0_2 = some (r, N) → jrp X M_2 H → va_S A s.heap H locs → lv_has ls 5 [(0, .ref (jO X 16)), (1, .int v1_2), (2, .int v2_2), (3, .int v3_2)] → W p l e (jrm 3 65) s m args below meth c H locs 0 0 (MQ below (jQm X A (some (.int r)) N) args s 0 0 A) (F0 m 39 ls [.int t0_2]) := by
    intro M_2 H locs v1_2 v2_2 v3_2 t0_2 ls h hP hS hl
    refine lv_istore (lv' := [(4, .int t0_2), (0, .ref (jO X 16)), (1, .int v1_2), (2, .int v2_2), (3, .int v3_2)]) hx hb dX6_trades_39 hl (Nat.le_of_ble_eq_true rfl) rfl (fun ls hl => ?_)
    refine lv_iload hx hb dX6_trades_41 (lv_at hl 0 rfl) ?_
    have J81 : ∀ (M_3 : jm) (H : Heap) (locs : List Loc) (v1_3 : Int32) (v2_3 : Int32) (v3_3 : Int32) (t0_3 : Int32) (ls : Array Slot), f_X6_trades_j81 M_3 v1_3 v2_3 v3_3 t0_3 = some (r, N) → jrp X M_3 H → va_S A s.heap H locs → lv_has ls 5 [(0, .ref (jO X 16)), (1, .int v1_3), (2, .int v2_3), (3, .int v3_3)] → W p l e (jrm 3 65) s m args below meth c H locs 0 0 (MQ below (jQm X A (some (.int r)) N) args s 0 0 A) (F0 m 81 ls [.int t0_3]) := by
      intro M_3 H locs v1_3 v2_3 v3_3 t0_3 ls h hP hS hl
      refine lv_istore (lv' := [(4, .int t0_3), (0, .ref (jO X 16)), (1, .int v1_3), (2, .int v2_3), (3, .int v3_3)]) hx hb dX6_trades_81 hl (Nat.le_of_ble_eq_true rfl) rfl (fun ls hl => ?_)
      refine lv_iload hx hb dX6_trades_83 (lv_at hl 0 rfl) ?_
      refine lv_if_ge (tgt := 95) hx hb dX6_trades_85 rfl (fun c85 => ?_) (fun c85 => ?_)
      · replace h := jh_t h c85
        refine lv_aload_n hx hb dX6_trades_95 rfl (lv_at hl 1 rfl) ?_
        obtain ⟨M_4, e4, h⟩ := jh_b h
        refine jr_kv (jr_rv (As := []) (rest := []) S hK hP jb_16 rfl (m_X6_keepTurn l X A hs M_3  M_4 e4) jw_X6_keepTurn ji_X6_keepTurn jmX6_244 rfl rfl ⟨(Nat.le_of_ble_eq_true rfl), (Nat.le_of_ble_eq_true rfl)⟩ rfl hl.1 rfl (Nat.le_of_ble_eq_true rfl) dX6_trades_96 ⟨Nat.zero_le _, Nat.zero_le _⟩) hS (fun H locs hP hS => ?_)
        refine lv_aload_n hx hb dX6_trades_99 rfl (lv_at hl 1 rfl) ?_
        refine jr_get (k := 9) hx hb hts hown hK hP jb_16 (Nat.le_of_ble_eq_true rfl) jlX6_31 rfl dX6_trades_100 ?_
        refine lv_bipush (v := 7) hx hb dX6_trades_103 jcb_7 ?_
        refine lv_iload_n hx hb dX6_trades_105 rfl (lv_at hl 4 rfl) ?_
        refine lv_imul hx hb dX6_trades_106 ?_
        refine lv_iload_n hx hb dX6_trades_107 rfl (lv_at hl 2 rfl) ?_
        refine lv_iadd hx hb dX6_trades_108 ?_
        refine lv_aload_n hx hb dX6_trades_109 rfl (lv_at hl 1 rfl) ?_
        refine jr_get (k := 9) hx hb hts hown hK hP jb_16 (Nat.le_of_ble_eq_true rfl) jlX6_31 rfl dX6_trades_110 ?_
        refine lv_bipush (v := 7) hx hb dX6_trades_113 jcb_7 ?_
        refine lv_iload_n hx hb dX6_trades_115 rfl (lv_at hl 3 rfl) ?_
        refine lv_imul hx hb dX6_trades_116 ?_
        refine lv_iload_n hx hb dX6_trades_117 rfl (lv_at hl 2 rfl) ?_
        refine lv_iadd hx hb dX6_trades_118 ?_
        obtain ⟨g119, h⟩ := jh_gd h
        refine jr_ald (n := 42) hx hb hK hP jb_16 rfl g119 dX6_trades_119 ?_
        obtain ⟨g120, h⟩ := jh_gd h
        refine jr_ast (n := 42) hx hb hK hP hs hS jb_16 rfl g120 dX6_trades_120 (fun H locs hP hS => ?_)
        refine lv_aload_n hx hb dX6_trades_121 rfl (lv_at hl 1 rfl) ?_
        refine jr_get (k := 9) hx hb hts hown hK hP jb_16 (Nat.le_of_ble_eq_true rfl) jlX6_31 rfl dX6_trades_122 ?_
        refine lv_bipush (v := 7) hx hb dX6_trades_125 jcb_7 ?_
        refine lv_iload_n hx hb dX6_trades_127 rfl (lv_at hl 3 rfl) ?_
        refine lv_imul hx hb dX6_trades_128 ?_
        refine lv_iload_n hx hb dX6_trades_129 rfl (lv_at hl 2 rfl) ?_
        refine lv_iadd hx hb dX6_trades_130 ?_
        refine lv_iconst (v := 0) hx hb dX6_trades_131 jci_0 ?_
        obtain ⟨g132, h⟩ := jh_gd h
        refine jr_ast (n := 42) hx hb hK hP hs hS jb_16 rfl g132 dX6_trades_132 (fun H locs hP hS => ?_)
        refine lv_aload_n hx hb dX6_trades_133 rfl (lv_at hl 1 rfl) ?_
        refine jr_get (k := 9) hx hb hts hown hK hP jb_16 (Nat.le_of_ble_eq_true rfl) jlX6_31 rfl dX6_trades_134 ?_
        refine lv_bipush (v := 7) hx hb dX6_trades_137 jcb_7 ?_
        refine lv_iload_n hx hb dX6_trades_139 rfl (lv_at hl 4 rfl) ?_
        refine lv_imul hx hb dX6_trades_140 ?_
        refine lv_iload_n hx hb dX6_trades_141 rfl (lv_at hl 2 rfl) ?_
        refine lv_iadd hx hb dX6_trades_142 ?_
        obtain ⟨g143, h⟩ := jh_gd h
        refine jr_ald (n := 42) hx hb hK hP jb_16 rfl g143 dX6_trades_143 ?_
        refine lv_iconst (v := 1) hx hb dX6_trades_144 jci_1 ?_
        refine lv_isub hx hb dX6_trades_145 ?_
        exact je_mi hx hb hr hlocks hK hP hS h dX6_trades_146
      · replace h := jh_f h c85
        refine lv_aload_n hx hb dX6_trades_88 rfl (lv_at hl 1 rfl) ?_
        refine lv_iload hx hb dX6_trades_89 (lv_at hl 0 rfl) ?_
        obtain ⟨r5, M_5, e5, h⟩ := jh_b2 h
        refine jr_km (jr_rv (As := [.int t0_3]) (rest := []) S hK hP jb_16 rfl (m_X6_refuse l X A hs M_3 t0_3 r5 M_5 e5) jw_X6_refuse ji_X6_refuse jmX6_143 rfl rfl ⟨(Nat.le_of_ble_eq_true rfl), (Nat.le_of_ble_eq_true rfl)⟩ rfl hl.1 rfl (Nat.le_of_ble_eq_true rfl) dX6_trades_91 ⟨Nat.zero_le _, Nat.zero_le _⟩) hS (fun H locs hP hS => ?_)
        exact je_mi hx hb hr hlocks hK hP hS h dX6_trades_94
    have J79 : ∀ (M_6 : jm) (H : Heap) (locs : List Loc) (v1_6 : Int32) (v2_6 : Int32) (v3_6 : Int32) (v4_6 : Int32) (ls : Array Slot), f_X6_trades_j79 M_6 v1_6 v2_6 v3_6 v4_6 = some (r, N) → jrp X M_6 H → va_S A s.heap H locs → lv_has ls 5 [(0, .ref (jO X 16)), (1, .int v1_6), (2, .int v2_6), (3, .int v3_6), (4, .int v4_6)] → W p l e (jrm 3 65) s m args below meth c H locs 0 0 (MQ below (jQm X A (some (.int r)) N) args s 0 0 A) (F0 m 79 ls []) := by
      intro M_6 H locs v1_6 v2_6 v3_6 v4_6 ls h hP hS hl
      refine lv_iload hx hb dX6_trades_79 (lv_at hl 4 rfl) ?_
      exact J81 M_6 _ _ v1_6 v2_6 v3_6 v4_6 _ h hP hS (lv_sub hl [0, 1, 2, 3] rfl)
    refine lv_if_ne (tgt := 79) hx hb dX6_trades_43 rfl (fun c43 => ?_) (fun c43 => ?_)
    · replace h := jh_f h c43
      exact J79 M_2 _ _ v1_2 v2_2 v3_2 t0_2 _ h hP hS (lv_sub hl [1, 2, 3, 4, 0] rfl)
    · replace h := jh_t h c43
      refine lv_aload_n hx hb dX6_trades_46 rfl (lv_at hl 1 rfl) ?_
      refine jr_get (k := 9) hx hb hts hown hK hP jb_16 (Nat.le_of_ble_eq_true rfl) jlX6_31 rfl dX6_trades_47 ?_
      refine lv_bipush (v := 7) hx hb dX6_trades_50 jcb_7 ?_
      refine lv_iload_n hx hb dX6_trades_52 rfl (lv_at hl 3 rfl) ?_
      refine lv_imul hx hb dX6_trades_53 ?_
      refine lv_iload_n hx hb dX6_trades_54 rfl (lv_at hl 2 rfl) ?_
      refine lv_iadd hx hb dX6_trades_55 ?_
      obtain ⟨g56, h⟩ := jh_gd h
      refine jr_ald (n := 42) hx hb hK hP jb_16 rfl g56 dX6_trades_56 ?_
      have J74 : ∀ (M_7 : jm) (H : Heap) (locs : List Loc) (v1_7 : Int32) (v2_7 : Int32) (v3_7 : Int32) (ls : Array Slot), f_X6_trades_j74 M_7 v1_7 v2_7 v3_7 = some (r, N) → jrp X M_7 H → va_S A s.heap H locs → lv_has ls 5 [(0, .ref (jO X 16)), (1, .int v1_7), (2, .int v2_7), (3, .int v3_7)] → W p l e (jrm 3 65) s m args below meth c H locs 0 0 (MQ below (jQm X A (some (.int r)) N) args s 0 0 A) (F0 m 74 ls []) := by
        intro M_7 H locs v1_7 v2_7 v3_7 ls h hP hS hl
        refine lv_bipush (v := (-3)) hx hb dX6_trades_74 jcb_m3 ?_
        refine lv_goto (tgt := 81) hx hb dX6_trades_76 rfl ?_
        exact J81 M_7 _ _ v1_7 v2_7 v3_7 (-3) _ h hP hS hl
      refine lv_if_eq (tgt := 74) hx hb dX6_trades_57 rfl (fun c57 => ?_) (fun c57 => ?_)
      · replace h := jh_t h c57
        exact J74 M_2 _ _ v1_2 v2_2 v3_2 _ h hP hS (lv_sub hl [1, 2, 3, 4] rfl)
      · replace h := jh_f h c57
        refine lv_aload_n hx hb dX6_trades_60 rfl (lv_at hl 1 rfl) ?_
        refine jr_get (k := 9) hx hb hts hown hK hP jb_16 (Nat.le_of_ble_eq_true rfl) jlX6_31 rfl dX6_trades_61 ?_
        refine lv_bipush (v := 7) hx hb dX6_trades_64 jcb_7 ?_
        refine lv_iload_n hx hb dX6_trades_66 rfl (lv_at hl 4 rfl) ?_
        refine lv_imul hx hb dX6_trades_67 ?_
        refine lv_iload_n hx hb dX6_trades_68 rfl (lv_at hl 2 rfl) ?_
        refine lv_iadd hx hb dX6_trades_69 ?_
        obtain ⟨g70, h⟩ := jh_gd h
        refine jr_ald (n := 42) hx hb hK hP jb_16 rfl g70 dX6_trades_70 ?_
        refine lv_if_le (tgt := 79) hx hb dX6_trades_71 rfl (fun c71 => ?_) (fun c71 => ?_)
        · replace h := jh_t h c71
          exact J79 M_2 _ _ v1_2 v2_2 v3_2 t0_2 _ h hP hS (lv_sub hl [1, 2, 3, 4, 0] rfl)
        · replace h := jh_f h c71
          exact J74 M_2 _ _ v1_2 v2_2 v3_2 _ h hP hS (lv_sub hl [1, 2, 3, 4] rfl)
  have J38 : ∀ (M_8 : jm) (H : Heap) (locs : List Loc) (v1_8 : Int32) (v2_8 : Int32) (v3_8 : Int32) (ls : Array Slot), f_X6_trades_j38 M_8 v1_8 v2_8 v3_8 = some (r, N) → jrp X M_8 H → va_S A s.heap H locs → lv_has ls 5 [(0, .ref (jO X 16)), (1, .int v1_8), (2, .int v2_8), (3, .int v3_8)] → W p l e (jrm 3 65) s m args below meth c H locs 0 0 (MQ below (jQm X A (some (.int r)) N) args s 0 0 A) (F0 m 38 ls []) := by
    intro M_8 H locs v1_8 v2_8 v3_8 ls h hP hS hl
    refine lv_iconst (v := (-1)) hx hb dX6_trades_38 jci_m1 ?_
    exact J39 M_8 _ _ v1_8 v2_8 v3_8 (-1) _ h hP hS hl
  refine lv_if_eq (tgt := 38) hx hb dX6_trades_10 rfl (fun c10 => ?_) (fun c10 => ?_)
  · replace h := jh_t h c10
    exact J38 (ju M 16 11 0 0) _ _ v1 v2 v3 _ h hP hS hl
  · replace h := jh_f h c10
    refine lv_aload_n hx hb dX6_trades_13 rfl (lv_at hl 0 rfl) ?_
    refine lv_iload_n hx hb dX6_trades_14 rfl (lv_at hl 2 rfl) ?_
    refine jr_kp (jr_rv (As := [.int v2]) (rest := []) S hK hP jb_16 rfl (m_X6_isWalker l X (ju M 16 11 0 0) v2 _ rfl) jw_X6_isWalker ji_X6_isWalker jmX6_184 rfl rfl ⟨(Nat.le_of_ble_eq_true rfl), (Nat.le_of_ble_eq_true rfl)⟩ rfl hl.1 rfl (Nat.le_of_ble_eq_true rfl) dX6_trades_15 ⟨Nat.zero_le _, Nat.zero_le _⟩) ?_
    refine lv_if_eq (tgt := 38) hx hb dX6_trades_18 rfl (fun c18 => ?_) (fun c18 => ?_)
    · replace h := jh_t h c18
      exact J38 (ju M 16 11 0 0) _ _ v1 v2 v3 _ h hP hS hl
    · replace h := jh_f h c18
      refine lv_aload_n hx hb dX6_trades_21 rfl (lv_at hl 0 rfl) ?_
      refine lv_iload_n hx hb dX6_trades_22 rfl (lv_at hl 3 rfl) ?_
      refine jr_kp (jr_rv (As := [.int v3]) (rest := []) S hK hP jb_16 rfl (m_X6_isWalker l X (ju M 16 11 0 0) v3 _ rfl) jw_X6_isWalker ji_X6_isWalker jmX6_184 rfl rfl ⟨(Nat.le_of_ble_eq_true rfl), (Nat.le_of_ble_eq_true rfl)⟩ rfl hl.1 rfl (Nat.le_of_ble_eq_true rfl) dX6_trades_23 ⟨Nat.zero_le _, Nat.zero_le _⟩) ?_
      refine lv_if_eq (tgt := 38) hx hb dX6_trades_26 rfl (fun c26 => ?_) (fun c26 => ?_)
      · replace h := jh_t h c26
        exact J38 (ju M 16 11 0 0) _ _ v1 v2 v3 _ h hP hS hl
      · replace h := jh_f h c26
        refine lv_iload_n hx hb dX6_trades_29 rfl (lv_at hl 2 rfl) ?_
        refine lv_iload_n hx hb dX6_trades_30 rfl (lv_at hl 3 rfl) ?_
        refine lv_icmp_eq (tgt := 38) hx hb dX6_trades_31 rfl (fun c31 => ?_) (fun c31 => ?_)
        · replace h := jh_t h c31
          exact J38 (ju M 16 11 0 0) _ _ v1 v2 v3 _ h hP hS hl
        · replace h := jh_f h c31
          refine lv_iconst (v := 0) hx hb dX6_trades_34 jci_0 ?_
          refine lv_goto (tgt := 39) hx hb dX6_trades_35 rfl ?_
          exact J39 (ju M 16 11 0 0) _ _ v1 v2 v3 0 _ h hP hS hl
def f_X6_evenings_j35 (M_2 : jm) (v1_2 : Int32) (t0_2 : Int32) : Option (Int32 × jm) := (if 0 ≤ t0_2 then (jb (f_X6_keepTurn M_2) fun M_3 => (jb (f_X6_goEvenings M_3 v1_2) fun M_4 => (jb (f_X6_allDebts M_4) fun r5 => (some (r5, M_4))))) else (jb2 (f_X6_refuse M_2 t0_2) fun r6 M_6 => (some (r6, M_6))))
def f_X6_evenings_j34 (M_7 : jm) (v1_7 : Int32) (v2_7 : Int32) : Option (Int32 × jm) := (f_X6_evenings_j35 M_7 v1_7 v2_7)
def f_X6_evenings (M : jm) (v1 : Int32) : Option (Int32 × jm) := (if (f_X6_wrongNumber v1 1 60) = 0 then (if (((ju M 16 11 0 0) 16 10 0) + v1) ≤ 999 then (f_X6_evenings_j34 (ju M 16 11 0 0) v1 (f_X6_wrongNumber v1 1 60)) else (f_X6_evenings_j35 (ju M 16 11 0 0) v1 (-6))) else (f_X6_evenings_j34 (ju M 16 11 0 0) v1 (f_X6_wrongNumber v1 1 60)))
set_option maxRecDepth 100000 in
theorem m_X6_evenings (l : Launch) (X : jX) (A : Nat → Prop) (hs : jst X A) (M : jm) (v1 : Int32) (r : Int32) (N : jm) (h : f_X6_evenings M v1 = some (r, N)) : Met l yX6_evenings (jws yX6_evenings cX6_evenings 3 (some .int)) (jrm 6 136) (va_Pc [.ref (jO X 16), .int v1] (jB X M)) (jQm X A (some (.int r)) N) 0 0 A := by
  refine jm_of (by decide) (Nat.le_of_ble_eq_true rfl) ?_
  intro p e s m args below meth c ls S hr hlocks hB hl
  have S : CallFix p m c cX6_evenings 3 s args jtb RX6 := S
  obtain ⟨hx, hb, hml, hown, hts⟩ := id S
  obtain ⟨hP, hK⟩ := hB
  have hN := hK.2
  have hS : va_S A s.heap s.heap [] := va_S.rf
  have hl : lv_has ls 3 [(0, .ref (jO X 16)), (1, .int v1)] := hl
  refine lv_aload_n hx hb dX6_evenings_0 rfl (lv_at hl 0 rfl) ?_
  refine lv_iconst (v := 0) hx hb dX6_evenings_1 jci_0 ?_
  refine jr_put (k := 11) (z := 0) hx hb hts hown hK hP hs hS jb_16 (Nat.le_of_ble_eq_true rfl) jlX6_79 rfl (Or.inl rfl) rfl rfl rfl dX6_evenings_2 (fun H locs hP hS => ?_)
  refine lv_iload_n hx hb dX6_evenings_5 rfl (lv_at hl 1 rfl) ?_
  refine lv_iconst (v := 1) hx hb dX6_evenings_6 jci_1 ?_
  refine lv_bipush (v := 60) hx hb dX6_evenings_7 jcb_60 ?_
  refine jr_kp (jr_rs (As := [.int v1, .int 1, .int 60]) (rest := []) S hN (m_X6_wrongNumber l v1 1 60 _ rfl) jw_X6_wrongNumber js_X6_wrongNumber jmX6_240 rfl rfl ⟨(Nat.le_of_ble_eq_true rfl), (Nat.le_of_ble_eq_true rfl)⟩ rfl hl.1 rfl (Nat.le_of_ble_eq_true rfl) dX6_evenings_9 ⟨Nat.zero_le _, Nat.zero_le _⟩) ?_
  refine lv_istore_n (lv' := [(2, .int (f_X6_wrongNumber v1 1 60)), (0, .ref (jO X 16)), (1, .int v1)]) hx hb dX6_evenings_12 rfl hl (Nat.le_of_ble_eq_true rfl) rfl (fun ls hl => ?_)
  refine lv_iload_n hx hb dX6_evenings_13 rfl (lv_at hl 0 rfl) ?_
  have J35 : ∀ (M_2 : jm) (H : Heap) (locs : List Loc) (v1_2 : Int32) (t0_2 : Int32) (ls : Array Slot), f_X6_evenings_j35 M_2 v1_2 t0_2 = some (r, N) → jrp X M_2 H → va_S A s.heap H locs → lv_has ls 3 [(0, .ref (jO X 16)), (1, .int v1_2)] → W p l e (jrm 6 136) s m args below meth c H locs 0 0 (MQ below (jQm X A (some (.int r)) N) args s 0 0 A) (F0 m 35 ls [.int t0_2]) := by
    intro M_2 H locs v1_2 t0_2 ls h hP hS hl
    refine lv_istore_n (lv' := [(2, .int t0_2), (0, .ref (jO X 16)), (1, .int v1_2)]) hx hb dX6_evenings_35 rfl hl (Nat.le_of_ble_eq_true rfl) rfl (fun ls hl => ?_)
    refine lv_iload_n hx hb dX6_evenings_36 rfl (lv_at hl 0 rfl) ?_
    refine lv_if_ge (tgt := 46) hx hb dX6_evenings_37 rfl (fun c37 => ?_) (fun c37 => ?_)
    · replace h := jh_t h c37
      refine lv_aload_n hx hb dX6_evenings_46 rfl (lv_at hl 1 rfl) ?_
      obtain ⟨M_3, e3, h⟩ := jh_b h
      refine jr_kv (jr_rv (As := []) (rest := []) S hK hP jb_16 rfl (m_X6_keepTurn l X A hs M_2  M_3 e3) jw_X6_keepTurn ji_X6_keepTurn jmX6_244 rfl rfl ⟨(Nat.le_of_ble_eq_true rfl), (Nat.le_of_ble_eq_true rfl)⟩ rfl hl.1 rfl (Nat.le_of_ble_eq_true rfl) dX6_evenings_47 ⟨Nat.zero_le _, Nat.zero_le _⟩) hS (fun H locs hP hS => ?_)
      refine lv_aload_n hx hb dX6_evenings_50 rfl (lv_at hl 1 rfl) ?_
      refine lv_iload_n hx hb dX6_evenings_51 rfl (lv_at hl 2 rfl) ?_
      obtain ⟨M_4, e4, h⟩ := jh_b h
      refine jr_kv (jr_rv (As := [.int v1_2]) (rest := []) S hK hP jb_16 rfl (m_X6_goEvenings l X A hs M_3 v1_2 M_4 e4) jw_X6_goEvenings ji_X6_goEvenings jmX6_189 rfl rfl ⟨(Nat.le_of_ble_eq_true rfl), (Nat.le_of_ble_eq_true rfl)⟩ rfl hl.1 rfl (Nat.le_of_ble_eq_true rfl) dX6_evenings_52 ⟨Nat.zero_le _, Nat.zero_le _⟩) hS (fun H locs hP hS => ?_)
      refine lv_aload_n hx hb dX6_evenings_55 rfl (lv_at hl 1 rfl) ?_
      obtain ⟨r5, e5, h⟩ := jh_b h
      refine jr_kp (jr_rv (As := []) (rest := []) S hK hP jb_16 rfl (m_X6_allDebts l X M_4  r5 e5) jw_X6_allDebts ji_X6_allDebts jmX6_247 rfl rfl ⟨(Nat.le_of_ble_eq_true rfl), (Nat.le_of_ble_eq_true rfl)⟩ rfl hl.1 rfl (Nat.le_of_ble_eq_true rfl) dX6_evenings_56 ⟨Nat.zero_le _, Nat.zero_le _⟩) ?_
      exact je_mi hx hb hr hlocks hK hP hS h dX6_evenings_59
    · replace h := jh_f h c37
      refine lv_aload_n hx hb dX6_evenings_40 rfl (lv_at hl 1 rfl) ?_
      refine lv_iload_n hx hb dX6_evenings_41 rfl (lv_at hl 0 rfl) ?_
      obtain ⟨r6, M_6, e6, h⟩ := jh_b2 h
      refine jr_km (jr_rv (As := [.int t0_2]) (rest := []) S hK hP jb_16 rfl (m_X6_refuse l X A hs M_2 t0_2 r6 M_6 e6) jw_X6_refuse ji_X6_refuse jmX6_143 rfl rfl ⟨(Nat.le_of_ble_eq_true rfl), (Nat.le_of_ble_eq_true rfl)⟩ rfl hl.1 rfl (Nat.le_of_ble_eq_true rfl) dX6_evenings_42 ⟨Nat.zero_le _, Nat.zero_le _⟩) hS (fun H locs hP hS => ?_)
      exact je_mi hx hb hr hlocks hK hP hS h dX6_evenings_45
  have J34 : ∀ (M_7 : jm) (H : Heap) (locs : List Loc) (v1_7 : Int32) (v2_7 : Int32) (ls : Array Slot), f_X6_evenings_j34 M_7 v1_7 v2_7 = some (r, N) → jrp X M_7 H → va_S A s.heap H locs → lv_has ls 3 [(0, .ref (jO X 16)), (1, .int v1_7), (2, .int v2_7)] → W p l e (jrm 6 136) s m args below meth c H locs 0 0 (MQ below (jQm X A (some (.int r)) N) args s 0 0 A) (F0 m 34 ls []) := by
    intro M_7 H locs v1_7 v2_7 ls h hP hS hl
    refine lv_iload_n hx hb dX6_evenings_34 rfl (lv_at hl 2 rfl) ?_
    exact J35 M_7 _ _ v1_7 v2_7 _ h hP hS (lv_sub hl [0, 1] rfl)
  refine lv_if_ne (tgt := 34) hx hb dX6_evenings_14 rfl (fun c14 => ?_) (fun c14 => ?_)
  · replace h := jh_f h c14
    exact J34 (ju M 16 11 0 0) _ _ v1 (f_X6_wrongNumber v1 1 60) _ h hP hS (lv_sub hl [1, 2, 0] rfl)
  · replace h := jh_t h c14
    refine lv_aload_n hx hb dX6_evenings_17 rfl (lv_at hl 1 rfl) ?_
    refine jr_get (k := 10) hx hb hts hown hK hP jb_16 (Nat.le_of_ble_eq_true rfl) jlX6_122 rfl dX6_evenings_18 ?_
    refine lv_iload_n hx hb dX6_evenings_21 rfl (lv_at hl 2 rfl) ?_
    refine lv_iadd hx hb dX6_evenings_22 ?_
    refine lv_sipush (v := 999) hx hb dX6_evenings_23 jcs_999 ?_
    refine lv_icmp_le (tgt := 34) hx hb dX6_evenings_26 rfl (fun c26 => ?_) (fun c26 => ?_)
    · replace h := jh_t h c26
      exact J34 (ju M 16 11 0 0) _ _ v1 (f_X6_wrongNumber v1 1 60) _ h hP hS (lv_sub hl [1, 2, 0] rfl)
    · replace h := jh_f h c26
      refine lv_bipush (v := (-6)) hx hb dX6_evenings_29 jcb_m6 ?_
      refine lv_goto (tgt := 35) hx hb dX6_evenings_31 rfl ?_
      exact J35 (ju M 16 11 0 0) _ _ v1 (-6) _ h hP hS (lv_sub hl [1, 2] rfl)
def f_X6_walkerIn_j24 (M_2 : jm) (v1_2 : Int32) (v2_2 : Int32) (v3_2 : Int32) (t0_2 : Int32) : Option (Int32 × jm) := (if 0 ≤ (f_X6_wrongBit t0_2 v3_2 2) then (jb (f_X6_think M_2) fun M_4 => (jb (f_X6_goEvenings M_4 v2_2) fun M_5 => (if v3_2 = 0 then (jgd v1_2 6 (jb (f_X6_again M_5) fun M_10 => (some ((M_5 16 6 (Int32.toNatClampNeg v1_2)), M_10)))) else (if v3_2 = 1 then (jb (f_X6_owesBits M_5 v1_2) fun r8 => (jb (f_X6_again M_5) fun M_9 => (some (r8, M_9)))) else (jb (f_X6_priceOf M_5 v1_2) fun r6 => (jb (f_X6_again M_5) fun M_7 => (some (r6, M_7)))))))) else (jb2 (f_X6_refuse M_2 (f_X6_wrongBit t0_2 v3_2 2)) fun r11 M_11 => (some (r11, M_11))))
def f_X6_walkerIn (M : jm) (v1 : Int32) (v2 : Int32) (v3 : Int32) : Option (Int32 × jm) := (if (f_X6_isWalker (ju M 16 11 0 0) v1) = 0 then (f_X6_walkerIn_j24 (ju M 16 11 0 0) v1 v2 v3 (-1)) else (f_X6_walkerIn_j24 (ju M 16 11 0 0) v1 v2 v3 (f_X6_wrongNumber v2 0 60)))
set_option maxRecDepth 100000 in
theorem m_X6_walkerIn (l : Launch) (X : jX) (A : Nat → Prop) (hs : jst X A) (M : jm) (v1 : Int32) (v2 : Int32) (v3 : Int32) (r : Int32) (N : jm) (h : f_X6_walkerIn M v1 v2 v3 = some (r, N)) : Met l yX6_walkerIn (jws yX6_walkerIn cX6_walkerIn 6 (some .int)) (jrm 6 136) (va_Pc [.ref (jO X 16), .int v1, .int v2, .int v3] (jB X M)) (jQm X A (some (.int r)) N) 0 0 A := by
  refine jm_of (by decide) (Nat.le_of_ble_eq_true rfl) ?_
  intro p e s m args below meth c ls S hr hlocks hB hl
  have S : CallFix p m c cX6_walkerIn 6 s args jtb RX6 := S
  obtain ⟨hx, hb, hml, hown, hts⟩ := id S
  obtain ⟨hP, hK⟩ := hB
  have hN := hK.2
  have hS : va_S A s.heap s.heap [] := va_S.rf
  have hl : lv_has ls 6 [(0, .ref (jO X 16)), (1, .int v1), (2, .int v2), (3, .int v3)] := hl
  refine lv_aload_n hx hb dX6_walkerIn_0 rfl (lv_at hl 0 rfl) ?_
  refine lv_iconst (v := 0) hx hb dX6_walkerIn_1 jci_0 ?_
  refine jr_put (k := 11) (z := 0) hx hb hts hown hK hP hs hS jb_16 (Nat.le_of_ble_eq_true rfl) jlX6_79 rfl (Or.inl rfl) rfl rfl rfl dX6_walkerIn_2 (fun H locs hP hS => ?_)
  refine lv_aload_n hx hb dX6_walkerIn_5 rfl (lv_at hl 0 rfl) ?_
  refine lv_iload_n hx hb dX6_walkerIn_6 rfl (lv_at hl 1 rfl) ?_
  refine jr_kp (jr_rv (As := [.int v1]) (rest := []) S hK hP jb_16 rfl (m_X6_isWalker l X (ju M 16 11 0 0) v1 _ rfl) jw_X6_isWalker ji_X6_isWalker jmX6_184 rfl rfl ⟨(Nat.le_of_ble_eq_true rfl), (Nat.le_of_ble_eq_true rfl)⟩ rfl hl.1 rfl (Nat.le_of_ble_eq_true rfl) dX6_walkerIn_7 ⟨Nat.zero_le _, Nat.zero_le _⟩) ?_
  have J24 : ∀ (M_2 : jm) (H : Heap) (locs : List Loc) (v1_2 : Int32) (v2_2 : Int32) (v3_2 : Int32) (t0_2 : Int32) (ls : Array Slot), f_X6_walkerIn_j24 M_2 v1_2 v2_2 v3_2 t0_2 = some (r, N) → jrp X M_2 H → va_S A s.heap H locs → lv_has ls 6 [(0, .ref (jO X 16)), (1, .int v1_2), (2, .int v2_2), (3, .int v3_2)] → W p l e (jrm 6 136) s m args below meth c H locs 0 0 (MQ below (jQm X A (some (.int r)) N) args s 0 0 A) (F0 m 24 ls [.int t0_2]) := by
    intro M_2 H locs v1_2 v2_2 v3_2 t0_2 ls h hP hS hl
    refine lv_iload_n hx hb dX6_walkerIn_24 rfl (lv_at hl 3 rfl) ?_
    refine lv_iconst (v := 2) hx hb dX6_walkerIn_25 jci_2 ?_
    refine jr_kp (jr_rs (As := [.int t0_2, .int v3_2, .int 2]) (rest := []) S hN (m_X6_wrongBit l t0_2 v3_2 2 _ rfl) jw_X6_wrongBit js_X6_wrongBit jmX6_250 rfl rfl ⟨(Nat.le_of_ble_eq_true rfl), (Nat.le_of_ble_eq_true rfl)⟩ rfl hl.1 rfl (Nat.le_of_ble_eq_true rfl) dX6_walkerIn_26 ⟨Nat.zero_le _, Nat.zero_le _⟩) ?_
    refine lv_istore (lv' := [(4, .int (f_X6_wrongBit t0_2 v3_2 2)), (0, .ref (jO X 16)), (1, .int v1_2), (2, .int v2_2), (3, .int v3_2)]) hx hb dX6_walkerIn_29 hl (Nat.le_of_ble_eq_true rfl) rfl (fun ls hl => ?_)
    refine lv_iload hx hb dX6_walkerIn_31 (lv_at hl 0 rfl) ?_
    refine lv_if_ge (tgt := 43) hx hb dX6_walkerIn_33 rfl (fun c33 => ?_) (fun c33 => ?_)
    · replace h := jh_t h c33
      refine lv_aload_n hx hb dX6_walkerIn_43 rfl (lv_at hl 1 rfl) ?_
      obtain ⟨M_4, e4, h⟩ := jh_b h
      refine jr_kv (jr_rv (As := []) (rest := []) S hK hP jb_16 rfl (m_X6_think l X A hs M_2  M_4 e4) jw_X6_think ji_X6_think jmX6_196 rfl rfl ⟨(Nat.le_of_ble_eq_true rfl), (Nat.le_of_ble_eq_true rfl)⟩ rfl hl.1 rfl (Nat.le_of_ble_eq_true rfl) dX6_walkerIn_44 ⟨Nat.zero_le _, Nat.zero_le _⟩) hS (fun H locs hP hS => ?_)
      refine lv_aload_n hx hb dX6_walkerIn_47 rfl (lv_at hl 1 rfl) ?_
      refine lv_iload_n hx hb dX6_walkerIn_48 rfl (lv_at hl 3 rfl) ?_
      obtain ⟨M_5, e5, h⟩ := jh_b h
      refine jr_kv (jr_rv (As := [.int v2_2]) (rest := []) S hK hP jb_16 rfl (m_X6_goEvenings l X A hs M_4 v2_2 M_5 e5) jw_X6_goEvenings ji_X6_goEvenings jmX6_189 rfl rfl ⟨(Nat.le_of_ble_eq_true rfl), (Nat.le_of_ble_eq_true rfl)⟩ rfl hl.1 rfl (Nat.le_of_ble_eq_true rfl) dX6_walkerIn_49 ⟨Nat.zero_le _, Nat.zero_le _⟩) hS (fun H locs hP hS => ?_)
      refine lv_iload_n hx hb dX6_walkerIn_52 rfl (lv_at hl 4 rfl) ?_
      refine lv_if_ne (tgt := 65) hx hb dX6_walkerIn_53 rfl (fun c53 => ?_) (fun c53 => ?_)
      · replace h := jh_f h c53
        refine lv_iload_n hx hb dX6_walkerIn_65 rfl (lv_at hl 4 rfl) ?_
        refine lv_iconst (v := 1) hx hb dX6_walkerIn_66 jci_1 ?_
        refine lv_icmp_ne (tgt := 78) hx hb dX6_walkerIn_67 rfl (fun c67 => ?_) (fun c67 => ?_)
        · replace h := jh_f h c67
          refine lv_aload_n hx hb dX6_walkerIn_78 rfl (lv_at hl 1 rfl) ?_
          refine lv_iload_n hx hb dX6_walkerIn_79 rfl (lv_at hl 2 rfl) ?_
          obtain ⟨r6, e6, h⟩ := jh_b h
          refine jr_kp (jr_rv (As := [.int v1_2]) (rest := []) S hK hP jb_16 rfl (m_X6_priceOf l X M_5 v1_2 r6 e6) jw_X6_priceOf ji_X6_priceOf jmX6_113 rfl rfl ⟨(Nat.le_of_ble_eq_true rfl), (Nat.le_of_ble_eq_true rfl)⟩ rfl hl.1 rfl (Nat.le_of_ble_eq_true rfl) dX6_walkerIn_80 ⟨Nat.zero_le _, Nat.zero_le _⟩) ?_
          refine lv_istore (lv' := [(5, .int r6), (4, .int (f_X6_wrongBit t0_2 v3_2 2)), (0, .ref (jO X 16)), (1, .int v1_2), (2, .int v2_2), (3, .int v3_2)]) hx hb dX6_walkerIn_83 hl (Nat.le_of_ble_eq_true rfl) rfl (fun ls hl => ?_)
          refine lv_aload_n hx hb dX6_walkerIn_85 rfl (lv_at hl 2 rfl) ?_
          obtain ⟨M_7, e7, h⟩ := jh_b h
          refine jr_kv (jr_rv (As := []) (rest := []) S hK hP jb_16 rfl (m_X6_again l X A hs M_5  M_7 e7) jw_X6_again ji_X6_again jmX6_202 rfl rfl ⟨(Nat.le_of_ble_eq_true rfl), (Nat.le_of_ble_eq_true rfl)⟩ rfl hl.1 rfl (Nat.le_of_ble_eq_true rfl) dX6_walkerIn_86 ⟨Nat.zero_le _, Nat.zero_le _⟩) hS (fun H locs hP hS => ?_)
          refine lv_iload hx hb dX6_walkerIn_89 (lv_at hl 0 rfl) ?_
          exact je_mi hx hb hr hlocks hK hP hS h dX6_walkerIn_91
        · replace h := jh_t h c67
          refine lv_aload_n hx hb dX6_walkerIn_70 rfl (lv_at hl 1 rfl) ?_
          refine lv_iload_n hx hb dX6_walkerIn_71 rfl (lv_at hl 2 rfl) ?_
          obtain ⟨r8, e8, h⟩ := jh_b h
          refine jr_kp (jr_rv (As := [.int v1_2]) (rest := []) S hK hP jb_16 rfl (m_X6_owesBits l X M_5 v1_2 r8 e8) jw_X6_owesBits ji_X6_owesBits jmX6_116 rfl rfl ⟨(Nat.le_of_ble_eq_true rfl), (Nat.le_of_ble_eq_true rfl)⟩ rfl hl.1 rfl (Nat.le_of_ble_eq_true rfl) dX6_walkerIn_72 ⟨Nat.zero_le _, Nat.zero_le _⟩) ?_
          refine lv_goto (tgt := 83) hx hb dX6_walkerIn_75 rfl ?_
          refine lv_istore (lv' := [(5, .int r8), (4, .int (f_X6_wrongBit t0_2 v3_2 2)), (0, .ref (jO X 16)), (1, .int v1_2), (2, .int v2_2), (3, .int v3_2)]) hx hb dX6_walkerIn_83 hl (Nat.le_of_ble_eq_true rfl) rfl (fun ls hl => ?_)
          refine lv_aload_n hx hb dX6_walkerIn_85 rfl (lv_at hl 2 rfl) ?_
          obtain ⟨M_9, e9, h⟩ := jh_b h
          refine jr_kv (jr_rv (As := []) (rest := []) S hK hP jb_16 rfl (m_X6_again l X A hs M_5  M_9 e9) jw_X6_again ji_X6_again jmX6_202 rfl rfl ⟨(Nat.le_of_ble_eq_true rfl), (Nat.le_of_ble_eq_true rfl)⟩ rfl hl.1 rfl (Nat.le_of_ble_eq_true rfl) dX6_walkerIn_86 ⟨Nat.zero_le _, Nat.zero_le _⟩) hS (fun H locs hP hS => ?_)
          refine lv_iload hx hb dX6_walkerIn_89 (lv_at hl 0 rfl) ?_
          exact je_mi hx hb hr hlocks hK hP hS h dX6_walkerIn_91
      · replace h := jh_t h c53
        refine lv_aload_n hx hb dX6_walkerIn_56 rfl (lv_at hl 1 rfl) ?_
        refine jr_get (k := 6) hx hb hts hown hK hP jb_16 (Nat.le_of_ble_eq_true rfl) jlX6_22 rfl dX6_walkerIn_57 ?_
        refine lv_iload_n hx hb dX6_walkerIn_60 rfl (lv_at hl 2 rfl) ?_
        obtain ⟨g61, h⟩ := jh_gd h
        refine jr_ald (n := 6) hx hb hK hP jb_16 rfl g61 dX6_walkerIn_61 ?_
        refine lv_goto (tgt := 83) hx hb dX6_walkerIn_62 rfl ?_
        refine lv_istore (lv' := [(5, .int (M_5 16 6 (Int32.toNatClampNeg v1_2))), (4, .int (f_X6_wrongBit t0_2 v3_2 2)), (0, .ref (jO X 16)), (1, .int v1_2), (2, .int v2_2), (3, .int v3_2)]) hx hb dX6_walkerIn_83 hl (Nat.le_of_ble_eq_true rfl) rfl (fun ls hl => ?_)
        refine lv_aload_n hx hb dX6_walkerIn_85 rfl (lv_at hl 2 rfl) ?_
        obtain ⟨M_10, e10, h⟩ := jh_b h
        refine jr_kv (jr_rv (As := []) (rest := []) S hK hP jb_16 rfl (m_X6_again l X A hs M_5  M_10 e10) jw_X6_again ji_X6_again jmX6_202 rfl rfl ⟨(Nat.le_of_ble_eq_true rfl), (Nat.le_of_ble_eq_true rfl)⟩ rfl hl.1 rfl (Nat.le_of_ble_eq_true rfl) dX6_walkerIn_86 ⟨Nat.zero_le _, Nat.zero_le _⟩) hS (fun H locs hP hS => ?_)
        refine lv_iload hx hb dX6_walkerIn_89 (lv_at hl 0 rfl) ?_
        exact je_mi hx hb hr hlocks hK hP hS h dX6_walkerIn_91
    · replace h := jh_f h c33
      refine lv_aload_n hx hb dX6_walkerIn_36 rfl (lv_at hl 1 rfl) ?_
      refine lv_iload hx hb dX6_walkerIn_37 (lv_at hl 0 rfl) ?_
      obtain ⟨r11, M_11, e11, h⟩ := jh_b2 h
      refine jr_km (jr_rv (As := [.int (f_X6_wrongBit t0_2 v3_2 2)]) (rest := []) S hK hP jb_16 rfl (m_X6_refuse l X A hs M_2 (f_X6_wrongBit t0_2 v3_2 2) r11 M_11 e11) jw_X6_refuse ji_X6_refuse jmX6_143 rfl rfl ⟨(Nat.le_of_ble_eq_true rfl), (Nat.le_of_ble_eq_true rfl)⟩ rfl hl.1 rfl (Nat.le_of_ble_eq_true rfl) dX6_walkerIn_39 ⟨Nat.zero_le _, Nat.zero_le _⟩) hS (fun H locs hP hS => ?_)
      exact je_mi hx hb hr hlocks hK hP hS h dX6_walkerIn_42
  refine lv_if_eq (tgt := 23) hx hb dX6_walkerIn_10 rfl (fun c10 => ?_) (fun c10 => ?_)
  · replace h := jh_t h c10
    refine lv_iconst (v := (-1)) hx hb dX6_walkerIn_23 jci_m1 ?_
    exact J24 (ju M 16 11 0 0) _ _ v1 v2 v3 (-1) _ h hP hS hl
  · replace h := jh_f h c10
    refine lv_iload_n hx hb dX6_walkerIn_13 rfl (lv_at hl 2 rfl) ?_
    refine lv_iconst (v := 0) hx hb dX6_walkerIn_14 jci_0 ?_
    refine lv_bipush (v := 60) hx hb dX6_walkerIn_15 jcb_60 ?_
    refine jr_kp (jr_rs (As := [.int v2, .int 0, .int 60]) (rest := []) S hN (m_X6_wrongNumber l v2 0 60 _ rfl) jw_X6_wrongNumber js_X6_wrongNumber jmX6_240 rfl rfl ⟨(Nat.le_of_ble_eq_true rfl), (Nat.le_of_ble_eq_true rfl)⟩ rfl hl.1 rfl (Nat.le_of_ble_eq_true rfl) dX6_walkerIn_17 ⟨Nat.zero_le _, Nat.zero_le _⟩) ?_
    refine lv_goto (tgt := 24) hx hb dX6_walkerIn_20 rfl ?_
    exact J24 (ju M 16 11 0 0) _ _ v1 v2 v3 (f_X6_wrongNumber v2 0 60) _ h hP hS hl
def f_X6_prices (M : jm) (v1 : Int32) : Option (Int32 × jm) := (if 0 ≤ (f_X6_wrongNumber v1 0 60) then (jb (f_X6_think (ju M 16 11 0 0)) fun M_2 => (jb (f_X6_goEvenings M_2 v1) fun M_3 => (jb (f_X6_allPrices M_3) fun r4 => (jb (f_X6_again M_3) fun M_5 => (some (r4, M_5)))))) else (jb2 (f_X6_refuse (ju M 16 11 0 0) (f_X6_wrongNumber v1 0 60)) fun r6 M_6 => (some (r6, M_6))))
set_option maxRecDepth 100000 in
theorem m_X6_prices (l : Launch) (X : jX) (A : Nat → Prop) (hs : jst X A) (M : jm) (v1 : Int32) (r : Int32) (N : jm) (h : f_X6_prices M v1 = some (r, N)) : Met l yX6_prices (jws yX6_prices cX6_prices 4 (some .int)) (jrm 6 136) (va_Pc [.ref (jO X 16), .int v1] (jB X M)) (jQm X A (some (.int r)) N) 0 0 A := by
  refine jm_of (by decide) (Nat.le_of_ble_eq_true rfl) ?_
  intro p e s m args below meth c ls S hr hlocks hB hl
  have S : CallFix p m c cX6_prices 4 s args jtb RX6 := S
  obtain ⟨hx, hb, hml, hown, hts⟩ := id S
  obtain ⟨hP, hK⟩ := hB
  have hN := hK.2
  have hS : va_S A s.heap s.heap [] := va_S.rf
  have hl : lv_has ls 4 [(0, .ref (jO X 16)), (1, .int v1)] := hl
  refine lv_aload_n hx hb dX6_prices_0 rfl (lv_at hl 0 rfl) ?_
  refine lv_iconst (v := 0) hx hb dX6_prices_1 jci_0 ?_
  refine jr_put (k := 11) (z := 0) hx hb hts hown hK hP hs hS jb_16 (Nat.le_of_ble_eq_true rfl) jlX6_79 rfl (Or.inl rfl) rfl rfl rfl dX6_prices_2 (fun H locs hP hS => ?_)
  refine lv_iload_n hx hb dX6_prices_5 rfl (lv_at hl 1 rfl) ?_
  refine lv_iconst (v := 0) hx hb dX6_prices_6 jci_0 ?_
  refine lv_bipush (v := 60) hx hb dX6_prices_7 jcb_60 ?_
  refine jr_kp (jr_rs (As := [.int v1, .int 0, .int 60]) (rest := []) S hN (m_X6_wrongNumber l v1 0 60 _ rfl) jw_X6_wrongNumber js_X6_wrongNumber jmX6_240 rfl rfl ⟨(Nat.le_of_ble_eq_true rfl), (Nat.le_of_ble_eq_true rfl)⟩ rfl hl.1 rfl (Nat.le_of_ble_eq_true rfl) dX6_prices_9 ⟨Nat.zero_le _, Nat.zero_le _⟩) ?_
  refine lv_istore_n (lv' := [(2, .int (f_X6_wrongNumber v1 0 60)), (0, .ref (jO X 16)), (1, .int v1)]) hx hb dX6_prices_12 rfl hl (Nat.le_of_ble_eq_true rfl) rfl (fun ls hl => ?_)
  refine lv_iload_n hx hb dX6_prices_13 rfl (lv_at hl 0 rfl) ?_
  refine lv_if_ge (tgt := 23) hx hb dX6_prices_14 rfl (fun c14 => ?_) (fun c14 => ?_)
  · replace h := jh_t h c14
    refine lv_aload_n hx hb dX6_prices_23 rfl (lv_at hl 1 rfl) ?_
    obtain ⟨M_2, e2, h⟩ := jh_b h
    refine jr_kv (jr_rv (As := []) (rest := []) S hK hP jb_16 rfl (m_X6_think l X A hs (ju M 16 11 0 0)  M_2 e2) jw_X6_think ji_X6_think jmX6_196 rfl rfl ⟨(Nat.le_of_ble_eq_true rfl), (Nat.le_of_ble_eq_true rfl)⟩ rfl hl.1 rfl (Nat.le_of_ble_eq_true rfl) dX6_prices_24 ⟨Nat.zero_le _, Nat.zero_le _⟩) hS (fun H locs hP hS => ?_)
    refine lv_aload_n hx hb dX6_prices_27 rfl (lv_at hl 1 rfl) ?_
    refine lv_iload_n hx hb dX6_prices_28 rfl (lv_at hl 2 rfl) ?_
    obtain ⟨M_3, e3, h⟩ := jh_b h
    refine jr_kv (jr_rv (As := [.int v1]) (rest := []) S hK hP jb_16 rfl (m_X6_goEvenings l X A hs M_2 v1 M_3 e3) jw_X6_goEvenings ji_X6_goEvenings jmX6_189 rfl rfl ⟨(Nat.le_of_ble_eq_true rfl), (Nat.le_of_ble_eq_true rfl)⟩ rfl hl.1 rfl (Nat.le_of_ble_eq_true rfl) dX6_prices_29 ⟨Nat.zero_le _, Nat.zero_le _⟩) hS (fun H locs hP hS => ?_)
    refine lv_aload_n hx hb dX6_prices_32 rfl (lv_at hl 1 rfl) ?_
    obtain ⟨r4, e4, h⟩ := jh_b h
    refine jr_kp (jr_rv (As := []) (rest := []) S hK hP jb_16 rfl (m_X6_allPrices l X M_3  r4 e4) jw_X6_allPrices ji_X6_allPrices jmX6_253 rfl rfl ⟨(Nat.le_of_ble_eq_true rfl), (Nat.le_of_ble_eq_true rfl)⟩ rfl hl.1 rfl (Nat.le_of_ble_eq_true rfl) dX6_prices_33 ⟨Nat.zero_le _, Nat.zero_le _⟩) ?_
    refine lv_istore_n (lv' := [(3, .int r4), (2, .int (f_X6_wrongNumber v1 0 60)), (0, .ref (jO X 16)), (1, .int v1)]) hx hb dX6_prices_36 rfl hl (Nat.le_of_ble_eq_true rfl) rfl (fun ls hl => ?_)
    refine lv_aload_n hx hb dX6_prices_37 rfl (lv_at hl 2 rfl) ?_
    obtain ⟨M_5, e5, h⟩ := jh_b h
    refine jr_kv (jr_rv (As := []) (rest := []) S hK hP jb_16 rfl (m_X6_again l X A hs M_3  M_5 e5) jw_X6_again ji_X6_again jmX6_202 rfl rfl ⟨(Nat.le_of_ble_eq_true rfl), (Nat.le_of_ble_eq_true rfl)⟩ rfl hl.1 rfl (Nat.le_of_ble_eq_true rfl) dX6_prices_38 ⟨Nat.zero_le _, Nat.zero_le _⟩) hS (fun H locs hP hS => ?_)
    refine lv_iload_n hx hb dX6_prices_41 rfl (lv_at hl 0 rfl) ?_
    exact je_mi hx hb hr hlocks hK hP hS h dX6_prices_42
  · replace h := jh_f h c14
    refine lv_aload_n hx hb dX6_prices_17 rfl (lv_at hl 1 rfl) ?_
    refine lv_iload_n hx hb dX6_prices_18 rfl (lv_at hl 0 rfl) ?_
    obtain ⟨r6, M_6, e6, h⟩ := jh_b2 h
    refine jr_km (jr_rv (As := [.int (f_X6_wrongNumber v1 0 60)]) (rest := []) S hK hP jb_16 rfl (m_X6_refuse l X A hs (ju M 16 11 0 0) (f_X6_wrongNumber v1 0 60) r6 M_6 e6) jw_X6_refuse ji_X6_refuse jmX6_143 rfl rfl ⟨(Nat.le_of_ble_eq_true rfl), (Nat.le_of_ble_eq_true rfl)⟩ rfl hl.1 rfl (Nat.le_of_ble_eq_true rfl) dX6_prices_19 ⟨Nat.zero_le _, Nat.zero_le _⟩) hS (fun H locs hP hS => ?_)
    exact je_mi hx hb hr hlocks hK hP hS h dX6_prices_22
def f_X6_owed_j62 (M_6 : jm) (K30_6 : jm → Int32 → Int32 → Option (Int32 × jm)) (v1_3 : Int32) (v2_3 : Int32) (v4_6 : Int32) (t0_6 : Int32) : Option (Int32 × jm) := (jb (f_X6_eveningBy M_6 0) fun M_7 => (K30_6 M_7 t0_6 (v4_6 + 1)))
def f_X6_owed_l30 (v1_3 : Int32) (v2_3 : Int32) : Nat → jm → Int32 → Int32 → Option (Int32 × jm)
  | 0, _, _, _ => none
  | k_3 + 1, M_3, v3_3, v4_3 => (if 60 < v4_3 then (jb (f_X6_again M_3) fun M_4 => (some (v3_3, M_4))) else (if 0 ≤ v3_3 then (jb (f_X6_again M_3) fun M_5 => (some (v3_3, M_5))) else (jgd ((7 * v1_3) + v2_3) 42 (if (M_3 16 9 (Int32.toNatClampNeg ((7 * v1_3) + v2_3))) ≤ 0 then (f_X6_owed_j62 M_3 (f_X6_owed_l30 v1_3 v2_3 k_3) v1_3 v2_3 v4_3 (-9)) else (f_X6_owed_j62 M_3 (f_X6_owed_l30 v1_3 v2_3 k_3) v1_3 v2_3 v4_3 v4_3)))))
def f_X6_owed (M : jm) (v1 : Int32) (v2 : Int32) : Option (Int32 × jm) := (if 0 ≤ (f_X6_wrongBoth (ju M 16 11 0 0) v1 v2) then (jb (f_X6_think (ju M 16 11 0 0)) fun M_2 => (f_X6_owed_l30 v1 v2 10000 M_2 (-9) 0)) else (jb2 (f_X6_refuse (ju M 16 11 0 0) (-1)) fun r8 M_8 => (some (r8, M_8))))
set_option maxRecDepth 100000 in
theorem m_X6_owed (l : Launch) (X : jX) (A : Nat → Prop) (hs : jst X A) (M : jm) (v1 : Int32) (v2 : Int32) (r : Int32) (N : jm) (h : f_X6_owed M v1 v2 = some (r, N)) : Met l yX6_owed (jws yX6_owed cX6_owed 5 (some .int)) (jrm 5 114) (va_Pc [.ref (jO X 16), .int v1, .int v2] (jB X M)) (jQm X A (some (.int r)) N) 0 0 A := by
  refine jm_of (by decide) (Nat.le_of_ble_eq_true rfl) ?_
  intro p e s m args below meth c ls S hr hlocks hB hl
  have S : CallFix p m c cX6_owed 5 s args jtb RX6 := S
  obtain ⟨hx, hb, hml, hown, hts⟩ := id S
  obtain ⟨hP, hK⟩ := hB
  have hN := hK.2
  have hS : va_S A s.heap s.heap [] := va_S.rf
  have hl : lv_has ls 5 [(0, .ref (jO X 16)), (1, .int v1), (2, .int v2)] := hl
  refine lv_aload_n hx hb dX6_owed_0 rfl (lv_at hl 0 rfl) ?_
  refine lv_iconst (v := 0) hx hb dX6_owed_1 jci_0 ?_
  refine jr_put (k := 11) (z := 0) hx hb hts hown hK hP hs hS jb_16 (Nat.le_of_ble_eq_true rfl) jlX6_79 rfl (Or.inl rfl) rfl rfl rfl dX6_owed_2 (fun H locs hP hS => ?_)
  refine lv_aload_n hx hb dX6_owed_5 rfl (lv_at hl 0 rfl) ?_
  refine lv_iload_n hx hb dX6_owed_6 rfl (lv_at hl 1 rfl) ?_
  refine lv_iload_n hx hb dX6_owed_7 rfl (lv_at hl 2 rfl) ?_
  refine jr_kp (jr_rv (As := [.int v1, .int v2]) (rest := []) S hK hP jb_16 rfl (m_X6_wrongBoth l X (ju M 16 11 0 0) v1 v2 _ rfl) jw_X6_wrongBoth ji_X6_wrongBoth jmX6_237 rfl rfl ⟨(Nat.le_of_ble_eq_true rfl), (Nat.le_of_ble_eq_true rfl)⟩ rfl hl.1 rfl (Nat.le_of_ble_eq_true rfl) dX6_owed_8 ⟨Nat.zero_le _, Nat.zero_le _⟩) ?_
  refine lv_if_ge (tgt := 20) hx hb dX6_owed_11 rfl (fun c11 => ?_) (fun c11 => ?_)
  · replace h := jh_t h c11
    refine lv_bipush (v := (-9)) hx hb dX6_owed_20 jcb_m9 ?_
    refine lv_istore_n (lv' := [(3, .int (-9)), (0, .ref (jO X 16)), (1, .int v1), (2, .int v2)]) hx hb dX6_owed_22 rfl hl (Nat.le_of_ble_eq_true rfl) rfl (fun ls hl => ?_)
    refine lv_aload_n hx hb dX6_owed_23 rfl (lv_at hl 1 rfl) ?_
    obtain ⟨M_2, e2, h⟩ := jh_b h
    refine jr_kv (jr_rv (As := []) (rest := []) S hK hP jb_16 rfl (m_X6_think l X A hs (ju M 16 11 0 0)  M_2 e2) jw_X6_think ji_X6_think jmX6_196 rfl rfl ⟨(Nat.le_of_ble_eq_true rfl), (Nat.le_of_ble_eq_true rfl)⟩ rfl hl.1 rfl (Nat.le_of_ble_eq_true rfl) dX6_owed_24 ⟨Nat.zero_le _, Nat.zero_le _⟩) hS (fun H locs hP hS => ?_)
    refine lv_iconst (v := 0) hx hb dX6_owed_27 jci_0 ?_
    refine lv_istore (lv' := [(4, .int 0), (3, .int (-9)), (0, .ref (jO X 16)), (1, .int v1), (2, .int v2)]) hx hb dX6_owed_28 hl (Nat.le_of_ble_eq_true rfl) rfl (fun ls hl => ?_)
    have L30 : ∀ (v1_3 : Int32) (v2_3 : Int32) (k_3 : Nat) (M_3 : jm) (H : Heap) (locs : List Loc) (v3_3 : Int32) (v4_3 : Int32) (ls : Array Slot), f_X6_owed_l30 v1_3 v2_3 k_3 M_3 v3_3 v4_3 = some (r, N) → jrp X M_3 H → va_S A s.heap H locs → lv_has ls 5 [(0, .ref (jO X 16)), (1, .int v1_3), (2, .int v2_3), (3, .int v3_3), (4, .int v4_3)] → W p l e (jrm 5 114) s m args below meth c H locs 0 0 (MQ below (jQm X A (some (.int r)) N) args s 0 0 A) (F0 m 30 ls []) := by
      intro v1_3 v2_3 k_3
      induction k_3 with
      | zero => intro M_3 H locs v3_3 v4_3 ls h; exact jh_0 h
      | succ k_3 ih30 =>
        intro M_3 H locs v3_3 v4_3 ls h hP hS hl
        refine lv_iload hx hb dX6_owed_30 (lv_at hl 4 rfl) ?_
        refine lv_bipush (v := 60) hx hb dX6_owed_32 jcb_60 ?_
        refine lv_icmp_gt (tgt := 74) hx hb dX6_owed_34 rfl (fun c34 => ?_) (fun c34 => ?_)
        · replace h := jh_t h c34
          refine lv_aload_n hx hb dX6_owed_74 rfl (lv_at hl 0 rfl) ?_
          obtain ⟨M_4, e4, h⟩ := jh_b h
          refine jr_kv (jr_rv (As := []) (rest := []) S hK hP jb_16 rfl (m_X6_again l X A hs M_3  M_4 e4) jw_X6_again ji_X6_again jmX6_202 rfl rfl ⟨(Nat.le_of_ble_eq_true rfl), (Nat.le_of_ble_eq_true rfl)⟩ rfl hl.1 rfl (Nat.le_of_ble_eq_true rfl) dX6_owed_75 ⟨Nat.zero_le _, Nat.zero_le _⟩) hS (fun H locs hP hS => ?_)
          refine lv_iload_n hx hb dX6_owed_78 rfl (lv_at hl 3 rfl) ?_
          exact je_mi hx hb hr hlocks hK hP hS h dX6_owed_79
        · replace h := jh_f h c34
          refine lv_iload_n hx hb dX6_owed_37 rfl (lv_at hl 3 rfl) ?_
          refine lv_if_ge (tgt := 74) hx hb dX6_owed_38 rfl (fun c38 => ?_) (fun c38 => ?_)
          · replace h := jh_t h c38
            refine lv_aload_n hx hb dX6_owed_74 rfl (lv_at hl 0 rfl) ?_
            obtain ⟨M_5, e5, h⟩ := jh_b h
            refine jr_kv (jr_rv (As := []) (rest := []) S hK hP jb_16 rfl (m_X6_again l X A hs M_3  M_5 e5) jw_X6_again ji_X6_again jmX6_202 rfl rfl ⟨(Nat.le_of_ble_eq_true rfl), (Nat.le_of_ble_eq_true rfl)⟩ rfl hl.1 rfl (Nat.le_of_ble_eq_true rfl) dX6_owed_75 ⟨Nat.zero_le _, Nat.zero_le _⟩) hS (fun H locs hP hS => ?_)
            refine lv_iload_n hx hb dX6_owed_78 rfl (lv_at hl 3 rfl) ?_
            exact je_mi hx hb hr hlocks hK hP hS h dX6_owed_79
          · replace h := jh_f h c38
            refine lv_aload_n hx hb dX6_owed_41 rfl (lv_at hl 0 rfl) ?_
            refine jr_get (k := 9) hx hb hts hown hK hP jb_16 (Nat.le_of_ble_eq_true rfl) jlX6_31 rfl dX6_owed_42 ?_
            refine lv_bipush (v := 7) hx hb dX6_owed_45 jcb_7 ?_
            refine lv_iload_n hx hb dX6_owed_47 rfl (lv_at hl 1 rfl) ?_
            refine lv_imul hx hb dX6_owed_48 ?_
            refine lv_iload_n hx hb dX6_owed_49 rfl (lv_at hl 2 rfl) ?_
            refine lv_iadd hx hb dX6_owed_50 ?_
            obtain ⟨g51, h⟩ := jh_gd h
            refine jr_ald (n := 42) hx hb hK hP jb_16 rfl g51 dX6_owed_51 ?_
            have J62 : ∀ (M_6 : jm) (H : Heap) (locs : List Loc) (v4_6 : Int32) (t0_6 : Int32) (ls : Array Slot), f_X6_owed_j62 M_6 (f_X6_owed_l30 v1_3 v2_3 k_3) v1_3 v2_3 v4_6 t0_6 = some (r, N) → jrp X M_6 H → va_S A s.heap H locs → lv_has ls 5 [(0, .ref (jO X 16)), (1, .int v1_3), (2, .int v2_3), (4, .int v4_6)] → W p l e (jrm 5 114) s m args below meth c H locs 0 0 (MQ below (jQm X A (some (.int r)) N) args s 0 0 A) (F0 m 62 ls [.int t0_6]) := by
              intro M_6 H locs v4_6 t0_6 ls h hP hS hl
              refine lv_istore_n (lv' := [(3, .int t0_6), (0, .ref (jO X 16)), (1, .int v1_3), (2, .int v2_3), (4, .int v4_6)]) hx hb dX6_owed_62 rfl hl (Nat.le_of_ble_eq_true rfl) rfl (fun ls hl => ?_)
              refine lv_aload_n hx hb dX6_owed_63 rfl (lv_at hl 1 rfl) ?_
              refine lv_iconst (v := 0) hx hb dX6_owed_64 jci_0 ?_
              obtain ⟨M_7, e7, h⟩ := jh_b h
              refine jr_kv (jr_rv (As := [.int 0]) (rest := []) S hK hP jb_16 rfl (m_X6_eveningBy l X A hs M_6 0 M_7 e7) jw_X6_eveningBy ji_X6_eveningBy jmX6_135 rfl rfl ⟨(Nat.le_of_ble_eq_true rfl), (Nat.le_of_ble_eq_true rfl)⟩ rfl hl.1 rfl (Nat.le_of_ble_eq_true rfl) dX6_owed_65 ⟨Nat.zero_le _, Nat.zero_le _⟩) hS (fun H locs hP hS => ?_)
              refine lv_iinc (v := (v4_6 + 1)) (lv' := [(4, .int (v4_6 + 1)), (3, .int t0_6), (0, .ref (jO X 16)), (1, .int v1_3), (2, .int v2_3)]) hx hb dX6_owed_68 hl (k := 4) rfl (congrArg _ jci_1) (Nat.le_of_ble_eq_true rfl) rfl (fun ls hl => ?_)
              refine lv_goto (tgt := 30) hx hb dX6_owed_71 rfl ?_
              exact ih30 M_7 _ _ t0_6 (v4_6 + 1) _ h hP hS (lv_sub hl [2, 3, 4, 1, 0] rfl)
            refine lv_if_le (tgt := 60) hx hb dX6_owed_52 rfl (fun c52 => ?_) (fun c52 => ?_)
            · replace h := jh_t h c52
              refine lv_bipush (v := (-9)) hx hb dX6_owed_60 jcb_m9 ?_
              exact J62 M_3 _ _ v4_3 (-9) _ h hP hS (lv_sub hl [0, 1, 2, 4] rfl)
            · replace h := jh_f h c52
              refine lv_iload hx hb dX6_owed_55 (lv_at hl 4 rfl) ?_
              refine lv_goto (tgt := 62) hx hb dX6_owed_57 rfl ?_
              exact J62 M_3 _ _ v4_3 v4_3 _ h hP hS (lv_sub hl [0, 1, 2, 4] rfl)
    exact L30 v1 v2 10000 M_2 _ _ (-9) 0 _ h hP hS (lv_sub hl [2, 3, 4, 1, 0] rfl)
  · replace h := jh_f h c11
    refine lv_aload_n hx hb dX6_owed_14 rfl (lv_at hl 0 rfl) ?_
    refine lv_iconst (v := (-1)) hx hb dX6_owed_15 jci_m1 ?_
    obtain ⟨r8, M_8, e8, h⟩ := jh_b2 h
    refine jr_km (jr_rv (As := [.int (-1)]) (rest := []) S hK hP jb_16 rfl (m_X6_refuse l X A hs (ju M 16 11 0 0) (-1) r8 M_8 e8) jw_X6_refuse ji_X6_refuse jmX6_143 rfl rfl ⟨(Nat.le_of_ble_eq_true rfl), (Nat.le_of_ble_eq_true rfl)⟩ rfl hl.1 rfl (Nat.le_of_ble_eq_true rfl) dX6_owed_16 ⟨Nat.zero_le _, Nat.zero_le _⟩) hS (fun H locs hP hS => ?_)
    exact je_mi hx hb hr hlocks hK hP hS h dX6_owed_19
def f_X6_home_j59 (M_6 : jm) (K28_6 : jm → Int32 → Int32 → Option (Int32 × jm)) (v1_3 : Int32) (v3_6 : Int32) (t0_6 : Int32) : Option (Int32 × jm) := (jb (f_X6_eveningBy M_6 0) fun M_7 => (K28_6 M_7 t0_6 (v3_6 + 1)))
def f_X6_home_l28 (v1_3 : Int32) : Nat → jm → Int32 → Int32 → Option (Int32 × jm)
  | 0, _, _, _ => none
  | k_3 + 1, M_3, v2_3, v3_3 => (if 60 < v3_3 then (jb (f_X6_again M_3) fun M_4 => (some (v2_3, M_4))) else (if 0 ≤ v2_3 then (jb (f_X6_again M_3) fun M_5 => (some (v2_3, M_5))) else (jgd v1_3 6 (jgd v1_3 6 (if (M_3 16 6 (Int32.toNatClampNeg v1_3)) = (M_3 16 7 (Int32.toNatClampNeg v1_3)) then (f_X6_home_j59 M_3 (f_X6_home_l28 v1_3 k_3) v1_3 v3_3 v3_3) else (f_X6_home_j59 M_3 (f_X6_home_l28 v1_3 k_3) v1_3 v3_3 (-9)))))))
def f_X6_home (M : jm) (v1 : Int32) : Option (Int32 × jm) := (if (f_X6_isWalker (ju M 16 11 0 0) v1) = 0 then (jb2 (f_X6_refuse (ju M 16 11 0 0) (-1)) fun r8 M_8 => (some (r8, M_8))) else (jb (f_X6_think (ju M 16 11 0 0)) fun M_2 => (f_X6_home_l28 v1 10000 M_2 (-9) 0)))
set_option maxRecDepth 100000 in
theorem m_X6_home (l : Launch) (X : jX) (A : Nat → Prop) (hs : jst X A) (M : jm) (v1 : Int32) (r : Int32) (N : jm) (h : f_X6_home M v1 = some (r, N)) : Met l yX6_home (jws yX6_home cX6_home 4 (some .int)) (jrm 5 114) (va_Pc [.ref (jO X 16), .int v1] (jB X M)) (jQm X A (some (.int r)) N) 0 0 A := by
  refine jm_of (by decide) (Nat.le_of_ble_eq_true rfl) ?_
  intro p e s m args below meth c ls S hr hlocks hB hl
  have S : CallFix p m c cX6_home 4 s args jtb RX6 := S
  obtain ⟨hx, hb, hml, hown, hts⟩ := id S
  obtain ⟨hP, hK⟩ := hB
  have hN := hK.2
  have hS : va_S A s.heap s.heap [] := va_S.rf
  have hl : lv_has ls 4 [(0, .ref (jO X 16)), (1, .int v1)] := hl
  refine lv_aload_n hx hb dX6_home_0 rfl (lv_at hl 0 rfl) ?_
  refine lv_iconst (v := 0) hx hb dX6_home_1 jci_0 ?_
  refine jr_put (k := 11) (z := 0) hx hb hts hown hK hP hs hS jb_16 (Nat.le_of_ble_eq_true rfl) jlX6_79 rfl (Or.inl rfl) rfl rfl rfl dX6_home_2 (fun H locs hP hS => ?_)
  refine lv_aload_n hx hb dX6_home_5 rfl (lv_at hl 0 rfl) ?_
  refine lv_iload_n hx hb dX6_home_6 rfl (lv_at hl 1 rfl) ?_
  refine jr_kp (jr_rv (As := [.int v1]) (rest := []) S hK hP jb_16 rfl (m_X6_isWalker l X (ju M 16 11 0 0) v1 _ rfl) jw_X6_isWalker ji_X6_isWalker jmX6_184 rfl rfl ⟨(Nat.le_of_ble_eq_true rfl), (Nat.le_of_ble_eq_true rfl)⟩ rfl hl.1 rfl (Nat.le_of_ble_eq_true rfl) dX6_home_7 ⟨Nat.zero_le _, Nat.zero_le _⟩) ?_
  refine lv_if_ne (tgt := 19) hx hb dX6_home_10 rfl (fun c10 => ?_) (fun c10 => ?_)
  · replace h := jh_f h c10
    refine lv_bipush (v := (-9)) hx hb dX6_home_19 jcb_m9 ?_
    refine lv_istore_n (lv' := [(2, .int (-9)), (0, .ref (jO X 16)), (1, .int v1)]) hx hb dX6_home_21 rfl hl (Nat.le_of_ble_eq_true rfl) rfl (fun ls hl => ?_)
    refine lv_aload_n hx hb dX6_home_22 rfl (lv_at hl 1 rfl) ?_
    obtain ⟨M_2, e2, h⟩ := jh_b h
    refine jr_kv (jr_rv (As := []) (rest := []) S hK hP jb_16 rfl (m_X6_think l X A hs (ju M 16 11 0 0)  M_2 e2) jw_X6_think ji_X6_think jmX6_196 rfl rfl ⟨(Nat.le_of_ble_eq_true rfl), (Nat.le_of_ble_eq_true rfl)⟩ rfl hl.1 rfl (Nat.le_of_ble_eq_true rfl) dX6_home_23 ⟨Nat.zero_le _, Nat.zero_le _⟩) hS (fun H locs hP hS => ?_)
    refine lv_iconst (v := 0) hx hb dX6_home_26 jci_0 ?_
    refine lv_istore_n (lv' := [(3, .int 0), (2, .int (-9)), (0, .ref (jO X 16)), (1, .int v1)]) hx hb dX6_home_27 rfl hl (Nat.le_of_ble_eq_true rfl) rfl (fun ls hl => ?_)
    have L28 : ∀ (v1_3 : Int32) (k_3 : Nat) (M_3 : jm) (H : Heap) (locs : List Loc) (v2_3 : Int32) (v3_3 : Int32) (ls : Array Slot), f_X6_home_l28 v1_3 k_3 M_3 v2_3 v3_3 = some (r, N) → jrp X M_3 H → va_S A s.heap H locs → lv_has ls 4 [(0, .ref (jO X 16)), (1, .int v1_3), (2, .int v2_3), (3, .int v3_3)] → W p l e (jrm 5 114) s m args below meth c H locs 0 0 (MQ below (jQm X A (some (.int r)) N) args s 0 0 A) (F0 m 28 ls []) := by
      intro v1_3 k_3
      induction k_3 with
      | zero => intro M_3 H locs v2_3 v3_3 ls h; exact jh_0 h
      | succ k_3 ih28 =>
        intro M_3 H locs v2_3 v3_3 ls h hP hS hl
        refine lv_iload_n hx hb dX6_home_28 rfl (lv_at hl 3 rfl) ?_
        refine lv_bipush (v := 60) hx hb dX6_home_29 jcb_60 ?_
        refine lv_icmp_gt (tgt := 71) hx hb dX6_home_31 rfl (fun c31 => ?_) (fun c31 => ?_)
        · replace h := jh_t h c31
          refine lv_aload_n hx hb dX6_home_71 rfl (lv_at hl 0 rfl) ?_
          obtain ⟨M_4, e4, h⟩ := jh_b h
          refine jr_kv (jr_rv (As := []) (rest := []) S hK hP jb_16 rfl (m_X6_again l X A hs M_3  M_4 e4) jw_X6_again ji_X6_again jmX6_202 rfl rfl ⟨(Nat.le_of_ble_eq_true rfl), (Nat.le_of_ble_eq_true rfl)⟩ rfl hl.1 rfl (Nat.le_of_ble_eq_true rfl) dX6_home_72 ⟨Nat.zero_le _, Nat.zero_le _⟩) hS (fun H locs hP hS => ?_)
          refine lv_iload_n hx hb dX6_home_75 rfl (lv_at hl 2 rfl) ?_
          exact je_mi hx hb hr hlocks hK hP hS h dX6_home_76
        · replace h := jh_f h c31
          refine lv_iload_n hx hb dX6_home_34 rfl (lv_at hl 2 rfl) ?_
          refine lv_if_ge (tgt := 71) hx hb dX6_home_35 rfl (fun c35 => ?_) (fun c35 => ?_)
          · replace h := jh_t h c35
            refine lv_aload_n hx hb dX6_home_71 rfl (lv_at hl 0 rfl) ?_
            obtain ⟨M_5, e5, h⟩ := jh_b h
            refine jr_kv (jr_rv (As := []) (rest := []) S hK hP jb_16 rfl (m_X6_again l X A hs M_3  M_5 e5) jw_X6_again ji_X6_again jmX6_202 rfl rfl ⟨(Nat.le_of_ble_eq_true rfl), (Nat.le_of_ble_eq_true rfl)⟩ rfl hl.1 rfl (Nat.le_of_ble_eq_true rfl) dX6_home_72 ⟨Nat.zero_le _, Nat.zero_le _⟩) hS (fun H locs hP hS => ?_)
            refine lv_iload_n hx hb dX6_home_75 rfl (lv_at hl 2 rfl) ?_
            exact je_mi hx hb hr hlocks hK hP hS h dX6_home_76
          · replace h := jh_f h c35
            refine lv_aload_n hx hb dX6_home_38 rfl (lv_at hl 0 rfl) ?_
            refine jr_get (k := 6) hx hb hts hown hK hP jb_16 (Nat.le_of_ble_eq_true rfl) jlX6_22 rfl dX6_home_39 ?_
            refine lv_iload_n hx hb dX6_home_42 rfl (lv_at hl 1 rfl) ?_
            obtain ⟨g43, h⟩ := jh_gd h
            refine jr_ald (n := 6) hx hb hK hP jb_16 rfl g43 dX6_home_43 ?_
            refine lv_aload_n hx hb dX6_home_44 rfl (lv_at hl 0 rfl) ?_
            refine jr_get (k := 7) hx hb hts hown hK hP jb_16 (Nat.le_of_ble_eq_true rfl) jlX6_25 rfl dX6_home_45 ?_
            refine lv_iload_n hx hb dX6_home_48 rfl (lv_at hl 1 rfl) ?_
            obtain ⟨g49, h⟩ := jh_gd h
            refine jr_ald (n := 6) hx hb hK hP jb_16 rfl g49 dX6_home_49 ?_
            have J59 : ∀ (M_6 : jm) (H : Heap) (locs : List Loc) (v3_6 : Int32) (t0_6 : Int32) (ls : Array Slot), f_X6_home_j59 M_6 (f_X6_home_l28 v1_3 k_3) v1_3 v3_6 t0_6 = some (r, N) → jrp X M_6 H → va_S A s.heap H locs → lv_has ls 4 [(0, .ref (jO X 16)), (1, .int v1_3), (3, .int v3_6)] → W p l e (jrm 5 114) s m args below meth c H locs 0 0 (MQ below (jQm X A (some (.int r)) N) args s 0 0 A) (F0 m 59 ls [.int t0_6]) := by
              intro M_6 H locs v3_6 t0_6 ls h hP hS hl
              refine lv_istore_n (lv' := [(2, .int t0_6), (0, .ref (jO X 16)), (1, .int v1_3), (3, .int v3_6)]) hx hb dX6_home_59 rfl hl (Nat.le_of_ble_eq_true rfl) rfl (fun ls hl => ?_)
              refine lv_aload_n hx hb dX6_home_60 rfl (lv_at hl 1 rfl) ?_
              refine lv_iconst (v := 0) hx hb dX6_home_61 jci_0 ?_
              obtain ⟨M_7, e7, h⟩ := jh_b h
              refine jr_kv (jr_rv (As := [.int 0]) (rest := []) S hK hP jb_16 rfl (m_X6_eveningBy l X A hs M_6 0 M_7 e7) jw_X6_eveningBy ji_X6_eveningBy jmX6_135 rfl rfl ⟨(Nat.le_of_ble_eq_true rfl), (Nat.le_of_ble_eq_true rfl)⟩ rfl hl.1 rfl (Nat.le_of_ble_eq_true rfl) dX6_home_62 ⟨Nat.zero_le _, Nat.zero_le _⟩) hS (fun H locs hP hS => ?_)
              refine lv_iinc (v := (v3_6 + 1)) (lv' := [(3, .int (v3_6 + 1)), (2, .int t0_6), (0, .ref (jO X 16)), (1, .int v1_3)]) hx hb dX6_home_65 hl (k := 3) rfl (congrArg _ jci_1) (Nat.le_of_ble_eq_true rfl) rfl (fun ls hl => ?_)
              refine lv_goto (tgt := 28) hx hb dX6_home_68 rfl ?_
              exact ih28 M_7 _ _ t0_6 (v3_6 + 1) _ h hP hS (lv_sub hl [2, 3, 1, 0] rfl)
            refine lv_icmp_ne (tgt := 57) hx hb dX6_home_50 rfl (fun c50 => ?_) (fun c50 => ?_)
            · replace h := jh_f h c50
              refine lv_bipush (v := (-9)) hx hb dX6_home_57 jcb_m9 ?_
              exact J59 M_3 _ _ v3_3 (-9) _ h hP hS (lv_sub hl [0, 1, 3] rfl)
            · replace h := jh_t h c50
              refine lv_iload_n hx hb dX6_home_53 rfl (lv_at hl 3 rfl) ?_
              refine lv_goto (tgt := 59) hx hb dX6_home_54 rfl ?_
              exact J59 M_3 _ _ v3_3 v3_3 _ h hP hS (lv_sub hl [0, 1, 3] rfl)
    exact L28 v1 10000 M_2 _ _ (-9) 0 _ h hP hS (lv_sub hl [2, 3, 1, 0] rfl)
  · replace h := jh_t h c10
    refine lv_aload_n hx hb dX6_home_13 rfl (lv_at hl 0 rfl) ?_
    refine lv_iconst (v := (-1)) hx hb dX6_home_14 jci_m1 ?_
    obtain ⟨r8, M_8, e8, h⟩ := jh_b2 h
    refine jr_km (jr_rv (As := [.int (-1)]) (rest := []) S hK hP jb_16 rfl (m_X6_refuse l X A hs (ju M 16 11 0 0) (-1) r8 M_8 e8) jw_X6_refuse ji_X6_refuse jmX6_143 rfl rfl ⟨(Nat.le_of_ble_eq_true rfl), (Nat.le_of_ble_eq_true rfl)⟩ rfl hl.1 rfl (Nat.le_of_ble_eq_true rfl) dX6_home_15 ⟨Nat.zero_le _, Nat.zero_le _⟩) hS (fun H locs hP hS => ?_)
    exact je_mi hx hb hr hlocks hK hP hS h dX6_home_18
def f_X6_richest_j86 (M_5 : jm) (K30_5 : jm → Int32 → Int32 → Int32 → Option (Int32 × jm)) (v1_2 : Int32) (v3_5 : Int32) (v4_5 : Int32) (v5_5 : Int32) (t0_5 : Int32) : Option (Int32 × jm) := (if v5_5 ≤ v3_5 then (K30_5 M_5 t0_5 v3_5 (v4_5 + 1)) else (K30_5 M_5 t0_5 v5_5 (v4_5 + 1)))
def f_X6_richest_j72 (M_4 : jm) (K30_4 : jm → Int32 → Int32 → Int32 → Option (Int32 × jm)) (v1_2 : Int32) (v2_4 : Int32) (v3_4 : Int32) (v4_4 : Int32) (t0_4 : Int32) : Option (Int32 × jm) := (if t0_4 ≤ v3_4 then (f_X6_richest_j86 M_4 K30_4 v1_2 v3_4 v4_4 t0_4 v2_4) else (f_X6_richest_j86 M_4 K30_4 v1_2 v3_4 v4_4 t0_4 v4_4))
def f_X6_richest_j47 (M_3 : jm) (K30_3 : jm → Int32 → Int32 → Int32 → Option (Int32 × jm)) (v1_2 : Int32) (v2_3 : Int32) (v3_3 : Int32) (v4_3 : Int32) (t0_3 : Int32) (t1_3 : Int32) : Option (Int32 × jm) := (if t0_3 ≤ t1_3 then (some (v2_3, M_3)) else (if v1_2 = 0 then (jb (f_X6_owersOf M_3 v4_3) fun r7 => (jb (f_X6_onesOf r7) fun r8 => (f_X6_richest_j72 M_3 K30_3 v1_2 v2_3 v3_3 v4_3 r8))) else (jb (f_X6_priceOf M_3 v4_3) fun r6 => (f_X6_richest_j72 M_3 K30_3 v1_2 v2_3 v3_3 v4_3 r6))))
def f_X6_richest_l30 (v1_2 : Int32) : Nat → jm → Int32 → Int32 → Int32 → Option (Int32 × jm)
  | 0, _, _, _, _ => none
  | k_2 + 1, M_2, v2_2, v3_2, v4_2 => (if v1_2 = 0 then (f_X6_richest_j47 M_2 (f_X6_richest_l30 v1_2 k_2) v1_2 v2_2 v3_2 v4_2 (M_2 16 0 0) v4_2) else (f_X6_richest_j47 M_2 (f_X6_richest_l30 v1_2 k_2) v1_2 v2_2 v3_2 v4_2 (M_2 16 5 0) v4_2))
def f_X6_richest (M : jm) (v1 : Int32) : Option (Int32 × jm) := (if (f_X6_in (Int32.toInt64 v1) 0 1) = 0 then (jb2 (f_X6_refuse (ju M 16 11 0 0) (-2)) fun r9 M_9 => (some (r9, M_9))) else (f_X6_richest_l30 v1 10000 (ju M 16 11 0 0) (-9) 0 0))
set_option maxRecDepth 100000 in
theorem m_X6_richest (l : Launch) (X : jX) (A : Nat → Prop) (hs : jst X A) (M : jm) (v1 : Int32) (r : Int32) (N : jm) (h : f_X6_richest M v1 = some (r, N)) : Met l yX6_richest (jws yX6_richest cX6_richest 6 (some .int)) (jrm 2 47) (va_Pc [.ref (jO X 16), .int v1] (jB X M)) (jQm X A (some (.int r)) N) 0 0 A := by
  refine jm_of (by decide) (Nat.le_of_ble_eq_true rfl) ?_
  intro p e s m args below meth c ls S hr hlocks hB hl
  have S : CallFix p m c cX6_richest 6 s args jtb RX6 := S
  obtain ⟨hx, hb, hml, hown, hts⟩ := id S
  obtain ⟨hP, hK⟩ := hB
  have hN := hK.2
  have hS : va_S A s.heap s.heap [] := va_S.rf
  have hl : lv_has ls 6 [(0, .ref (jO X 16)), (1, .int v1)] := hl
  refine lv_aload_n hx hb dX6_richest_0 rfl (lv_at hl 0 rfl) ?_
  refine lv_iconst (v := 0) hx hb dX6_richest_1 jci_0 ?_
  refine jr_put (k := 11) (z := 0) hx hb hts hown hK hP hs hS jb_16 (Nat.le_of_ble_eq_true rfl) jlX6_79 rfl (Or.inl rfl) rfl rfl rfl dX6_richest_2 (fun H locs hP hS => ?_)
  refine lv_iload_n hx hb dX6_richest_5 rfl (lv_at hl 1 rfl) ?_
  refine lv_i2l hx hb dX6_richest_6 rfl ?_
  refine lv_lconst (v := 0) hx hb dX6_richest_7 rfl ?_
  refine lv_lconst (v := 1) hx hb dX6_richest_8 rfl ?_
  refine jr_kp (jr_rs (As := [.long (Int32.toInt64 v1), .long 0, .long 1]) (rest := []) S hN (m_X6_in l (Int32.toInt64 v1) 0 1 _ rfl) jw_X6_in js_X6_in jmX6_85 rfl rfl ⟨(Nat.le_of_ble_eq_true rfl), (Nat.le_of_ble_eq_true rfl)⟩ rfl hl.1 rfl (Nat.le_of_ble_eq_true rfl) dX6_richest_9 ⟨Nat.zero_le _, Nat.zero_le _⟩) ?_
  refine lv_if_ne (tgt := 22) hx hb dX6_richest_12 rfl (fun c12 => ?_) (fun c12 => ?_)
  · replace h := jh_f h c12
    refine lv_bipush (v := (-9)) hx hb dX6_richest_22 jcb_m9 ?_
    refine lv_istore_n (lv' := [(2, .int (-9)), (0, .ref (jO X 16)), (1, .int v1)]) hx hb dX6_richest_24 rfl hl (Nat.le_of_ble_eq_true rfl) rfl (fun ls hl => ?_)
    refine lv_iconst (v := 0) hx hb dX6_richest_25 jci_0 ?_
    refine lv_istore_n (lv' := [(3, .int 0), (2, .int (-9)), (0, .ref (jO X 16)), (1, .int v1)]) hx hb dX6_richest_26 rfl hl (Nat.le_of_ble_eq_true rfl) rfl (fun ls hl => ?_)
    refine lv_iconst (v := 0) hx hb dX6_richest_27 jci_0 ?_
    refine lv_istore (lv' := [(4, .int 0), (3, .int 0), (2, .int (-9)), (0, .ref (jO X 16)), (1, .int v1)]) hx hb dX6_richest_28 hl (Nat.le_of_ble_eq_true rfl) rfl (fun ls hl => ?_)
    have L30 : ∀ (v1_2 : Int32) (k_2 : Nat) (M_2 : jm) (H : Heap) (locs : List Loc) (v2_2 : Int32) (v3_2 : Int32) (v4_2 : Int32) (ls : Array Slot), f_X6_richest_l30 v1_2 k_2 M_2 v2_2 v3_2 v4_2 = some (r, N) → jrp X M_2 H → va_S A s.heap H locs → lv_has ls 6 [(0, .ref (jO X 16)), (1, .int v1_2), (2, .int v2_2), (3, .int v3_2), (4, .int v4_2)] → W p l e (jrm 2 47) s m args below meth c H locs 0 0 (MQ below (jQm X A (some (.int r)) N) args s 0 0 A) (F0 m 30 ls []) := by
      intro v1_2 k_2
      induction k_2 with
      | zero => intro M_2 H locs v2_2 v3_2 v4_2 ls h; exact jh_0 h
      | succ k_2 ih30 =>
        intro M_2 H locs v2_2 v3_2 v4_2 ls h hP hS hl
        refine lv_iload hx hb dX6_richest_30 (lv_at hl 4 rfl) ?_
        refine lv_iload_n hx hb dX6_richest_32 rfl (lv_at hl 1 rfl) ?_
        have J47 : ∀ (M_3 : jm) (H : Heap) (locs : List Loc) (v2_3 : Int32) (v3_3 : Int32) (v4_3 : Int32) (t0_3 : Int32) (t1_3 : Int32) (ls : Array Slot), f_X6_richest_j47 M_3 (f_X6_richest_l30 v1_2 k_2) v1_2 v2_3 v3_3 v4_3 t0_3 t1_3 = some (r, N) → jrp X M_3 H → va_S A s.heap H locs → lv_has ls 6 [(0, .ref (jO X 16)), (1, .int v1_2), (2, .int v2_3), (3, .int v3_3), (4, .int v4_3)] → W p l e (jrm 2 47) s m args below meth c H locs 0 0 (MQ below (jQm X A (some (.int r)) N) args s 0 0 A) (F0 m 47 ls [.int t0_3, .int t1_3]) := by
          intro M_3 H locs v2_3 v3_3 v4_3 t0_3 t1_3 ls h hP hS hl
          refine lv_icmp_ge (tgt := 106) hx hb dX6_richest_47 rfl (fun c47 => ?_) (fun c47 => ?_)
          · replace h := jh_t h c47
            refine lv_iload_n hx hb dX6_richest_106 rfl (lv_at hl 2 rfl) ?_
            exact je_mi hx hb hr hlocks hK hP hS h dX6_richest_107
          · replace h := jh_f h c47
            refine lv_iload_n hx hb dX6_richest_50 rfl (lv_at hl 1 rfl) ?_
            have J72 : ∀ (M_4 : jm) (H : Heap) (locs : List Loc) (v2_4 : Int32) (v3_4 : Int32) (v4_4 : Int32) (t0_4 : Int32) (ls : Array Slot), f_X6_richest_j72 M_4 (f_X6_richest_l30 v1_2 k_2) v1_2 v2_4 v3_4 v4_4 t0_4 = some (r, N) → jrp X M_4 H → va_S A s.heap H locs → lv_has ls 6 [(0, .ref (jO X 16)), (1, .int v1_2), (2, .int v2_4), (3, .int v3_4), (4, .int v4_4)] → W p l e (jrm 2 47) s m args below meth c H locs 0 0 (MQ below (jQm X A (some (.int r)) N) args s 0 0 A) (F0 m 72 ls [.int t0_4]) := by
              intro M_4 H locs v2_4 v3_4 v4_4 t0_4 ls h hP hS hl
              refine lv_istore (lv' := [(5, .int t0_4), (0, .ref (jO X 16)), (1, .int v1_2), (2, .int v2_4), (3, .int v3_4), (4, .int v4_4)]) hx hb dX6_richest_72 hl (Nat.le_of_ble_eq_true rfl) rfl (fun ls hl => ?_)
              refine lv_iload hx hb dX6_richest_74 (lv_at hl 0 rfl) ?_
              refine lv_iload_n hx hb dX6_richest_76 rfl (lv_at hl 4 rfl) ?_
              have J86 : ∀ (M_5 : jm) (H : Heap) (locs : List Loc) (v3_5 : Int32) (v4_5 : Int32) (v5_5 : Int32) (t0_5 : Int32) (ls : Array Slot), f_X6_richest_j86 M_5 (f_X6_richest_l30 v1_2 k_2) v1_2 v3_5 v4_5 v5_5 t0_5 = some (r, N) → jrp X M_5 H → va_S A s.heap H locs → lv_has ls 6 [(0, .ref (jO X 16)), (1, .int v1_2), (3, .int v3_5), (4, .int v4_5), (5, .int v5_5)] → W p l e (jrm 2 47) s m args below meth c H locs 0 0 (MQ below (jQm X A (some (.int r)) N) args s 0 0 A) (F0 m 86 ls [.int t0_5]) := by
                intro M_5 H locs v3_5 v4_5 v5_5 t0_5 ls h hP hS hl
                refine lv_istore_n (lv' := [(2, .int t0_5), (0, .ref (jO X 16)), (1, .int v1_2), (3, .int v3_5), (4, .int v4_5), (5, .int v5_5)]) hx hb dX6_richest_86 rfl hl (Nat.le_of_ble_eq_true rfl) rfl (fun ls hl => ?_)
                refine lv_iload hx hb dX6_richest_87 (lv_at hl 5 rfl) ?_
                refine lv_iload_n hx hb dX6_richest_89 rfl (lv_at hl 3 rfl) ?_
                refine lv_icmp_le (tgt := 98) hx hb dX6_richest_90 rfl (fun c90 => ?_) (fun c90 => ?_)
                · replace h := jh_t h c90
                  refine lv_iload_n hx hb dX6_richest_98 rfl (lv_at hl 3 rfl) ?_
                  refine lv_istore_n (lv' := [(3, .int v3_5), (2, .int t0_5), (0, .ref (jO X 16)), (1, .int v1_2), (4, .int v4_5), (5, .int v5_5)]) hx hb dX6_richest_99 rfl hl (Nat.le_of_ble_eq_true rfl) rfl (fun ls hl => ?_)
                  refine lv_iinc (v := (v4_5 + 1)) (lv' := [(4, .int (v4_5 + 1)), (3, .int v3_5), (2, .int t0_5), (0, .ref (jO X 16)), (1, .int v1_2), (5, .int v5_5)]) hx hb dX6_richest_100 hl (k := 4) rfl (congrArg _ jci_1) (Nat.le_of_ble_eq_true rfl) rfl (fun ls hl => ?_)
                  refine lv_goto (tgt := 30) hx hb dX6_richest_103 rfl ?_
                  exact ih30 M_5 _ _ t0_5 v3_5 (v4_5 + 1) _ h hP hS (lv_sub hl [3, 4, 2, 1, 0] rfl)
                · replace h := jh_f h c90
                  refine lv_iload hx hb dX6_richest_93 (lv_at hl 5 rfl) ?_
                  refine lv_goto (tgt := 99) hx hb dX6_richest_95 rfl ?_
                  refine lv_istore_n (lv' := [(3, .int v5_5), (2, .int t0_5), (0, .ref (jO X 16)), (1, .int v1_2), (4, .int v4_5), (5, .int v5_5)]) hx hb dX6_richest_99 rfl hl (Nat.le_of_ble_eq_true rfl) rfl (fun ls hl => ?_)
                  refine lv_iinc (v := (v4_5 + 1)) (lv' := [(4, .int (v4_5 + 1)), (3, .int v5_5), (2, .int t0_5), (0, .ref (jO X 16)), (1, .int v1_2), (5, .int v5_5)]) hx hb dX6_richest_100 hl (k := 4) rfl (congrArg _ jci_1) (Nat.le_of_ble_eq_true rfl) rfl (fun ls hl => ?_)
                  refine lv_goto (tgt := 30) hx hb dX6_richest_103 rfl ?_
                  exact ih30 M_5 _ _ t0_5 v5_5 (v4_5 + 1) _ h hP hS (lv_sub hl [3, 4, 2, 1, 0] rfl)
              refine lv_icmp_le (tgt := 85) hx hb dX6_richest_77 rfl (fun c77 => ?_) (fun c77 => ?_)
              · replace h := jh_t h c77
                refine lv_iload_n hx hb dX6_richest_85 rfl (lv_at hl 3 rfl) ?_
                exact J86 M_4 _ _ v3_4 v4_4 t0_4 v2_4 _ h hP hS (lv_sub hl [1, 2, 4, 5, 0] rfl)
              · replace h := jh_f h c77
                refine lv_iload hx hb dX6_richest_80 (lv_at hl 5 rfl) ?_
                refine lv_goto (tgt := 86) hx hb dX6_richest_82 rfl ?_
                exact J86 M_4 _ _ v3_4 v4_4 t0_4 v4_4 _ h hP hS (lv_sub hl [1, 2, 4, 5, 0] rfl)
            refine lv_if_ne (tgt := 66) hx hb dX6_richest_51 rfl (fun c51 => ?_) (fun c51 => ?_)
            · replace h := jh_f h c51
              refine lv_aload_n hx hb dX6_richest_66 rfl (lv_at hl 0 rfl) ?_
              refine lv_iload hx hb dX6_richest_67 (lv_at hl 4 rfl) ?_
              obtain ⟨r6, e6, h⟩ := jh_b h
              refine jr_kp (jr_rv (As := [.int v4_3]) (rest := []) S hK hP jb_16 rfl (m_X6_priceOf l X M_3 v4_3 r6 e6) jw_X6_priceOf ji_X6_priceOf jmX6_113 rfl rfl ⟨(Nat.le_of_ble_eq_true rfl), (Nat.le_of_ble_eq_true rfl)⟩ rfl hl.1 rfl (Nat.le_of_ble_eq_true rfl) dX6_richest_69 ⟨Nat.zero_le _, Nat.zero_le _⟩) ?_
              exact J72 M_3 _ _ v2_3 v3_3 v4_3 r6 _ h hP hS hl
            · replace h := jh_t h c51
              refine lv_aload_n hx hb dX6_richest_54 rfl (lv_at hl 0 rfl) ?_
              refine lv_iload hx hb dX6_richest_55 (lv_at hl 4 rfl) ?_
              obtain ⟨r7, e7, h⟩ := jh_b h
              refine jr_kp (jr_rv (As := [.int v4_3]) (rest := []) S hK hP jb_16 rfl (m_X6_owersOf l X M_3 v4_3 r7 e7) jw_X6_owersOf ji_X6_owersOf jmX6_229 rfl rfl ⟨(Nat.le_of_ble_eq_true rfl), (Nat.le_of_ble_eq_true rfl)⟩ rfl hl.1 rfl (Nat.le_of_ble_eq_true rfl) dX6_richest_57 ⟨Nat.zero_le _, Nat.zero_le _⟩) ?_
              obtain ⟨r8, e8, h⟩ := jh_b h
              refine jr_kp (jr_rs (As := [.int r7]) (rest := []) S hN (m_X6_onesOf l r7 r8 e8) jw_X6_onesOf js_X6_onesOf jmX6_119 rfl rfl ⟨(Nat.le_of_ble_eq_true rfl), (Nat.le_of_ble_eq_true rfl)⟩ rfl hl.1 rfl (Nat.le_of_ble_eq_true rfl) dX6_richest_60 ⟨Nat.zero_le _, Nat.zero_le _⟩) ?_
              refine lv_goto (tgt := 72) hx hb dX6_richest_63 rfl ?_
              exact J72 M_3 _ _ v2_3 v3_3 v4_3 r8 _ h hP hS hl
        refine lv_if_ne (tgt := 43) hx hb dX6_richest_33 rfl (fun c33 => ?_) (fun c33 => ?_)
        · replace h := jh_f h c33
          refine lv_aload_n hx hb dX6_richest_43 rfl (lv_at hl 0 rfl) ?_
          refine jr_get (k := 5) hx hb hts hown hK hP jb_16 (Nat.le_of_ble_eq_true rfl) jlX6_92 rfl dX6_richest_44 ?_
          exact J47 M_2 _ _ v2_2 v3_2 v4_2 (M_2 16 5 0) v4_2 _ h hP hS hl
        · replace h := jh_t h c33
          refine lv_aload_n hx hb dX6_richest_36 rfl (lv_at hl 0 rfl) ?_
          refine jr_get (k := 0) hx hb hts hown hK hP jb_16 (Nat.le_of_ble_eq_true rfl) jlX6_89 rfl dX6_richest_37 ?_
          refine lv_goto (tgt := 47) hx hb dX6_richest_40 rfl ?_
          exact J47 M_2 _ _ v2_2 v3_2 v4_2 (M_2 16 0 0) v4_2 _ h hP hS hl
    exact L30 v1 10000 (ju M 16 11 0 0) _ _ (-9) 0 0 _ h hP hS (lv_sub hl [3, 4, 2, 1, 0] rfl)
  · replace h := jh_t h c12
    refine lv_aload_n hx hb dX6_richest_15 rfl (lv_at hl 0 rfl) ?_
    refine lv_bipush (v := (-2)) hx hb dX6_richest_16 jcb_m2 ?_
    obtain ⟨r9, M_9, e9, h⟩ := jh_b2 h
    refine jr_km (jr_rv (As := [.int (-2)]) (rest := []) S hK hP jb_16 rfl (m_X6_refuse l X A hs (ju M 16 11 0 0) (-2) r9 M_9 e9) jw_X6_refuse ji_X6_refuse jmX6_143 rfl rfl ⟨(Nat.le_of_ble_eq_true rfl), (Nat.le_of_ble_eq_true rfl)⟩ rfl hl.1 rfl (Nat.le_of_ble_eq_true rfl) dX6_richest_18 ⟨Nat.zero_le _, Nat.zero_le _⟩) hS (fun H locs hP hS => ?_)
    exact je_mi hx hb hr hlocks hK hP hS h dX6_richest_21
def f_X6_beside (v0 : Int32) (v1 : Int32) : Int32 := (if v1 = 0 then (if v0 ≤ 6 then (-1) else (v0 - 7)) else (if v1 = 1 then (if 6 ≤ (v0 - v0 / 7 * 7) then (-1) else (v0 + 1)) else (if v1 = 2 then (if 42 ≤ v0 then (-1) else (v0 + 7)) else (if (v0 - v0 / 7 * 7) ≤ 0 then (-1) else (v0 - 1)))))
set_option maxRecDepth 100000 in
theorem m_X6_beside (l : Launch) (v0 : Int32) (v1 : Int32) (r : Int32) (h : f_X6_beside v0 v1 = r) : Met l yX6_beside (jws yX6_beside cX6_beside 2 (some .int)) (jrm 0 0) (va_Pc [.int v0, .int v1] jN) (jQ (.int r)) 0 0 (fun _ => False) := by
  refine jm_of (by decide) (Nat.le_of_ble_eq_true rfl) ?_
  intro p e s m args below meth c ls S hr hlocks hB hl
  have S : CallFix p m c cX6_beside 2 s args jtb RX6 := S
  obtain ⟨hx, hb, hml, hown, hts⟩ := id S
  have hN := hB
  have hl : lv_has ls 2 [(0, .int v0), (1, .int v1)] := hl
  refine lv_iload_n hx hb dX6_beside_0 rfl (lv_at hl 1 rfl) ?_
  by_cases c1_0 : v1 = 0
  · replace h := jh_t h c1_0
    refine lv_tableIn (off := 27) (tgt := 28) hx hb dX6_beside_1 (by rw [c1_0]; decide) (by rw [c1_0]; decide) (by rw [c1_0]; rfl) rfl ?_
    refine lv_iload_n hx hb dX6_beside_28 rfl (lv_at hl 0 rfl) ?_
    refine lv_bipush (v := 6) hx hb dX6_beside_29 jcb_6 ?_
    refine lv_icmp_le (tgt := 41) hx hb dX6_beside_31 rfl (fun c31 => ?_) (fun c31 => ?_)
    · replace h := jh_t h c31
      refine lv_iconst (v := (-1)) hx hb dX6_beside_41 jci_m1 ?_
      exact je_i hx hb hr hlocks h dX6_beside_42
    · replace h := jh_f h c31
      refine lv_iload_n hx hb dX6_beside_34 rfl (lv_at hl 0 rfl) ?_
      refine lv_bipush (v := 7) hx hb dX6_beside_35 jcb_7 ?_
      refine lv_isub hx hb dX6_beside_37 ?_
      refine lv_goto (tgt := 42) hx hb dX6_beside_38 rfl ?_
      exact je_i hx hb hr hlocks h dX6_beside_42
  replace h := jh_f h c1_0
  by_cases c1_1 : v1 = 1
  · replace h := jh_t h c1_1
    refine lv_tableIn (off := 42) (tgt := 43) hx hb dX6_beside_1 (by rw [c1_1]; decide) (by rw [c1_1]; decide) (by rw [c1_1]; rfl) rfl ?_
    refine lv_iload_n hx hb dX6_beside_43 rfl (lv_at hl 0 rfl) ?_
    refine lv_bipush (v := 7) hx hb dX6_beside_44 jcb_7 ?_
    refine lv_irem hx hb dX6_beside_46 (by decide) ?_
    refine lv_bipush (v := 6) hx hb dX6_beside_47 jcb_6 ?_
    refine lv_icmp_ge (tgt := 58) hx hb dX6_beside_49 rfl (fun c49 => ?_) (fun c49 => ?_)
    · replace h := jh_t h c49
      refine lv_iconst (v := (-1)) hx hb dX6_beside_58 jci_m1 ?_
      exact je_i hx hb hr hlocks h dX6_beside_59
    · replace h := jh_f h c49
      refine lv_iload_n hx hb dX6_beside_52 rfl (lv_at hl 0 rfl) ?_
      refine lv_iconst (v := 1) hx hb dX6_beside_53 jci_1 ?_
      refine lv_iadd hx hb dX6_beside_54 ?_
      refine lv_goto (tgt := 59) hx hb dX6_beside_55 rfl ?_
      exact je_i hx hb hr hlocks h dX6_beside_59
  replace h := jh_f h c1_1
  by_cases c1_2 : v1 = 2
  · replace h := jh_t h c1_2
    refine lv_tableIn (off := 59) (tgt := 60) hx hb dX6_beside_1 (by rw [c1_2]; decide) (by rw [c1_2]; decide) (by rw [c1_2]; rfl) rfl ?_
    refine lv_iload_n hx hb dX6_beside_60 rfl (lv_at hl 0 rfl) ?_
    refine lv_bipush (v := 42) hx hb dX6_beside_61 jcb_42 ?_
    refine lv_icmp_ge (tgt := 73) hx hb dX6_beside_63 rfl (fun c63 => ?_) (fun c63 => ?_)
    · replace h := jh_t h c63
      refine lv_iconst (v := (-1)) hx hb dX6_beside_73 jci_m1 ?_
      exact je_i hx hb hr hlocks h dX6_beside_74
    · replace h := jh_f h c63
      refine lv_iload_n hx hb dX6_beside_66 rfl (lv_at hl 0 rfl) ?_
      refine lv_bipush (v := 7) hx hb dX6_beside_67 jcb_7 ?_
      refine lv_iadd hx hb dX6_beside_69 ?_
      refine lv_goto (tgt := 74) hx hb dX6_beside_70 rfl ?_
      exact je_i hx hb hr hlocks h dX6_beside_74
  replace h := jh_f h c1_2
  refine jr_tdef (ks := [0, 1, 2]) (tgt := 75) hx hb dX6_beside_1 (jsw_cons (jsw_ne c1_0 rfl) (jsw_cons (jsw_ne c1_1 rfl) (jsw_cons (jsw_ne c1_2 rfl) (jsw_nil)))) (by decide) rfl ?_
  refine lv_iload_n hx hb dX6_beside_75 rfl (lv_at hl 0 rfl) ?_
  refine lv_bipush (v := 7) hx hb dX6_beside_76 jcb_7 ?_
  refine lv_irem hx hb dX6_beside_78 (by decide) ?_
  refine lv_if_le (tgt := 88) hx hb dX6_beside_79 rfl (fun c79 => ?_) (fun c79 => ?_)
  · replace h := jh_t h c79
    refine lv_iconst (v := (-1)) hx hb dX6_beside_88 jci_m1 ?_
    exact je_i hx hb hr hlocks h dX6_beside_89
  · replace h := jh_f h c79
    refine lv_iload_n hx hb dX6_beside_82 rfl (lv_at hl 0 rfl) ?_
    refine lv_iconst (v := 1) hx hb dX6_beside_83 jci_1 ?_
    refine lv_isub hx hb dX6_beside_84 ?_
    refine lv_goto (tgt := 89) hx hb dX6_beside_85 rfl ?_
    exact je_i hx hb hr hlocks h dX6_beside_89
def f_X6_layWays_j132 (M_6 : jm) (K67_6 : jm → Int32 → Option jm) (K78_6 : jm → Int32 → Option jm) (v1_3 : Int32) (v2_3 : Int32) (v3_4 : Int32) (v4_6 : Int32) (v5_6 : Int32) (t0_6 : Int32) : Option jm := (if v5_6 < 0 then (K78_6 M_6 (v4_6 + 1)) else (jgd ((128 * v5_6) + t0_6) 6272 (if 0 ≤ (M_6 16 30 (Int32.toNatClampNeg ((128 * v5_6) + t0_6))) then (K78_6 M_6 (v4_6 + 1)) else (jgd v3_4 6272 (jgd (M_6 16 31 (Int32.toNatClampNeg v3_4)) 6272 (jgd ((128 * v5_6) + t0_6) 6272 (jgd ((ju M_6 16 30 (Int32.toNatClampNeg ((128 * v5_6) + t0_6)) ((M_6 16 30 (Int32.toNatClampNeg (M_6 16 31 (Int32.toNatClampNeg v3_4)))) + 1)) 16 32 0) 6272 (K78_6 (ju (ju (ju M_6 16 30 (Int32.toNatClampNeg ((128 * v5_6) + t0_6)) ((M_6 16 30 (Int32.toNatClampNeg (M_6 16 31 (Int32.toNatClampNeg v3_4)))) + 1)) 16 31 (Int32.toNatClampNeg ((ju M_6 16 30 (Int32.toNatClampNeg ((128 * v5_6) + t0_6)) ((M_6 16 30 (Int32.toNatClampNeg (M_6 16 31 (Int32.toNatClampNeg v3_4)))) + 1)) 16 32 0)) ((128 * v5_6) + t0_6)) 16 32 0 (((ju (ju M_6 16 30 (Int32.toNatClampNeg ((128 * v5_6) + t0_6)) ((M_6 16 30 (Int32.toNatClampNeg (M_6 16 31 (Int32.toNatClampNeg v3_4)))) + 1)) 16 31 (Int32.toNatClampNeg ((ju M_6 16 30 (Int32.toNatClampNeg ((128 * v5_6) + t0_6)) ((M_6 16 30 (Int32.toNatClampNeg (M_6 16 31 (Int32.toNatClampNeg v3_4)))) + 1)) 16 32 0)) ((128 * v5_6) + t0_6)) 16 32 0) + 1)) (v4_6 + 1)))))))))
def f_X6_layWays_l78 (K67_4 : jm → Int32 → Option jm) (v1_3 : Int32) (v2_3 : Int32) (v3_4 : Int32) : Nat → jm → Int32 → Option jm
  | 0, _, _ => none
  | k_4 + 1, M_4, v4_4 => (if 4 ≤ v4_4 then (K67_4 M_4 (v3_4 + 1)) else (jgd v3_4 6272 (if 0 ≤ (f_X6_beside ((M_4 16 31 (Int32.toNatClampNeg v3_4)) / 128) v4_4) then (jgd v3_4 6272 (jb (f_X6_seenFrom M_4 v1_3 (f_X6_beside ((M_4 16 31 (Int32.toNatClampNeg v3_4)) / 128) v4_4)) fun r7 => (f_X6_layWays_j132 M_4 K67_4 (f_X6_layWays_l78 K67_4 v1_3 v2_3 v3_4 k_4) v1_3 v2_3 v3_4 v4_4 (f_X6_beside ((M_4 16 31 (Int32.toNatClampNeg v3_4)) / 128) v4_4) (((M_4 16 31 (Int32.toNatClampNeg v3_4)) - (M_4 16 31 (Int32.toNatClampNeg v3_4)) / 128 * 128) ||| (r7 &&& (v2_3 ^^^ (-1))))))) else (f_X6_layWays_j132 M_4 K67_4 (f_X6_layWays_l78 K67_4 v1_3 v2_3 v3_4 k_4) v1_3 v2_3 v3_4 v4_4 (f_X6_beside ((M_4 16 31 (Int32.toNatClampNeg v3_4)) / 128) v4_4) 0))))
def f_X6_layWays_l67 (v1_3 : Int32) (v2_3 : Int32) : Nat → jm → Int32 → Option jm
  | 0, _, _ => none
  | k_3 + 1, M_3, v3_3 => (if (M_3 16 32 0) ≤ v3_3 then (some M_3) else (f_X6_layWays_l78 (f_X6_layWays_l67 v1_3 v2_3 k_3) v1_3 v2_3 v3_3 10000 M_3 0))
def f_X6_layWays_l2 (v1_1 : Int32) : Nat → jm → Int32 → Option jm
  | 0, _, _ => none
  | k_1 + 1, M_1, v2_1 => (if 6272 ≤ v2_1 then (jb (f_X6_owesBits M_1 v1_1) fun r2 => (jgd v1_1 6 (jgd (128 * (M_1 16 6 (Int32.toNatClampNeg v1_1))) 6272 (jgd v1_1 6 (jgd 0 6272 (f_X6_layWays_l67 v1_1 r2 10000 (ju (ju (ju M_1 16 30 (Int32.toNatClampNeg (128 * (M_1 16 6 (Int32.toNatClampNeg v1_1)))) 0) 16 31 (Int32.toNatClampNeg 0) (128 * ((ju M_1 16 30 (Int32.toNatClampNeg (128 * (M_1 16 6 (Int32.toNatClampNeg v1_1)))) 0) 16 6 (Int32.toNatClampNeg v1_1)))) 16 32 0 1) 0)))))) else (jgd v2_1 6272 ((f_X6_layWays_l2 v1_1 k_1) (ju M_1 16 30 (Int32.toNatClampNeg v2_1) (-1)) (v2_1 + 1))))
def f_X6_layWays (M : jm) (v1 : Int32) : Option jm := (f_X6_layWays_l2 v1 10000 M 0)
set_option maxRecDepth 100000 in
theorem m_X6_layWays (l : Launch) (X : jX) (A : Nat → Prop) (hs : jst X A) (M : jm) (v1 : Int32) (N : jm) (h : f_X6_layWays M v1 = some N) : Met l yX6_layWays (jws yX6_layWays cX6_layWays 7 none) (jrm 4 90) (va_Pc [.ref (jO X 16), .int v1] (jB X M)) (jQm X A none N) 0 0 A := by
  refine jm_of (by decide) (Nat.le_of_ble_eq_true rfl) ?_
  intro p e s m args below meth c ls S hr hlocks hB hl
  have S : CallFix p m c cX6_layWays 7 s args jtb RX6 := S
  obtain ⟨hx, hb, hml, hown, hts⟩ := id S
  obtain ⟨hP, hK⟩ := hB
  have hN := hK.2
  have hS : va_S A s.heap s.heap [] := va_S.rf
  have hl : lv_has ls 7 [(0, .ref (jO X 16)), (1, .int v1)] := hl
  refine lv_iconst (v := 0) hx hb dX6_layWays_0 jci_0 ?_
  refine lv_istore_n (lv' := [(2, .int 0), (0, .ref (jO X 16)), (1, .int v1)]) hx hb dX6_layWays_1 rfl hl (Nat.le_of_ble_eq_true rfl) rfl (fun ls hl => ?_)
  have L2 : ∀ (v1_1 : Int32) (k_1 : Nat) (M_1 : jm) (H : Heap) (locs : List Loc) (v2_1 : Int32) (ls : Array Slot), f_X6_layWays_l2 v1_1 k_1 M_1 v2_1 = some N → jrp X M_1 H → va_S A s.heap H locs → lv_has ls 7 [(0, .ref (jO X 16)), (1, .int v1_1), (2, .int v2_1)] → W p l e (jrm 4 90) s m args below meth c H locs 0 0 (MQ below (jQm X A none N) args s 0 0 A) (F0 m 2 ls []) := by
    intro v1_1 k_1
    induction k_1 with
    | zero => intro M_1 H locs v2_1 ls h; exact jh_0 h
    | succ k_1 ih2 =>
      intro M_1 H locs v2_1 ls h hP hS hl
      refine lv_iload_n hx hb dX6_layWays_2 rfl (lv_at hl 2 rfl) ?_
      refine lv_sipush (v := 6272) hx hb dX6_layWays_3 jcs_6272 ?_
      refine lv_icmp_ge (tgt := 22) hx hb dX6_layWays_6 rfl (fun c6 => ?_) (fun c6 => ?_)
      · replace h := jh_t h c6
        refine lv_aload_n hx hb dX6_layWays_22 rfl (lv_at hl 0 rfl) ?_
        refine lv_iload_n hx hb dX6_layWays_23 rfl (lv_at hl 1 rfl) ?_
        obtain ⟨r2, e2, h⟩ := jh_b h
        refine jr_kp (jr_rv (As := [.int v1_1]) (rest := []) S hK hP jb_16 rfl (m_X6_owesBits l X M_1 v1_1 r2 e2) jw_X6_owesBits ji_X6_owesBits jmX6_116 rfl rfl ⟨(Nat.le_of_ble_eq_true rfl), (Nat.le_of_ble_eq_true rfl)⟩ rfl hl.1 rfl (Nat.le_of_ble_eq_true rfl) dX6_layWays_24 ⟨Nat.zero_le _, Nat.zero_le _⟩) ?_
        refine lv_istore_n (lv' := [(2, .int r2), (0, .ref (jO X 16)), (1, .int v1_1)]) hx hb dX6_layWays_27 rfl hl (Nat.le_of_ble_eq_true rfl) rfl (fun ls hl => ?_)
        refine lv_aload_n hx hb dX6_layWays_28 rfl (lv_at hl 1 rfl) ?_
        refine jr_get (k := 30) hx hb hts hown hK hP jb_16 (Nat.le_of_ble_eq_true rfl) jlX6_61 rfl dX6_layWays_29 ?_
        refine lv_sipush (v := 128) hx hb dX6_layWays_32 jcs_128 ?_
        refine lv_aload_n hx hb dX6_layWays_35 rfl (lv_at hl 1 rfl) ?_
        refine jr_get (k := 6) hx hb hts hown hK hP jb_16 (Nat.le_of_ble_eq_true rfl) jlX6_22 rfl dX6_layWays_36 ?_
        refine lv_iload_n hx hb dX6_layWays_39 rfl (lv_at hl 2 rfl) ?_
        obtain ⟨g40, h⟩ := jh_gd h
        refine jr_ald (n := 6) hx hb hK hP jb_16 rfl g40 dX6_layWays_40 ?_
        refine lv_imul hx hb dX6_layWays_41 ?_
        refine lv_iconst (v := 0) hx hb dX6_layWays_42 jci_0 ?_
        obtain ⟨g43, h⟩ := jh_gd h
        refine jr_ast (n := 6272) hx hb hK hP hs hS jb_16 rfl g43 dX6_layWays_43 (fun H locs hP hS => ?_)
        refine lv_aload_n hx hb dX6_layWays_44 rfl (lv_at hl 1 rfl) ?_
        refine jr_get (k := 31) hx hb hts hown hK hP jb_16 (Nat.le_of_ble_eq_true rfl) jlX6_64 rfl dX6_layWays_45 ?_
        refine lv_iconst (v := 0) hx hb dX6_layWays_48 jci_0 ?_
        refine lv_sipush (v := 128) hx hb dX6_layWays_49 jcs_128 ?_
        refine lv_aload_n hx hb dX6_layWays_52 rfl (lv_at hl 1 rfl) ?_
        refine jr_get (k := 6) hx hb hts hown hK hP jb_16 (Nat.le_of_ble_eq_true rfl) jlX6_22 rfl dX6_layWays_53 ?_
        refine lv_iload_n hx hb dX6_layWays_56 rfl (lv_at hl 2 rfl) ?_
        obtain ⟨g57, h⟩ := jh_gd h
        refine jr_ald (n := 6) hx hb hK hP jb_16 rfl g57 dX6_layWays_57 ?_
        refine lv_imul hx hb dX6_layWays_58 ?_
        obtain ⟨g59, h⟩ := jh_gd h
        refine jr_ast (n := 6272) hx hb hK hP hs hS jb_16 rfl g59 dX6_layWays_59 (fun H locs hP hS => ?_)
        refine lv_aload_n hx hb dX6_layWays_60 rfl (lv_at hl 1 rfl) ?_
        refine lv_iconst (v := 1) hx hb dX6_layWays_61 jci_1 ?_
        refine jr_put (k := 32) (z := 1) hx hb hts hown hK hP hs hS jb_16 (Nat.le_of_ble_eq_true rfl) jlX6_256 rfl (Or.inl rfl) rfl rfl rfl dX6_layWays_62 (fun H locs hP hS => ?_)
        refine lv_iconst (v := 0) hx hb dX6_layWays_65 jci_0 ?_
        refine lv_istore_n (lv' := [(3, .int 0), (2, .int r2), (0, .ref (jO X 16)), (1, .int v1_1)]) hx hb dX6_layWays_66 rfl hl (Nat.le_of_ble_eq_true rfl) rfl (fun ls hl => ?_)
        have L67 : ∀ (v1_3 : Int32) (v2_3 : Int32) (k_3 : Nat) (M_3 : jm) (H : Heap) (locs : List Loc) (v3_3 : Int32) (ls : Array Slot), f_X6_layWays_l67 v1_3 v2_3 k_3 M_3 v3_3 = some N → jrp X M_3 H → va_S A s.heap H locs → lv_has ls 7 [(0, .ref (jO X 16)), (1, .int v1_3), (2, .int v2_3), (3, .int v3_3)] → W p l e (jrm 4 90) s m args below meth c H locs 0 0 (MQ below (jQm X A none N) args s 0 0 A) (F0 m 67 ls []) := by
          intro v1_3 v2_3 k_3
          induction k_3 with
          | zero => intro M_3 H locs v3_3 ls h; exact jh_0 h
          | succ k_3 ih67 =>
            intro M_3 H locs v3_3 ls h hP hS hl
            refine lv_iload_n hx hb dX6_layWays_67 rfl (lv_at hl 3 rfl) ?_
            refine lv_aload_n hx hb dX6_layWays_68 rfl (lv_at hl 0 rfl) ?_
            refine jr_get (k := 32) hx hb hts hown hK hP jb_16 (Nat.le_of_ble_eq_true rfl) jlX6_256 rfl dX6_layWays_69 ?_
            refine lv_icmp_ge (tgt := 223) hx hb dX6_layWays_72 rfl (fun c72 => ?_) (fun c72 => ?_)
            · replace h := jh_t h c72
              exact je_mv hx hb hr hlocks hK hP hS h dX6_layWays_223
            · replace h := jh_f h c72
              refine lv_iconst (v := 0) hx hb dX6_layWays_75 jci_0 ?_
              refine lv_istore (lv' := [(4, .int 0), (0, .ref (jO X 16)), (1, .int v1_3), (2, .int v2_3), (3, .int v3_3)]) hx hb dX6_layWays_76 hl (Nat.le_of_ble_eq_true rfl) rfl (fun ls hl => ?_)
              have L78 : ∀ (v3_4 : Int32) (k_4 : Nat) (M_4 : jm) (H : Heap) (locs : List Loc) (v4_4 : Int32) (ls : Array Slot), f_X6_layWays_l78 (f_X6_layWays_l67 v1_3 v2_3 k_3) v1_3 v2_3 v3_4 k_4 M_4 v4_4 = some N → jrp X M_4 H → va_S A s.heap H locs → lv_has ls 7 [(0, .ref (jO X 16)), (1, .int v1_3), (2, .int v2_3), (3, .int v3_4), (4, .int v4_4)] → W p l e (jrm 4 90) s m args below meth c H locs 0 0 (MQ below (jQm X A none N) args s 0 0 A) (F0 m 78 ls []) := by
                intro v3_4 k_4
                induction k_4 with
                | zero => intro M_4 H locs v4_4 ls h; exact jh_0 h
                | succ k_4 ih78 =>
                  intro M_4 H locs v4_4 ls h hP hS hl
                  refine lv_iload hx hb dX6_layWays_78 (lv_at hl 4 rfl) ?_
                  refine lv_iconst (v := 4) hx hb dX6_layWays_80 jci_4 ?_
                  refine lv_icmp_ge (tgt := 217) hx hb dX6_layWays_81 rfl (fun c81 => ?_) (fun c81 => ?_)
                  · replace h := jh_t h c81
                    refine lv_iinc (v := (v3_4 + 1)) (lv' := [(3, .int (v3_4 + 1)), (0, .ref (jO X 16)), (1, .int v1_3), (2, .int v2_3), (4, .int v4_4)]) hx hb dX6_layWays_217 hl (k := 3) rfl (congrArg _ jci_1) (Nat.le_of_ble_eq_true rfl) rfl (fun ls hl => ?_)
                    refine lv_goto (tgt := 67) hx hb dX6_layWays_220 rfl ?_
                    exact ih67 M_4 _ _ (v3_4 + 1) _ h hP hS (lv_sub hl [1, 2, 3, 0] rfl)
                  · replace h := jh_f h c81
                    refine lv_aload_n hx hb dX6_layWays_84 rfl (lv_at hl 0 rfl) ?_
                    refine jr_get (k := 31) hx hb hts hown hK hP jb_16 (Nat.le_of_ble_eq_true rfl) jlX6_64 rfl dX6_layWays_85 ?_
                    refine lv_iload_n hx hb dX6_layWays_88 rfl (lv_at hl 3 rfl) ?_
                    obtain ⟨g89, h⟩ := jh_gd h
                    refine jr_ald (n := 6272) hx hb hK hP jb_16 rfl g89 dX6_layWays_89 ?_
                    refine lv_sipush (v := 128) hx hb dX6_layWays_90 jcs_128 ?_
                    refine lv_idiv hx hb dX6_layWays_93 (by decide) ?_
                    refine lv_iload hx hb dX6_layWays_94 (lv_at hl 4 rfl) ?_
                    refine jr_kp (jr_rs (As := [.int ((M_4 16 31 (Int32.toNatClampNeg v3_4)) / 128), .int v4_4]) (rest := []) S hN (m_X6_beside l ((M_4 16 31 (Int32.toNatClampNeg v3_4)) / 128) v4_4 _ rfl) jw_X6_beside js_X6_beside jmX6_259 rfl rfl ⟨(Nat.le_of_ble_eq_true rfl), (Nat.le_of_ble_eq_true rfl)⟩ rfl hl.1 rfl (Nat.le_of_ble_eq_true rfl) dX6_layWays_96 ⟨Nat.zero_le _, Nat.zero_le _⟩) ?_
                    refine lv_istore (lv' := [(5, .int (f_X6_beside ((M_4 16 31 (Int32.toNatClampNeg v3_4)) / 128) v4_4)), (0, .ref (jO X 16)), (1, .int v1_3), (2, .int v2_3), (3, .int v3_4), (4, .int v4_4)]) hx hb dX6_layWays_99 hl (Nat.le_of_ble_eq_true rfl) rfl (fun ls hl => ?_)
                    refine lv_iload hx hb dX6_layWays_101 (lv_at hl 0 rfl) ?_
                    have J132 : ∀ (M_6 : jm) (H : Heap) (locs : List Loc) (v4_6 : Int32) (v5_6 : Int32) (t0_6 : Int32) (ls : Array Slot), f_X6_layWays_j132 M_6 (f_X6_layWays_l67 v1_3 v2_3 k_3) (f_X6_layWays_l78 (f_X6_layWays_l67 v1_3 v2_3 k_3) v1_3 v2_3 v3_4 k_4) v1_3 v2_3 v3_4 v4_6 v5_6 t0_6 = some N → jrp X M_6 H → va_S A s.heap H locs → lv_has ls 7 [(0, .ref (jO X 16)), (1, .int v1_3), (2, .int v2_3), (3, .int v3_4), (4, .int v4_6), (5, .int v5_6)] → W p l e (jrm 4 90) s m args below meth c H locs 0 0 (MQ below (jQm X A none N) args s 0 0 A) (F0 m 132 ls [.int t0_6]) := by
                      intro M_6 H locs v4_6 v5_6 t0_6 ls h hP hS hl
                      refine lv_istore (lv' := [(6, .int t0_6), (0, .ref (jO X 16)), (1, .int v1_3), (2, .int v2_3), (3, .int v3_4), (4, .int v4_6), (5, .int v5_6)]) hx hb dX6_layWays_132 hl (Nat.le_of_ble_eq_true rfl) rfl (fun ls hl => ?_)
                      refine lv_iload hx hb dX6_layWays_134 (lv_at hl 6 rfl) ?_
                      refine lv_if_lt (tgt := 211) hx hb dX6_layWays_136 rfl (fun c136 => ?_) (fun c136 => ?_)
                      · replace h := jh_t h c136
                        refine lv_iinc (v := (v4_6 + 1)) (lv' := [(4, .int (v4_6 + 1)), (6, .int t0_6), (0, .ref (jO X 16)), (1, .int v1_3), (2, .int v2_3), (3, .int v3_4), (5, .int v5_6)]) hx hb dX6_layWays_211 hl (k := 5) rfl (congrArg _ jci_1) (Nat.le_of_ble_eq_true rfl) rfl (fun ls hl => ?_)
                        refine lv_goto (tgt := 78) hx hb dX6_layWays_214 rfl ?_
                        exact ih78 M_6 _ _ (v4_6 + 1) _ h hP hS (lv_sub hl [2, 3, 4, 5, 0] rfl)
                      · replace h := jh_f h c136
                        refine lv_aload_n hx hb dX6_layWays_139 rfl (lv_at hl 1 rfl) ?_
                        refine jr_get (k := 30) hx hb hts hown hK hP jb_16 (Nat.le_of_ble_eq_true rfl) jlX6_61 rfl dX6_layWays_140 ?_
                        refine lv_sipush (v := 128) hx hb dX6_layWays_143 jcs_128 ?_
                        refine lv_iload hx hb dX6_layWays_146 (lv_at hl 6 rfl) ?_
                        refine lv_imul hx hb dX6_layWays_148 ?_
                        refine lv_iload hx hb dX6_layWays_149 (lv_at hl 0 rfl) ?_
                        refine lv_iadd hx hb dX6_layWays_151 ?_
                        obtain ⟨g152, h⟩ := jh_gd h
                        refine jr_ald (n := 6272) hx hb hK hP jb_16 rfl g152 dX6_layWays_152 ?_
                        refine lv_if_ge (tgt := 211) hx hb dX6_layWays_153 rfl (fun c153 => ?_) (fun c153 => ?_)
                        · replace h := jh_t h c153
                          refine lv_iinc (v := (v4_6 + 1)) (lv' := [(4, .int (v4_6 + 1)), (6, .int t0_6), (0, .ref (jO X 16)), (1, .int v1_3), (2, .int v2_3), (3, .int v3_4), (5, .int v5_6)]) hx hb dX6_layWays_211 hl (k := 5) rfl (congrArg _ jci_1) (Nat.le_of_ble_eq_true rfl) rfl (fun ls hl => ?_)
                          refine lv_goto (tgt := 78) hx hb dX6_layWays_214 rfl ?_
                          exact ih78 M_6 _ _ (v4_6 + 1) _ h hP hS (lv_sub hl [2, 3, 4, 5, 0] rfl)
                        · replace h := jh_f h c153
                          refine lv_aload_n hx hb dX6_layWays_156 rfl (lv_at hl 1 rfl) ?_
                          refine jr_get (k := 30) hx hb hts hown hK hP jb_16 (Nat.le_of_ble_eq_true rfl) jlX6_61 rfl dX6_layWays_157 ?_
                          refine lv_sipush (v := 128) hx hb dX6_layWays_160 jcs_128 ?_
                          refine lv_iload hx hb dX6_layWays_163 (lv_at hl 6 rfl) ?_
                          refine lv_imul hx hb dX6_layWays_165 ?_
                          refine lv_iload hx hb dX6_layWays_166 (lv_at hl 0 rfl) ?_
                          refine lv_iadd hx hb dX6_layWays_168 ?_
                          refine lv_aload_n hx hb dX6_layWays_169 rfl (lv_at hl 1 rfl) ?_
                          refine jr_get (k := 30) hx hb hts hown hK hP jb_16 (Nat.le_of_ble_eq_true rfl) jlX6_61 rfl dX6_layWays_170 ?_
                          refine lv_aload_n hx hb dX6_layWays_173 rfl (lv_at hl 1 rfl) ?_
                          refine jr_get (k := 31) hx hb hts hown hK hP jb_16 (Nat.le_of_ble_eq_true rfl) jlX6_64 rfl dX6_layWays_174 ?_
                          refine lv_iload_n hx hb dX6_layWays_177 rfl (lv_at hl 4 rfl) ?_
                          obtain ⟨g178, h⟩ := jh_gd h
                          refine jr_ald (n := 6272) hx hb hK hP jb_16 rfl g178 dX6_layWays_178 ?_
                          obtain ⟨g179, h⟩ := jh_gd h
                          refine jr_ald (n := 6272) hx hb hK hP jb_16 rfl g179 dX6_layWays_179 ?_
                          refine lv_iconst (v := 1) hx hb dX6_layWays_180 jci_1 ?_
                          refine lv_iadd hx hb dX6_layWays_181 ?_
                          obtain ⟨g182, h⟩ := jh_gd h
                          refine jr_ast (n := 6272) hx hb hK hP hs hS jb_16 rfl g182 dX6_layWays_182 (fun H locs hP hS => ?_)
                          refine lv_aload_n hx hb dX6_layWays_183 rfl (lv_at hl 1 rfl) ?_
                          refine jr_get (k := 31) hx hb hts hown hK hP jb_16 (Nat.le_of_ble_eq_true rfl) jlX6_64 rfl dX6_layWays_184 ?_
                          refine lv_aload_n hx hb dX6_layWays_187 rfl (lv_at hl 1 rfl) ?_
                          refine jr_get (k := 32) hx hb hts hown hK hP jb_16 (Nat.le_of_ble_eq_true rfl) jlX6_256 rfl dX6_layWays_188 ?_
                          refine lv_sipush (v := 128) hx hb dX6_layWays_191 jcs_128 ?_
                          refine lv_iload hx hb dX6_layWays_194 (lv_at hl 6 rfl) ?_
                          refine lv_imul hx hb dX6_layWays_196 ?_
                          refine lv_iload hx hb dX6_layWays_197 (lv_at hl 0 rfl) ?_
                          refine lv_iadd hx hb dX6_layWays_199 ?_
                          obtain ⟨g200, h⟩ := jh_gd h
                          refine jr_ast (n := 6272) hx hb hK hP hs hS jb_16 rfl g200 dX6_layWays_200 (fun H locs hP hS => ?_)
                          refine lv_aload_n hx hb dX6_layWays_201 rfl (lv_at hl 1 rfl) ?_
                          refine lv_dup hx hb dX6_layWays_202 rfl ?_
                          refine jr_get (k := 32) hx hb hts hown hK hP jb_16 (Nat.le_of_ble_eq_true rfl) jlX6_256 rfl dX6_layWays_203 ?_
                          refine lv_iconst (v := 1) hx hb dX6_layWays_206 jci_1 ?_
                          refine lv_iadd hx hb dX6_layWays_207 ?_
                          refine jr_put (k := 32) (z := (((ju (ju M_6 16 30 (Int32.toNatClampNeg ((128 * v5_6) + t0_6)) ((M_6 16 30 (Int32.toNatClampNeg (M_6 16 31 (Int32.toNatClampNeg v3_4)))) + 1)) 16 31 (Int32.toNatClampNeg ((ju M_6 16 30 (Int32.toNatClampNeg ((128 * v5_6) + t0_6)) ((M_6 16 30 (Int32.toNatClampNeg (M_6 16 31 (Int32.toNatClampNeg v3_4)))) + 1)) 16 32 0)) ((128 * v5_6) + t0_6)) 16 32 0) + 1)) hx hb hts hown hK hP hs hS jb_16 (Nat.le_of_ble_eq_true rfl) jlX6_256 rfl (Or.inl rfl) rfl rfl rfl dX6_layWays_208 (fun H locs hP hS => ?_)
                          refine lv_iinc (v := (v4_6 + 1)) (lv' := [(4, .int (v4_6 + 1)), (6, .int t0_6), (0, .ref (jO X 16)), (1, .int v1_3), (2, .int v2_3), (3, .int v3_4), (5, .int v5_6)]) hx hb dX6_layWays_211 hl (k := 5) rfl (congrArg _ jci_1) (Nat.le_of_ble_eq_true rfl) rfl (fun ls hl => ?_)
                          refine lv_goto (tgt := 78) hx hb dX6_layWays_214 rfl ?_
                          exact ih78 (ju (ju (ju M_6 16 30 (Int32.toNatClampNeg ((128 * v5_6) + t0_6)) ((M_6 16 30 (Int32.toNatClampNeg (M_6 16 31 (Int32.toNatClampNeg v3_4)))) + 1)) 16 31 (Int32.toNatClampNeg ((ju M_6 16 30 (Int32.toNatClampNeg ((128 * v5_6) + t0_6)) ((M_6 16 30 (Int32.toNatClampNeg (M_6 16 31 (Int32.toNatClampNeg v3_4)))) + 1)) 16 32 0)) ((128 * v5_6) + t0_6)) 16 32 0 (((ju (ju M_6 16 30 (Int32.toNatClampNeg ((128 * v5_6) + t0_6)) ((M_6 16 30 (Int32.toNatClampNeg (M_6 16 31 (Int32.toNatClampNeg v3_4)))) + 1)) 16 31 (Int32.toNatClampNeg ((ju M_6 16 30 (Int32.toNatClampNeg ((128 * v5_6) + t0_6)) ((M_6 16 30 (Int32.toNatClampNeg (M_6 16 31 (Int32.toNatClampNeg v3_4)))) + 1)) 16 32 0)) ((128 * v5_6) + t0_6)) 16 32 0) + 1)) _ _ (v4_6 + 1) _ h hP hS (lv_sub hl [2, 3, 4, 5, 0] rfl)
                    refine lv_if_ge (tgt := 110) hx hb dX6_layWays_103 rfl (fun c103 => ?_) (fun c103 => ?_)
                    · replace h := jh_t h c103
                      refine lv_aload_n hx hb dX6_layWays_110 rfl (lv_at hl 1 rfl) ?_
                      refine jr_get (k := 31) hx hb hts hown hK hP jb_16 (Nat.le_of_ble_eq_true rfl) jlX6_64 rfl dX6_layWays_111 ?_
                      refine lv_iload_n hx hb dX6_layWays_114 rfl (lv_at hl 4 rfl) ?_
                      obtain ⟨g115, h⟩ := jh_gd h
                      refine jr_ald (n := 6272) hx hb hK hP jb_16 rfl g115 dX6_layWays_115 ?_
                      refine lv_sipush (v := 128) hx hb dX6_layWays_116 jcs_128 ?_
                      refine lv_irem hx hb dX6_layWays_119 (by decide) ?_
                      refine lv_aload_n hx hb dX6_layWays_120 rfl (lv_at hl 1 rfl) ?_
                      refine lv_iload_n hx hb dX6_layWays_121 rfl (lv_at hl 2 rfl) ?_
                      refine lv_iload hx hb dX6_layWays_122 (lv_at hl 0 rfl) ?_
                      obtain ⟨r7, e7, h⟩ := jh_b h
                      refine jr_kp (jr_rv (As := [.int v1_3, .int (f_X6_beside ((M_4 16 31 (Int32.toNatClampNeg v3_4)) / 128) v4_4)]) (rest := [.int ((M_4 16 31 (Int32.toNatClampNeg v3_4)) - (M_4 16 31 (Int32.toNatClampNeg v3_4)) / 128 * 128)]) S hK hP jb_16 rfl (m_X6_seenFrom l X M_4 v1_3 (f_X6_beside ((M_4 16 31 (Int32.toNatClampNeg v3_4)) / 128) v4_4) r7 e7) jw_X6_seenFrom ji_X6_seenFrom jmX6_128 rfl rfl ⟨(Nat.le_of_ble_eq_true rfl), (Nat.le_of_ble_eq_true rfl)⟩ rfl hl.1 rfl (Nat.le_of_ble_eq_true rfl) dX6_layWays_124 ⟨Nat.zero_le _, Nat.zero_le _⟩) ?_
                      refine lv_iload_n hx hb dX6_layWays_127 rfl (lv_at hl 3 rfl) ?_
                      refine lv_iconst (v := (-1)) hx hb dX6_layWays_128 jci_m1 ?_
                      refine lv_ixor hx hb dX6_layWays_129 ?_
                      refine lv_iand hx hb dX6_layWays_130 ?_
                      refine lv_ior hx hb dX6_layWays_131 ?_
                      exact J132 M_4 _ _ v4_4 (f_X6_beside ((M_4 16 31 (Int32.toNatClampNeg v3_4)) / 128) v4_4) (((M_4 16 31 (Int32.toNatClampNeg v3_4)) - (M_4 16 31 (Int32.toNatClampNeg v3_4)) / 128 * 128) ||| (r7 &&& (v2_3 ^^^ (-1)))) _ h hP hS (lv_sub hl [1, 2, 3, 4, 5, 0] rfl)
                    · replace h := jh_f h c103
                      refine lv_iconst (v := 0) hx hb dX6_layWays_106 jci_0 ?_
                      refine lv_goto (tgt := 132) hx hb dX6_layWays_107 rfl ?_
                      exact J132 M_4 _ _ v4_4 (f_X6_beside ((M_4 16 31 (Int32.toNatClampNeg v3_4)) / 128) v4_4) 0 _ h hP hS (lv_sub hl [1, 2, 3, 4, 5, 0] rfl)
              exact L78 v3_3 10000 M_3 _ _ 0 _ h hP hS (lv_sub hl [1, 2, 3, 4, 0] rfl)
        exact L67 v1_1 r2 10000 (ju (ju (ju M_1 16 30 (Int32.toNatClampNeg (128 * (M_1 16 6 (Int32.toNatClampNeg v1_1)))) 0) 16 31 (Int32.toNatClampNeg 0) (128 * ((ju M_1 16 30 (Int32.toNatClampNeg (128 * (M_1 16 6 (Int32.toNatClampNeg v1_1)))) 0) 16 6 (Int32.toNatClampNeg v1_1)))) 16 32 0 1) _ _ 0 _ h hP hS (lv_sub hl [2, 3, 1, 0] rfl)
      · replace h := jh_f h c6
        refine lv_aload_n hx hb dX6_layWays_9 rfl (lv_at hl 0 rfl) ?_
        refine jr_get (k := 30) hx hb hts hown hK hP jb_16 (Nat.le_of_ble_eq_true rfl) jlX6_61 rfl dX6_layWays_10 ?_
        refine lv_iload_n hx hb dX6_layWays_13 rfl (lv_at hl 2 rfl) ?_
        refine lv_iconst (v := (-1)) hx hb dX6_layWays_14 jci_m1 ?_
        obtain ⟨g15, h⟩ := jh_gd h
        refine jr_ast (n := 6272) hx hb hK hP hs hS jb_16 rfl g15 dX6_layWays_15 (fun H locs hP hS => ?_)
        refine lv_iinc (v := (v2_1 + 1)) (lv' := [(2, .int (v2_1 + 1)), (0, .ref (jO X 16)), (1, .int v1_1)]) hx hb dX6_layWays_16 hl (k := 2) rfl (congrArg _ jci_1) (Nat.le_of_ble_eq_true rfl) rfl (fun ls hl => ?_)
        refine lv_goto (tgt := 2) hx hb dX6_layWays_19 rfl ?_
        exact ih2 (ju M_1 16 30 (Int32.toNatClampNeg v2_1) (-1)) _ _ (v2_1 + 1) _ h hP hS (lv_sub hl [1, 2, 0] rfl)
  exact L2 v1 10000 M _ _ 0 _ h hP hS (lv_sub hl [1, 2, 0] rfl)
def f_X6_way_l74 (v2_6 : Int32) (v3_6 : Int32) (v5_6 : Int32) : Nat → jm → Int32 → Int32 → Int32 → Option (Int32 × jm)
  | 0, _, _, _, _ => none
  | k_6 + 1, M_6, v6_6, v7_6, v8_6 => (if 128 ≤ v8_6 then (if v3_6 = 0 then (some (v6_6, M_6)) else (some (v7_6, M_6))) else (jgd ((128 * v2_6) + v8_6) 6272 (jb (f_X6_onesOf v8_6) fun r7 => (if (M_6 16 30 (Int32.toNatClampNeg ((128 * v2_6) + v8_6))) < 0 then ((f_X6_way_l74 v2_6 v3_6 v5_6 k_6) M_6 v6_6 v7_6 (v8_6 + 1)) else (if v5_6 < (M_6 16 30 (Int32.toNatClampNeg ((128 * v2_6) + v8_6))) then ((f_X6_way_l74 v2_6 v3_6 v5_6 k_6) M_6 v6_6 v7_6 (v8_6 + 1)) else (if r7 < v6_6 then ((f_X6_way_l74 v2_6 v3_6 v5_6 k_6) M_6 r7 (M_6 16 30 (Int32.toNatClampNeg ((128 * v2_6) + v8_6))) (v8_6 + 1)) else (if r7 = v6_6 then (if v7_6 ≤ (M_6 16 30 (Int32.toNatClampNeg ((128 * v2_6) + v8_6))) then ((f_X6_way_l74 v2_6 v3_6 v5_6 k_6) M_6 v6_6 v7_6 (v8_6 + 1)) else ((f_X6_way_l74 v2_6 v3_6 v5_6 k_6) M_6 r7 (M_6 16 30 (Int32.toNatClampNeg ((128 * v2_6) + v8_6))) (v8_6 + 1))) else ((f_X6_way_l74 v2_6 v3_6 v5_6 k_6) M_6 v6_6 v7_6 (v8_6 + 1)))))))))
def f_X6_way_j25 (M_2 : jm) (v1_2 : Int32) (v2_2 : Int32) (v3_2 : Int32) (t0_2 : Int32) : Option (Int32 × jm) := (if 0 ≤ (f_X6_wrongBit t0_2 v3_2 1) then (jb (f_X6_layWays M_2 v1_2) fun M_4 => (jgd v1_2 6 (f_X6_way_l74 v2_2 v3_2 ((f_X6_stepsOf (M_4 16 6 (Int32.toNatClampNeg v1_2)) v2_2) + 12) 10000 M_4 8 0 0))) else (jb2 (f_X6_refuse M_2 (f_X6_wrongBit t0_2 v3_2 1)) fun r8 M_8 => (some (r8, M_8))))
def f_X6_way_j24 (M_9 : jm) (v1_9 : Int32) (v2_9 : Int32) (v3_9 : Int32) : Option (Int32 × jm) := (f_X6_way_j25 M_9 v1_9 v2_9 v3_9 (-1))
def f_X6_way (M : jm) (v1 : Int32) (v2 : Int32) (v3 : Int32) : Option (Int32 × jm) := (if (f_X6_isWalker (ju M 16 11 0 0) v1) = 0 then (f_X6_way_j24 (ju M 16 11 0 0) v1 v2 v3) else (if (f_X6_isCell v2) = 0 then (f_X6_way_j24 (ju M 16 11 0 0) v1 v2 v3) else (f_X6_way_j25 (ju M 16 11 0 0) v1 v2 v3 0)))
set_option maxRecDepth 100000 in
theorem m_X6_way (l : Launch) (X : jX) (A : Nat → Prop) (hs : jst X A) (M : jm) (v1 : Int32) (v2 : Int32) (v3 : Int32) (r : Int32) (N : jm) (h : f_X6_way M v1 v2 v3 = some (r, N)) : Met l yX6_way (jws yX6_way cX6_way 11 (some .int)) (jrm 5 116) (va_Pc [.ref (jO X 16), .int v1, .int v2, .int v3] (jB X M)) (jQm X A (some (.int r)) N) 0 0 A := by
  refine jm_of (by decide) (Nat.le_of_ble_eq_true rfl) ?_
  intro p e s m args below meth c ls S hr hlocks hB hl
  have S : CallFix p m c cX6_way 11 s args jtb RX6 := S
  obtain ⟨hx, hb, hml, hown, hts⟩ := id S
  obtain ⟨hP, hK⟩ := hB
  have hN := hK.2
  have hS : va_S A s.heap s.heap [] := va_S.rf
  have hl : lv_has ls 11 [(0, .ref (jO X 16)), (1, .int v1), (2, .int v2), (3, .int v3)] := hl
  refine lv_aload_n hx hb dX6_way_0 rfl (lv_at hl 0 rfl) ?_
  refine lv_iconst (v := 0) hx hb dX6_way_1 jci_0 ?_
  refine jr_put (k := 11) (z := 0) hx hb hts hown hK hP hs hS jb_16 (Nat.le_of_ble_eq_true rfl) jlX6_79 rfl (Or.inl rfl) rfl rfl rfl dX6_way_2 (fun H locs hP hS => ?_)
  refine lv_aload_n hx hb dX6_way_5 rfl (lv_at hl 0 rfl) ?_
  refine lv_iload_n hx hb dX6_way_6 rfl (lv_at hl 1 rfl) ?_
  refine jr_kp (jr_rv (As := [.int v1]) (rest := []) S hK hP jb_16 rfl (m_X6_isWalker l X (ju M 16 11 0 0) v1 _ rfl) jw_X6_isWalker ji_X6_isWalker jmX6_184 rfl rfl ⟨(Nat.le_of_ble_eq_true rfl), (Nat.le_of_ble_eq_true rfl)⟩ rfl hl.1 rfl (Nat.le_of_ble_eq_true rfl) dX6_way_7 ⟨Nat.zero_le _, Nat.zero_le _⟩) ?_
  have J25 : ∀ (M_2 : jm) (H : Heap) (locs : List Loc) (v1_2 : Int32) (v2_2 : Int32) (v3_2 : Int32) (t0_2 : Int32) (ls : Array Slot), f_X6_way_j25 M_2 v1_2 v2_2 v3_2 t0_2 = some (r, N) → jrp X M_2 H → va_S A s.heap H locs → lv_has ls 11 [(0, .ref (jO X 16)), (1, .int v1_2), (2, .int v2_2), (3, .int v3_2)] → W p l e (jrm 5 116) s m args below meth c H locs 0 0 (MQ below (jQm X A (some (.int r)) N) args s 0 0 A) (F0 m 25 ls [.int t0_2]) := by
    intro M_2 H locs v1_2 v2_2 v3_2 t0_2 ls h hP hS hl
    refine lv_iload_n hx hb dX6_way_25 rfl (lv_at hl 3 rfl) ?_
    refine lv_iconst (v := 1) hx hb dX6_way_26 jci_1 ?_
    refine jr_kp (jr_rs (As := [.int t0_2, .int v3_2, .int 1]) (rest := []) S hN (m_X6_wrongBit l t0_2 v3_2 1 _ rfl) jw_X6_wrongBit js_X6_wrongBit jmX6_250 rfl rfl ⟨(Nat.le_of_ble_eq_true rfl), (Nat.le_of_ble_eq_true rfl)⟩ rfl hl.1 rfl (Nat.le_of_ble_eq_true rfl) dX6_way_27 ⟨Nat.zero_le _, Nat.zero_le _⟩) ?_
    refine lv_istore (lv' := [(4, .int (f_X6_wrongBit t0_2 v3_2 1)), (0, .ref (jO X 16)), (1, .int v1_2), (2, .int v2_2), (3, .int v3_2)]) hx hb dX6_way_30 hl (Nat.le_of_ble_eq_true rfl) rfl (fun ls hl => ?_)
    refine lv_iload hx hb dX6_way_32 (lv_at hl 0 rfl) ?_
    refine lv_if_ge (tgt := 44) hx hb dX6_way_34 rfl (fun c34 => ?_) (fun c34 => ?_)
    · replace h := jh_t h c34
      refine lv_aload_n hx hb dX6_way_44 rfl (lv_at hl 1 rfl) ?_
      refine lv_iload_n hx hb dX6_way_45 rfl (lv_at hl 2 rfl) ?_
      obtain ⟨M_4, e4, h⟩ := jh_b h
      refine jr_kv (jr_rv (As := [.int v1_2]) (rest := []) S hK hP jb_16 rfl (m_X6_layWays l X A hs M_2 v1_2 M_4 e4) jw_X6_layWays ji_X6_layWays jmX6_262 rfl rfl ⟨(Nat.le_of_ble_eq_true rfl), (Nat.le_of_ble_eq_true rfl)⟩ rfl hl.1 rfl (Nat.le_of_ble_eq_true rfl) dX6_way_46 ⟨Nat.zero_le _, Nat.zero_le _⟩) hS (fun H locs hP hS => ?_)
      refine lv_aload_n hx hb dX6_way_49 rfl (lv_at hl 1 rfl) ?_
      refine jr_get (k := 6) hx hb hts hown hK hP jb_16 (Nat.le_of_ble_eq_true rfl) jlX6_22 rfl dX6_way_50 ?_
      refine lv_iload_n hx hb dX6_way_53 rfl (lv_at hl 2 rfl) ?_
      obtain ⟨g54, h⟩ := jh_gd h
      refine jr_ald (n := 6) hx hb hK hP jb_16 rfl g54 dX6_way_54 ?_
      refine lv_iload_n hx hb dX6_way_55 rfl (lv_at hl 3 rfl) ?_
      refine jr_kp (jr_rs (As := [.int (M_4 16 6 (Int32.toNatClampNeg v1_2)), .int v2_2]) (rest := []) S hN (m_X6_stepsOf l (M_4 16 6 (Int32.toNatClampNeg v1_2)) v2_2 _ rfl) jw_X6_stepsOf js_X6_stepsOf jmX6_103 rfl rfl ⟨(Nat.le_of_ble_eq_true rfl), (Nat.le_of_ble_eq_true rfl)⟩ rfl hl.1 rfl (Nat.le_of_ble_eq_true rfl) dX6_way_56 ⟨Nat.zero_le _, Nat.zero_le _⟩) ?_
      refine lv_bipush (v := 12) hx hb dX6_way_59 jcb_12 ?_
      refine lv_iadd hx hb dX6_way_61 ?_
      refine lv_istore (lv' := [(5, .int ((f_X6_stepsOf (M_4 16 6 (Int32.toNatClampNeg v1_2)) v2_2) + 12)), (4, .int (f_X6_wrongBit t0_2 v3_2 1)), (0, .ref (jO X 16)), (1, .int v1_2), (2, .int v2_2), (3, .int v3_2)]) hx hb dX6_way_62 hl (Nat.le_of_ble_eq_true rfl) rfl (fun ls hl => ?_)
      refine lv_bipush (v := 8) hx hb dX6_way_64 jcb_8 ?_
      refine lv_istore (lv' := [(6, .int 8), (5, .int ((f_X6_stepsOf (M_4 16 6 (Int32.toNatClampNeg v1_2)) v2_2) + 12)), (4, .int (f_X6_wrongBit t0_2 v3_2 1)), (0, .ref (jO X 16)), (1, .int v1_2), (2, .int v2_2), (3, .int v3_2)]) hx hb dX6_way_66 hl (Nat.le_of_ble_eq_true rfl) rfl (fun ls hl => ?_)
      refine lv_iconst (v := 0) hx hb dX6_way_68 jci_0 ?_
      refine lv_istore (lv' := [(7, .int 0), (6, .int 8), (5, .int ((f_X6_stepsOf (M_4 16 6 (Int32.toNatClampNeg v1_2)) v2_2) + 12)), (4, .int (f_X6_wrongBit t0_2 v3_2 1)), (0, .ref (jO X 16)), (1, .int v1_2), (2, .int v2_2), (3, .int v3_2)]) hx hb dX6_way_69 hl (Nat.le_of_ble_eq_true rfl) rfl (fun ls hl => ?_)
      refine lv_iconst (v := 0) hx hb dX6_way_71 jci_0 ?_
      refine lv_istore (lv' := [(8, .int 0), (7, .int 0), (6, .int 8), (5, .int ((f_X6_stepsOf (M_4 16 6 (Int32.toNatClampNeg v1_2)) v2_2) + 12)), (4, .int (f_X6_wrongBit t0_2 v3_2 1)), (0, .ref (jO X 16)), (1, .int v1_2), (2, .int v2_2), (3, .int v3_2)]) hx hb dX6_way_72 hl (Nat.le_of_ble_eq_true rfl) rfl (fun ls hl => ?_)
      have L74 : ∀ (v2_6 : Int32) (v3_6 : Int32) (v5_6 : Int32) (k_6 : Nat) (M_6 : jm) (H : Heap) (locs : List Loc) (v6_6 : Int32) (v7_6 : Int32) (v8_6 : Int32) (ls : Array Slot), f_X6_way_l74 v2_6 v3_6 v5_6 k_6 M_6 v6_6 v7_6 v8_6 = some (r, N) → jrp X M_6 H → va_S A s.heap H locs → lv_has ls 11 [(0, .ref (jO X 16)), (2, .int v2_6), (3, .int v3_6), (5, .int v5_6), (6, .int v6_6), (7, .int v7_6), (8, .int v8_6)] → W p l e (jrm 5 116) s m args below meth c H locs 0 0 (MQ below (jQm X A (some (.int r)) N) args s 0 0 A) (F0 m 74 ls []) := by
        intro v2_6 v3_6 v5_6 k_6
        induction k_6 with
        | zero => intro M_6 H locs v6_6 v7_6 v8_6 ls h; exact jh_0 h
        | succ k_6 ih74 =>
          intro M_6 H locs v6_6 v7_6 v8_6 ls h hP hS hl
          refine lv_iload hx hb dX6_way_74 (lv_at hl 6 rfl) ?_
          refine lv_sipush (v := 128) hx hb dX6_way_76 jcs_128 ?_
          refine lv_icmp_ge (tgt := 151) hx hb dX6_way_79 rfl (fun c79 => ?_) (fun c79 => ?_)
          · replace h := jh_t h c79
            refine lv_iload_n hx hb dX6_way_151 rfl (lv_at hl 2 rfl) ?_
            refine lv_if_ne (tgt := 160) hx hb dX6_way_152 rfl (fun c152 => ?_) (fun c152 => ?_)
            · replace h := jh_f h c152
              refine lv_iload hx hb dX6_way_160 (lv_at hl 5 rfl) ?_
              exact je_mi hx hb hr hlocks hK hP hS h dX6_way_162
            · replace h := jh_t h c152
              refine lv_iload hx hb dX6_way_155 (lv_at hl 4 rfl) ?_
              refine lv_goto (tgt := 162) hx hb dX6_way_157 rfl ?_
              exact je_mi hx hb hr hlocks hK hP hS h dX6_way_162
          · replace h := jh_f h c79
            refine lv_aload_n hx hb dX6_way_82 rfl (lv_at hl 0 rfl) ?_
            refine jr_get (k := 30) hx hb hts hown hK hP jb_16 (Nat.le_of_ble_eq_true rfl) jlX6_61 rfl dX6_way_83 ?_
            refine lv_sipush (v := 128) hx hb dX6_way_86 jcs_128 ?_
            refine lv_iload_n hx hb dX6_way_89 rfl (lv_at hl 1 rfl) ?_
            refine lv_imul hx hb dX6_way_90 ?_
            refine lv_iload hx hb dX6_way_91 (lv_at hl 6 rfl) ?_
            refine lv_iadd hx hb dX6_way_93 ?_
            obtain ⟨g94, h⟩ := jh_gd h
            refine jr_ald (n := 6272) hx hb hK hP jb_16 rfl g94 dX6_way_94 ?_
            refine lv_istore (lv' := [(9, .int (M_6 16 30 (Int32.toNatClampNeg ((128 * v2_6) + v8_6)))), (0, .ref (jO X 16)), (2, .int v2_6), (3, .int v3_6), (5, .int v5_6), (6, .int v6_6), (7, .int v7_6), (8, .int v8_6)]) hx hb dX6_way_95 hl (Nat.le_of_ble_eq_true rfl) rfl (fun ls hl => ?_)
            refine lv_iload hx hb dX6_way_97 (lv_at hl 7 rfl) ?_
            obtain ⟨r7, e7, h⟩ := jh_b h
            refine jr_kp (jr_rs (As := [.int v8_6]) (rest := []) S hN (m_X6_onesOf l v8_6 r7 e7) jw_X6_onesOf js_X6_onesOf jmX6_119 rfl rfl ⟨(Nat.le_of_ble_eq_true rfl), (Nat.le_of_ble_eq_true rfl)⟩ rfl hl.1 rfl (Nat.le_of_ble_eq_true rfl) dX6_way_99 ⟨Nat.zero_le _, Nat.zero_le _⟩) ?_
            refine lv_istore (lv' := [(10, .int r7), (9, .int (M_6 16 30 (Int32.toNatClampNeg ((128 * v2_6) + v8_6)))), (0, .ref (jO X 16)), (2, .int v2_6), (3, .int v3_6), (5, .int v5_6), (6, .int v6_6), (7, .int v7_6), (8, .int v8_6)]) hx hb dX6_way_102 hl (Nat.le_of_ble_eq_true rfl) rfl (fun ls hl => ?_)
            refine lv_iload hx hb dX6_way_104 (lv_at hl 1 rfl) ?_
            refine lv_if_lt (tgt := 145) hx hb dX6_way_106 rfl (fun c106 => ?_) (fun c106 => ?_)
            · replace h := jh_t h c106
              refine lv_iinc (v := (v8_6 + 1)) (lv' := [(8, .int (v8_6 + 1)), (10, .int r7), (9, .int (M_6 16 30 (Int32.toNatClampNeg ((128 * v2_6) + v8_6)))), (0, .ref (jO X 16)), (2, .int v2_6), (3, .int v3_6), (5, .int v5_6), (6, .int v6_6), (7, .int v7_6)]) hx hb dX6_way_145 hl (k := 8) rfl (congrArg _ jci_1) (Nat.le_of_ble_eq_true rfl) rfl (fun ls hl => ?_)
              refine lv_goto (tgt := 74) hx hb dX6_way_148 rfl ?_
              exact ih74 M_6 _ _ v6_6 v7_6 (v8_6 + 1) _ h hP hS (lv_sub hl [3, 4, 5, 6, 7, 8, 0] rfl)
            · replace h := jh_f h c106
              refine lv_iload hx hb dX6_way_109 (lv_at hl 1 rfl) ?_
              refine lv_iload hx hb dX6_way_111 (lv_at hl 5 rfl) ?_
              refine lv_icmp_gt (tgt := 145) hx hb dX6_way_113 rfl (fun c113 => ?_) (fun c113 => ?_)
              · replace h := jh_t h c113
                refine lv_iinc (v := (v8_6 + 1)) (lv' := [(8, .int (v8_6 + 1)), (10, .int r7), (9, .int (M_6 16 30 (Int32.toNatClampNeg ((128 * v2_6) + v8_6)))), (0, .ref (jO X 16)), (2, .int v2_6), (3, .int v3_6), (5, .int v5_6), (6, .int v6_6), (7, .int v7_6)]) hx hb dX6_way_145 hl (k := 8) rfl (congrArg _ jci_1) (Nat.le_of_ble_eq_true rfl) rfl (fun ls hl => ?_)
                refine lv_goto (tgt := 74) hx hb dX6_way_148 rfl ?_
                exact ih74 M_6 _ _ v6_6 v7_6 (v8_6 + 1) _ h hP hS (lv_sub hl [3, 4, 5, 6, 7, 8, 0] rfl)
              · replace h := jh_f h c113
                refine lv_iload hx hb dX6_way_116 (lv_at hl 0 rfl) ?_
                refine lv_iload hx hb dX6_way_118 (lv_at hl 6 rfl) ?_
                refine lv_icmp_lt (tgt := 137) hx hb dX6_way_120 rfl (fun c120 => ?_) (fun c120 => ?_)
                · replace h := jh_t h c120
                  refine lv_iload hx hb dX6_way_137 (lv_at hl 0 rfl) ?_
                  refine lv_istore (lv' := [(6, .int r7), (10, .int r7), (9, .int (M_6 16 30 (Int32.toNatClampNeg ((128 * v2_6) + v8_6)))), (0, .ref (jO X 16)), (2, .int v2_6), (3, .int v3_6), (5, .int v5_6), (7, .int v7_6), (8, .int v8_6)]) hx hb dX6_way_139 hl (Nat.le_of_ble_eq_true rfl) rfl (fun ls hl => ?_)
                  refine lv_iload hx hb dX6_way_141 (lv_at hl 2 rfl) ?_
                  refine lv_istore (lv' := [(7, .int (M_6 16 30 (Int32.toNatClampNeg ((128 * v2_6) + v8_6)))), (6, .int r7), (10, .int r7), (9, .int (M_6 16 30 (Int32.toNatClampNeg ((128 * v2_6) + v8_6)))), (0, .ref (jO X 16)), (2, .int v2_6), (3, .int v3_6), (5, .int v5_6), (8, .int v8_6)]) hx hb dX6_way_143 hl (Nat.le_of_ble_eq_true rfl) rfl (fun ls hl => ?_)
                  refine lv_iinc (v := (v8_6 + 1)) (lv' := [(8, .int (v8_6 + 1)), (7, .int (M_6 16 30 (Int32.toNatClampNeg ((128 * v2_6) + v8_6)))), (6, .int r7), (10, .int r7), (9, .int (M_6 16 30 (Int32.toNatClampNeg ((128 * v2_6) + v8_6)))), (0, .ref (jO X 16)), (2, .int v2_6), (3, .int v3_6), (5, .int v5_6)]) hx hb dX6_way_145 hl (k := 8) rfl (congrArg _ jci_1) (Nat.le_of_ble_eq_true rfl) rfl (fun ls hl => ?_)
                  refine lv_goto (tgt := 74) hx hb dX6_way_148 rfl ?_
                  exact ih74 M_6 _ _ r7 (M_6 16 30 (Int32.toNatClampNeg ((128 * v2_6) + v8_6))) (v8_6 + 1) _ h hP hS (lv_sub hl [5, 6, 7, 8, 2, 1, 0] rfl)
                · replace h := jh_f h c120
                  refine lv_iload hx hb dX6_way_123 (lv_at hl 0 rfl) ?_
                  refine lv_iload hx hb dX6_way_125 (lv_at hl 6 rfl) ?_
                  refine lv_icmp_ne (tgt := 145) hx hb dX6_way_127 rfl (fun c127 => ?_) (fun c127 => ?_)
                  · replace h := jh_f h c127
                    refine lv_iinc (v := (v8_6 + 1)) (lv' := [(8, .int (v8_6 + 1)), (10, .int r7), (9, .int (M_6 16 30 (Int32.toNatClampNeg ((128 * v2_6) + v8_6)))), (0, .ref (jO X 16)), (2, .int v2_6), (3, .int v3_6), (5, .int v5_6), (6, .int v6_6), (7, .int v7_6)]) hx hb dX6_way_145 hl (k := 8) rfl (congrArg _ jci_1) (Nat.le_of_ble_eq_true rfl) rfl (fun ls hl => ?_)
                    refine lv_goto (tgt := 74) hx hb dX6_way_148 rfl ?_
                    exact ih74 M_6 _ _ v6_6 v7_6 (v8_6 + 1) _ h hP hS (lv_sub hl [3, 4, 5, 6, 7, 8, 0] rfl)
                  · replace h := jh_t h c127
                    refine lv_iload hx hb dX6_way_130 (lv_at hl 1 rfl) ?_
                    refine lv_iload hx hb dX6_way_132 (lv_at hl 7 rfl) ?_
                    refine lv_icmp_ge (tgt := 145) hx hb dX6_way_134 rfl (fun c134 => ?_) (fun c134 => ?_)
                    · replace h := jh_t h c134
                      refine lv_iinc (v := (v8_6 + 1)) (lv' := [(8, .int (v8_6 + 1)), (10, .int r7), (9, .int (M_6 16 30 (Int32.toNatClampNeg ((128 * v2_6) + v8_6)))), (0, .ref (jO X 16)), (2, .int v2_6), (3, .int v3_6), (5, .int v5_6), (6, .int v6_6), (7, .int v7_6)]) hx hb dX6_way_145 hl (k := 8) rfl (congrArg _ jci_1) (Nat.le_of_ble_eq_true rfl) rfl (fun ls hl => ?_)
                      refine lv_goto (tgt := 74) hx hb dX6_way_148 rfl ?_
                      exact ih74 M_6 _ _ v6_6 v7_6 (v8_6 + 1) _ h hP hS (lv_sub hl [3, 4, 5, 6, 7, 8, 0] rfl)
                    · replace h := jh_f h c134
                      refine lv_iload hx hb dX6_way_137 (lv_at hl 0 rfl) ?_
                      refine lv_istore (lv' := [(6, .int r7), (10, .int r7), (9, .int (M_6 16 30 (Int32.toNatClampNeg ((128 * v2_6) + v8_6)))), (0, .ref (jO X 16)), (2, .int v2_6), (3, .int v3_6), (5, .int v5_6), (7, .int v7_6), (8, .int v8_6)]) hx hb dX6_way_139 hl (Nat.le_of_ble_eq_true rfl) rfl (fun ls hl => ?_)
                      refine lv_iload hx hb dX6_way_141 (lv_at hl 2 rfl) ?_
                      refine lv_istore (lv' := [(7, .int (M_6 16 30 (Int32.toNatClampNeg ((128 * v2_6) + v8_6)))), (6, .int r7), (10, .int r7), (9, .int (M_6 16 30 (Int32.toNatClampNeg ((128 * v2_6) + v8_6)))), (0, .ref (jO X 16)), (2, .int v2_6), (3, .int v3_6), (5, .int v5_6), (8, .int v8_6)]) hx hb dX6_way_143 hl (Nat.le_of_ble_eq_true rfl) rfl (fun ls hl => ?_)
                      refine lv_iinc (v := (v8_6 + 1)) (lv' := [(8, .int (v8_6 + 1)), (7, .int (M_6 16 30 (Int32.toNatClampNeg ((128 * v2_6) + v8_6)))), (6, .int r7), (10, .int r7), (9, .int (M_6 16 30 (Int32.toNatClampNeg ((128 * v2_6) + v8_6)))), (0, .ref (jO X 16)), (2, .int v2_6), (3, .int v3_6), (5, .int v5_6)]) hx hb dX6_way_145 hl (k := 8) rfl (congrArg _ jci_1) (Nat.le_of_ble_eq_true rfl) rfl (fun ls hl => ?_)
                      refine lv_goto (tgt := 74) hx hb dX6_way_148 rfl ?_
                      exact ih74 M_6 _ _ r7 (M_6 16 30 (Int32.toNatClampNeg ((128 * v2_6) + v8_6))) (v8_6 + 1) _ h hP hS (lv_sub hl [5, 6, 7, 8, 2, 1, 0] rfl)
      exact L74 v2_2 v3_2 ((f_X6_stepsOf (M_4 16 6 (Int32.toNatClampNeg v1_2)) v2_2) + 12) 10000 M_4 _ _ 8 0 0 _ h hP hS (lv_sub hl [5, 7, 8, 3, 2, 1, 0] rfl)
    · replace h := jh_f h c34
      refine lv_aload_n hx hb dX6_way_37 rfl (lv_at hl 1 rfl) ?_
      refine lv_iload hx hb dX6_way_38 (lv_at hl 0 rfl) ?_
      obtain ⟨r8, M_8, e8, h⟩ := jh_b2 h
      refine jr_km (jr_rv (As := [.int (f_X6_wrongBit t0_2 v3_2 1)]) (rest := []) S hK hP jb_16 rfl (m_X6_refuse l X A hs M_2 (f_X6_wrongBit t0_2 v3_2 1) r8 M_8 e8) jw_X6_refuse ji_X6_refuse jmX6_143 rfl rfl ⟨(Nat.le_of_ble_eq_true rfl), (Nat.le_of_ble_eq_true rfl)⟩ rfl hl.1 rfl (Nat.le_of_ble_eq_true rfl) dX6_way_40 ⟨Nat.zero_le _, Nat.zero_le _⟩) hS (fun H locs hP hS => ?_)
      exact je_mi hx hb hr hlocks hK hP hS h dX6_way_43
  have J24 : ∀ (M_9 : jm) (H : Heap) (locs : List Loc) (v1_9 : Int32) (v2_9 : Int32) (v3_9 : Int32) (ls : Array Slot), f_X6_way_j24 M_9 v1_9 v2_9 v3_9 = some (r, N) → jrp X M_9 H → va_S A s.heap H locs → lv_has ls 11 [(0, .ref (jO X 16)), (1, .int v1_9), (2, .int v2_9), (3, .int v3_9)] → W p l e (jrm 5 116) s m args below meth c H locs 0 0 (MQ below (jQm X A (some (.int r)) N) args s 0 0 A) (F0 m 24 ls []) := by
    intro M_9 H locs v1_9 v2_9 v3_9 ls h hP hS hl
    refine lv_iconst (v := (-1)) hx hb dX6_way_24 jci_m1 ?_
    exact J25 M_9 _ _ v1_9 v2_9 v3_9 (-1) _ h hP hS hl
  refine lv_if_eq (tgt := 24) hx hb dX6_way_10 rfl (fun c10 => ?_) (fun c10 => ?_)
  · replace h := jh_t h c10
    exact J24 (ju M 16 11 0 0) _ _ v1 v2 v3 _ h hP hS hl
  · replace h := jh_f h c10
    refine lv_iload_n hx hb dX6_way_13 rfl (lv_at hl 2 rfl) ?_
    refine jr_kp (jr_rs (As := [.int v2]) (rest := []) S hN (m_X6_isCell l v2 _ rfl) jw_X6_isCell js_X6_isCell jmX6_139 rfl rfl ⟨(Nat.le_of_ble_eq_true rfl), (Nat.le_of_ble_eq_true rfl)⟩ rfl hl.1 rfl (Nat.le_of_ble_eq_true rfl) dX6_way_14 ⟨Nat.zero_le _, Nat.zero_le _⟩) ?_
    refine lv_if_eq (tgt := 24) hx hb dX6_way_17 rfl (fun c17 => ?_) (fun c17 => ?_)
    · replace h := jh_t h c17
      exact J24 (ju M 16 11 0 0) _ _ v1 v2 v3 _ h hP hS hl
    · replace h := jh_f h c17
      refine lv_iconst (v := 0) hx hb dX6_way_20 jci_0 ?_
      refine lv_goto (tgt := 25) hx hb dX6_way_21 rfl ?_
      exact J25 (ju M 16 11 0 0) _ _ v1 v2 v3 0 _ h hP hS hl
def f_X6_layPaying_l22 (K2_3 : jm → Int32 → Option jm) (K11_3 : jm → Int32 → Option jm) (v1_2 : Int32) (v2_3 : Int32) : Nat → jm → Int32 → Int32 → Option jm
  | 0, _, _, _ => none
  | k_3 + 1, M_3, v3_3, v4_3 => (if (M_3 16 0 0) ≤ v4_3 then (if 0 ≤ v3_3 then (jgd ((8 * v1_2) + v2_3) 1024 (K11_3 (ju M_3 16 33 (Int32.toNatClampNeg ((8 * v1_2) + v2_3)) v3_3) (v2_3 + 1))) else (jgd ((8 * v1_2) + v2_3) 1024 (K11_3 (ju M_3 16 33 (Int32.toNatClampNeg ((8 * v1_2) + v2_3)) 0) (v2_3 + 1)))) else (if (f_X6_hasBit v1_2 v4_3) = 0 then ((f_X6_layPaying_l22 K2_3 K11_3 v1_2 v2_3 k_3) M_3 v3_3 (v4_3 + 1)) else (jgd v2_3 8 (jgd v4_3 8 (jgd ((8 * (v1_2 - ((1 : Int32) <<< (v4_3 &&& 31)))) + v4_3) 1024 (if v3_3 < 0 then ((f_X6_layPaying_l22 K2_3 K11_3 v1_2 v2_3 k_3) M_3 ((f_X6_stepsOf (M_3 16 3 (Int32.toNatClampNeg v2_3)) (M_3 16 3 (Int32.toNatClampNeg v4_3))) + (M_3 16 33 (Int32.toNatClampNeg ((8 * (v1_2 - ((1 : Int32) <<< (v4_3 &&& 31)))) + v4_3)))) (v4_3 + 1)) else (if v3_3 ≤ ((f_X6_stepsOf (M_3 16 3 (Int32.toNatClampNeg v2_3)) (M_3 16 3 (Int32.toNatClampNeg v4_3))) + (M_3 16 33 (Int32.toNatClampNeg ((8 * (v1_2 - ((1 : Int32) <<< (v4_3 &&& 31)))) + v4_3)))) then ((f_X6_layPaying_l22 K2_3 K11_3 v1_2 v2_3 k_3) M_3 v3_3 (v4_3 + 1)) else ((f_X6_layPaying_l22 K2_3 K11_3 v1_2 v2_3 k_3) M_3 ((f_X6_stepsOf (M_3 16 3 (Int32.toNatClampNeg v2_3)) (M_3 16 3 (Int32.toNatClampNeg v4_3))) + (M_3 16 33 (Int32.toNatClampNeg ((8 * (v1_2 - ((1 : Int32) <<< (v4_3 &&& 31)))) + v4_3)))) (v4_3 + 1)))))))))
def f_X6_layPaying_l11 (K2_2 : jm → Int32 → Option jm) (v1_2 : Int32) : Nat → jm → Int32 → Option jm
  | 0, _, _ => none
  | k_2 + 1, M_2, v2_2 => (if 8 ≤ v2_2 then (K2_2 M_2 (v1_2 + 1)) else (f_X6_layPaying_l22 K2_2 (f_X6_layPaying_l11 K2_2 v1_2 k_2) v1_2 v2_2 10000 M_2 (-1) 0))
def f_X6_layPaying_l2 : Nat → jm → Int32 → Option jm
  | 0, _, _ => none
  | k_1 + 1, M_1, v1_1 => (if 128 ≤ v1_1 then (some M_1) else (f_X6_layPaying_l11 (f_X6_layPaying_l2 k_1) v1_1 10000 M_1 0))
def f_X6_layPaying (M : jm) : Option jm := (f_X6_layPaying_l2 10000 M 0)
set_option maxRecDepth 100000 in
theorem m_X6_layPaying (l : Launch) (X : jX) (A : Nat → Prop) (hs : jst X A) (M : jm) (N : jm) (h : f_X6_layPaying M = some N) : Met l yX6_layPaying (jws yX6_layPaying cX6_layPaying 6 none) (jrm 2 42) (va_Pc [.ref (jO X 16)] (jB X M)) (jQm X A none N) 0 0 A := by
  refine jm_of (by decide) (Nat.le_of_ble_eq_true rfl) ?_
  intro p e s m args below meth c ls S hr hlocks hB hl
  have S : CallFix p m c cX6_layPaying 6 s args jtb RX6 := S
  obtain ⟨hx, hb, hml, hown, hts⟩ := id S
  obtain ⟨hP, hK⟩ := hB
  have hN := hK.2
  have hS : va_S A s.heap s.heap [] := va_S.rf
  have hl : lv_has ls 6 [(0, .ref (jO X 16))] := hl
  refine lv_iconst (v := 0) hx hb dX6_layPaying_0 jci_0 ?_
  refine lv_istore_n (lv' := [(1, .int 0), (0, .ref (jO X 16))]) hx hb dX6_layPaying_1 rfl hl (Nat.le_of_ble_eq_true rfl) rfl (fun ls hl => ?_)
  have L2 : ∀ (k_1 : Nat) (M_1 : jm) (H : Heap) (locs : List Loc) (v1_1 : Int32) (ls : Array Slot), f_X6_layPaying_l2 k_1 M_1 v1_1 = some N → jrp X M_1 H → va_S A s.heap H locs → lv_has ls 6 [(0, .ref (jO X 16)), (1, .int v1_1)] → W p l e (jrm 2 42) s m args below meth c H locs 0 0 (MQ below (jQm X A none N) args s 0 0 A) (F0 m 2 ls []) := by
    intro k_1
    induction k_1 with
    | zero => intro M_1 H locs v1_1 ls h; exact jh_0 h
    | succ k_1 ih2 =>
      intro M_1 H locs v1_1 ls h hP hS hl
      refine lv_iload_n hx hb dX6_layPaying_2 rfl (lv_at hl 1 rfl) ?_
      refine lv_sipush (v := 128) hx hb dX6_layPaying_3 jcs_128 ?_
      refine lv_icmp_ge (tgt := 131) hx hb dX6_layPaying_6 rfl (fun c6 => ?_) (fun c6 => ?_)
      · replace h := jh_t h c6
        exact je_mv hx hb hr hlocks hK hP hS h dX6_layPaying_131
      · replace h := jh_f h c6
        refine lv_iconst (v := 0) hx hb dX6_layPaying_9 jci_0 ?_
        refine lv_istore_n (lv' := [(2, .int 0), (0, .ref (jO X 16)), (1, .int v1_1)]) hx hb dX6_layPaying_10 rfl hl (Nat.le_of_ble_eq_true rfl) rfl (fun ls hl => ?_)
        have L11 : ∀ (v1_2 : Int32) (k_2 : Nat) (M_2 : jm) (H : Heap) (locs : List Loc) (v2_2 : Int32) (ls : Array Slot), f_X6_layPaying_l11 (f_X6_layPaying_l2 k_1) v1_2 k_2 M_2 v2_2 = some N → jrp X M_2 H → va_S A s.heap H locs → lv_has ls 6 [(0, .ref (jO X 16)), (1, .int v1_2), (2, .int v2_2)] → W p l e (jrm 2 42) s m args below meth c H locs 0 0 (MQ below (jQm X A none N) args s 0 0 A) (F0 m 11 ls []) := by
          intro v1_2 k_2
          induction k_2 with
          | zero => intro M_2 H locs v2_2 ls h; exact jh_0 h
          | succ k_2 ih11 =>
            intro M_2 H locs v2_2 ls h hP hS hl
            refine lv_iload_n hx hb dX6_layPaying_11 rfl (lv_at hl 2 rfl) ?_
            refine lv_bipush (v := 8) hx hb dX6_layPaying_12 jcb_8 ?_
            refine lv_icmp_ge (tgt := 125) hx hb dX6_layPaying_14 rfl (fun c14 => ?_) (fun c14 => ?_)
            · replace h := jh_t h c14
              refine lv_iinc (v := (v1_2 + 1)) (lv' := [(1, .int (v1_2 + 1)), (0, .ref (jO X 16)), (2, .int v2_2)]) hx hb dX6_layPaying_125 hl (k := 1) rfl (congrArg _ jci_1) (Nat.le_of_ble_eq_true rfl) rfl (fun ls hl => ?_)
              refine lv_goto (tgt := 2) hx hb dX6_layPaying_128 rfl ?_
              exact ih2 M_2 _ _ (v1_2 + 1) _ h hP hS (lv_sub hl [1, 0] rfl)
            · replace h := jh_f h c14
              refine lv_iconst (v := (-1)) hx hb dX6_layPaying_17 jci_m1 ?_
              refine lv_istore_n (lv' := [(3, .int (-1)), (0, .ref (jO X 16)), (1, .int v1_2), (2, .int v2_2)]) hx hb dX6_layPaying_18 rfl hl (Nat.le_of_ble_eq_true rfl) rfl (fun ls hl => ?_)
              refine lv_iconst (v := 0) hx hb dX6_layPaying_19 jci_0 ?_
              refine lv_istore (lv' := [(4, .int 0), (3, .int (-1)), (0, .ref (jO X 16)), (1, .int v1_2), (2, .int v2_2)]) hx hb dX6_layPaying_20 hl (Nat.le_of_ble_eq_true rfl) rfl (fun ls hl => ?_)
              have L22 : ∀ (v2_3 : Int32) (k_3 : Nat) (M_3 : jm) (H : Heap) (locs : List Loc) (v3_3 : Int32) (v4_3 : Int32) (ls : Array Slot), f_X6_layPaying_l22 (f_X6_layPaying_l2 k_1) (f_X6_layPaying_l11 (f_X6_layPaying_l2 k_1) v1_2 k_2) v1_2 v2_3 k_3 M_3 v3_3 v4_3 = some N → jrp X M_3 H → va_S A s.heap H locs → lv_has ls 6 [(0, .ref (jO X 16)), (1, .int v1_2), (2, .int v2_3), (3, .int v3_3), (4, .int v4_3)] → W p l e (jrm 2 42) s m args below meth c H locs 0 0 (MQ below (jQm X A none N) args s 0 0 A) (F0 m 22 ls []) := by
                intro v2_3 k_3
                induction k_3 with
                | zero => intro M_3 H locs v3_3 v4_3 ls h; exact jh_0 h
                | succ k_3 ih22 =>
                  intro M_3 H locs v3_3 v4_3 ls h hP hS hl
                  refine lv_iload hx hb dX6_layPaying_22 (lv_at hl 4 rfl) ?_
                  refine lv_aload_n hx hb dX6_layPaying_24 rfl (lv_at hl 0 rfl) ?_
                  refine jr_get (k := 0) hx hb hts hown hK hP jb_16 (Nat.le_of_ble_eq_true rfl) jlX6_89 rfl dX6_layPaying_25 ?_
                  refine lv_icmp_ge (tgt := 99) hx hb dX6_layPaying_28 rfl (fun c28 => ?_) (fun c28 => ?_)
                  · replace h := jh_t h c28
                    refine lv_aload_n hx hb dX6_layPaying_99 rfl (lv_at hl 0 rfl) ?_
                    refine jr_get (k := 33) hx hb hts hown hK hP jb_16 (Nat.le_of_ble_eq_true rfl) jlX6_67 rfl dX6_layPaying_100 ?_
                    refine lv_bipush (v := 8) hx hb dX6_layPaying_103 jcb_8 ?_
                    refine lv_iload_n hx hb dX6_layPaying_105 rfl (lv_at hl 1 rfl) ?_
                    refine lv_imul hx hb dX6_layPaying_106 ?_
                    refine lv_iload_n hx hb dX6_layPaying_107 rfl (lv_at hl 2 rfl) ?_
                    refine lv_iadd hx hb dX6_layPaying_108 ?_
                    refine lv_iload_n hx hb dX6_layPaying_109 rfl (lv_at hl 3 rfl) ?_
                    refine lv_if_ge (tgt := 117) hx hb dX6_layPaying_110 rfl (fun c110 => ?_) (fun c110 => ?_)
                    · replace h := jh_t h c110
                      refine lv_iload_n hx hb dX6_layPaying_117 rfl (lv_at hl 3 rfl) ?_
                      obtain ⟨g118, h⟩ := jh_gd h
                      refine jr_ast (n := 1024) hx hb hK hP hs hS jb_16 rfl g118 dX6_layPaying_118 (fun H locs hP hS => ?_)
                      refine lv_iinc (v := (v2_3 + 1)) (lv' := [(2, .int (v2_3 + 1)), (0, .ref (jO X 16)), (1, .int v1_2), (3, .int v3_3), (4, .int v4_3)]) hx hb dX6_layPaying_119 hl (k := 2) rfl (congrArg _ jci_1) (Nat.le_of_ble_eq_true rfl) rfl (fun ls hl => ?_)
                      refine lv_goto (tgt := 11) hx hb dX6_layPaying_122 rfl ?_
                      exact ih11 (ju M_3 16 33 (Int32.toNatClampNeg ((8 * v1_2) + v2_3)) v3_3) _ _ (v2_3 + 1) _ h hP hS (lv_sub hl [1, 2, 0] rfl)
                    · replace h := jh_f h c110
                      refine lv_iconst (v := 0) hx hb dX6_layPaying_113 jci_0 ?_
                      refine lv_goto (tgt := 118) hx hb dX6_layPaying_114 rfl ?_
                      obtain ⟨g118, h⟩ := jh_gd h
                      refine jr_ast (n := 1024) hx hb hK hP hs hS jb_16 rfl g118 dX6_layPaying_118 (fun H locs hP hS => ?_)
                      refine lv_iinc (v := (v2_3 + 1)) (lv' := [(2, .int (v2_3 + 1)), (0, .ref (jO X 16)), (1, .int v1_2), (3, .int v3_3), (4, .int v4_3)]) hx hb dX6_layPaying_119 hl (k := 2) rfl (congrArg _ jci_1) (Nat.le_of_ble_eq_true rfl) rfl (fun ls hl => ?_)
                      refine lv_goto (tgt := 11) hx hb dX6_layPaying_122 rfl ?_
                      exact ih11 (ju M_3 16 33 (Int32.toNatClampNeg ((8 * v1_2) + v2_3)) 0) _ _ (v2_3 + 1) _ h hP hS (lv_sub hl [1, 2, 0] rfl)
                  · replace h := jh_f h c28
                    refine lv_iload_n hx hb dX6_layPaying_31 rfl (lv_at hl 1 rfl) ?_
                    refine lv_iload hx hb dX6_layPaying_32 (lv_at hl 4 rfl) ?_
                    refine jr_kp (jr_rs (As := [.int v1_2, .int v4_3]) (rest := []) S hN (m_X6_hasBit l v1_2 v4_3 _ rfl) jw_X6_hasBit js_X6_hasBit jmX6_131 rfl rfl ⟨(Nat.le_of_ble_eq_true rfl), (Nat.le_of_ble_eq_true rfl)⟩ rfl hl.1 rfl (Nat.le_of_ble_eq_true rfl) dX6_layPaying_34 ⟨Nat.zero_le _, Nat.zero_le _⟩) ?_
                    refine lv_if_eq (tgt := 93) hx hb dX6_layPaying_37 rfl (fun c37 => ?_) (fun c37 => ?_)
                    · replace h := jh_t h c37
                      refine lv_iinc (v := (v4_3 + 1)) (lv' := [(4, .int (v4_3 + 1)), (0, .ref (jO X 16)), (1, .int v1_2), (2, .int v2_3), (3, .int v3_3)]) hx hb dX6_layPaying_93 hl (k := 4) rfl (congrArg _ jci_1) (Nat.le_of_ble_eq_true rfl) rfl (fun ls hl => ?_)
                      refine lv_goto (tgt := 22) hx hb dX6_layPaying_96 rfl ?_
                      exact ih22 M_3 _ _ v3_3 (v4_3 + 1) _ h hP hS (lv_sub hl [1, 2, 3, 4, 0] rfl)
                    · replace h := jh_f h c37
                      refine lv_aload_n hx hb dX6_layPaying_40 rfl (lv_at hl 0 rfl) ?_
                      refine jr_get (k := 3) hx hb hts hown hK hP jb_16 (Nat.le_of_ble_eq_true rfl) jlX6_16 rfl dX6_layPaying_41 ?_
                      refine lv_iload_n hx hb dX6_layPaying_44 rfl (lv_at hl 2 rfl) ?_
                      obtain ⟨g45, h⟩ := jh_gd h
                      refine jr_ald (n := 8) hx hb hK hP jb_16 rfl g45 dX6_layPaying_45 ?_
                      refine lv_aload_n hx hb dX6_layPaying_46 rfl (lv_at hl 0 rfl) ?_
                      refine jr_get (k := 3) hx hb hts hown hK hP jb_16 (Nat.le_of_ble_eq_true rfl) jlX6_16 rfl dX6_layPaying_47 ?_
                      refine lv_iload hx hb dX6_layPaying_50 (lv_at hl 4 rfl) ?_
                      obtain ⟨g52, h⟩ := jh_gd h
                      refine jr_ald (n := 8) hx hb hK hP jb_16 rfl g52 dX6_layPaying_52 ?_
                      refine jr_kp (jr_rs (As := [.int (M_3 16 3 (Int32.toNatClampNeg v2_3)), .int (M_3 16 3 (Int32.toNatClampNeg v4_3))]) (rest := []) S hN (m_X6_stepsOf l (M_3 16 3 (Int32.toNatClampNeg v2_3)) (M_3 16 3 (Int32.toNatClampNeg v4_3)) _ rfl) jw_X6_stepsOf js_X6_stepsOf jmX6_103 rfl rfl ⟨(Nat.le_of_ble_eq_true rfl), (Nat.le_of_ble_eq_true rfl)⟩ rfl hl.1 rfl (Nat.le_of_ble_eq_true rfl) dX6_layPaying_53 ⟨Nat.zero_le _, Nat.zero_le _⟩) ?_
                      refine lv_aload_n hx hb dX6_layPaying_56 rfl (lv_at hl 0 rfl) ?_
                      refine jr_get (k := 33) hx hb hts hown hK hP jb_16 (Nat.le_of_ble_eq_true rfl) jlX6_67 rfl dX6_layPaying_57 ?_
                      refine lv_bipush (v := 8) hx hb dX6_layPaying_60 jcb_8 ?_
                      refine lv_iload_n hx hb dX6_layPaying_62 rfl (lv_at hl 1 rfl) ?_
                      refine lv_iconst (v := 1) hx hb dX6_layPaying_63 jci_1 ?_
                      refine lv_iload hx hb dX6_layPaying_64 (lv_at hl 4 rfl) ?_
                      refine lv_ishl hx hb dX6_layPaying_66 ?_
                      refine lv_isub hx hb dX6_layPaying_67 ?_
                      refine lv_imul hx hb dX6_layPaying_68 ?_
                      refine lv_iload hx hb dX6_layPaying_69 (lv_at hl 4 rfl) ?_
                      refine lv_iadd hx hb dX6_layPaying_71 ?_
                      obtain ⟨g72, h⟩ := jh_gd h
                      refine jr_ald (n := 1024) hx hb hK hP jb_16 rfl g72 dX6_layPaying_72 ?_
                      refine lv_iadd hx hb dX6_layPaying_73 ?_
                      refine lv_istore (lv' := [(5, .int ((f_X6_stepsOf (M_3 16 3 (Int32.toNatClampNeg v2_3)) (M_3 16 3 (Int32.toNatClampNeg v4_3))) + (M_3 16 33 (Int32.toNatClampNeg ((8 * (v1_2 - ((1 : Int32) <<< (v4_3 &&& 31)))) + v4_3))))), (0, .ref (jO X 16)), (1, .int v1_2), (2, .int v2_3), (3, .int v3_3), (4, .int v4_3)]) hx hb dX6_layPaying_74 hl (Nat.le_of_ble_eq_true rfl) rfl (fun ls hl => ?_)
                      refine lv_iload_n hx hb dX6_layPaying_76 rfl (lv_at hl 4 rfl) ?_
                      refine lv_if_lt (tgt := 86) hx hb dX6_layPaying_77 rfl (fun c77 => ?_) (fun c77 => ?_)
                      · replace h := jh_t h c77
                        refine lv_iload hx hb dX6_layPaying_86 (lv_at hl 0 rfl) ?_
                        refine lv_goto (tgt := 92) hx hb dX6_layPaying_88 rfl ?_
                        refine lv_istore_n (lv' := [(3, .int ((f_X6_stepsOf (M_3 16 3 (Int32.toNatClampNeg v2_3)) (M_3 16 3 (Int32.toNatClampNeg v4_3))) + (M_3 16 33 (Int32.toNatClampNeg ((8 * (v1_2 - ((1 : Int32) <<< (v4_3 &&& 31)))) + v4_3))))), (5, .int ((f_X6_stepsOf (M_3 16 3 (Int32.toNatClampNeg v2_3)) (M_3 16 3 (Int32.toNatClampNeg v4_3))) + (M_3 16 33 (Int32.toNatClampNeg ((8 * (v1_2 - ((1 : Int32) <<< (v4_3 &&& 31)))) + v4_3))))), (0, .ref (jO X 16)), (1, .int v1_2), (2, .int v2_3), (4, .int v4_3)]) hx hb dX6_layPaying_92 rfl hl (Nat.le_of_ble_eq_true rfl) rfl (fun ls hl => ?_)
                        refine lv_iinc (v := (v4_3 + 1)) (lv' := [(4, .int (v4_3 + 1)), (3, .int ((f_X6_stepsOf (M_3 16 3 (Int32.toNatClampNeg v2_3)) (M_3 16 3 (Int32.toNatClampNeg v4_3))) + (M_3 16 33 (Int32.toNatClampNeg ((8 * (v1_2 - ((1 : Int32) <<< (v4_3 &&& 31)))) + v4_3))))), (5, .int ((f_X6_stepsOf (M_3 16 3 (Int32.toNatClampNeg v2_3)) (M_3 16 3 (Int32.toNatClampNeg v4_3))) + (M_3 16 33 (Int32.toNatClampNeg ((8 * (v1_2 - ((1 : Int32) <<< (v4_3 &&& 31)))) + v4_3))))), (0, .ref (jO X 16)), (1, .int v1_2), (2, .int v2_3)]) hx hb dX6_layPaying_93 hl (k := 5) rfl (congrArg _ jci_1) (Nat.le_of_ble_eq_true rfl) rfl (fun ls hl => ?_)
                        refine lv_goto (tgt := 22) hx hb dX6_layPaying_96 rfl ?_
                        exact ih22 M_3 _ _ ((f_X6_stepsOf (M_3 16 3 (Int32.toNatClampNeg v2_3)) (M_3 16 3 (Int32.toNatClampNeg v4_3))) + (M_3 16 33 (Int32.toNatClampNeg ((8 * (v1_2 - ((1 : Int32) <<< (v4_3 &&& 31)))) + v4_3)))) (v4_3 + 1) _ h hP hS (lv_sub hl [3, 4, 5, 1, 0] rfl)
                      · replace h := jh_f h c77
                        refine lv_iload hx hb dX6_layPaying_80 (lv_at hl 0 rfl) ?_
                        refine lv_iload_n hx hb dX6_layPaying_82 rfl (lv_at hl 4 rfl) ?_
                        refine lv_icmp_ge (tgt := 91) hx hb dX6_layPaying_83 rfl (fun c83 => ?_) (fun c83 => ?_)
                        · replace h := jh_t h c83
                          refine lv_iload_n hx hb dX6_layPaying_91 rfl (lv_at hl 4 rfl) ?_
                          refine lv_istore_n (lv' := [(3, .int v3_3), (5, .int ((f_X6_stepsOf (M_3 16 3 (Int32.toNatClampNeg v2_3)) (M_3 16 3 (Int32.toNatClampNeg v4_3))) + (M_3 16 33 (Int32.toNatClampNeg ((8 * (v1_2 - ((1 : Int32) <<< (v4_3 &&& 31)))) + v4_3))))), (0, .ref (jO X 16)), (1, .int v1_2), (2, .int v2_3), (4, .int v4_3)]) hx hb dX6_layPaying_92 rfl hl (Nat.le_of_ble_eq_true rfl) rfl (fun ls hl => ?_)
                          refine lv_iinc (v := (v4_3 + 1)) (lv' := [(4, .int (v4_3 + 1)), (3, .int v3_3), (5, .int ((f_X6_stepsOf (M_3 16 3 (Int32.toNatClampNeg v2_3)) (M_3 16 3 (Int32.toNatClampNeg v4_3))) + (M_3 16 33 (Int32.toNatClampNeg ((8 * (v1_2 - ((1 : Int32) <<< (v4_3 &&& 31)))) + v4_3))))), (0, .ref (jO X 16)), (1, .int v1_2), (2, .int v2_3)]) hx hb dX6_layPaying_93 hl (k := 5) rfl (congrArg _ jci_1) (Nat.le_of_ble_eq_true rfl) rfl (fun ls hl => ?_)
                          refine lv_goto (tgt := 22) hx hb dX6_layPaying_96 rfl ?_
                          exact ih22 M_3 _ _ v3_3 (v4_3 + 1) _ h hP hS (lv_sub hl [3, 4, 5, 1, 0] rfl)
                        · replace h := jh_f h c83
                          refine lv_iload hx hb dX6_layPaying_86 (lv_at hl 0 rfl) ?_
                          refine lv_goto (tgt := 92) hx hb dX6_layPaying_88 rfl ?_
                          refine lv_istore_n (lv' := [(3, .int ((f_X6_stepsOf (M_3 16 3 (Int32.toNatClampNeg v2_3)) (M_3 16 3 (Int32.toNatClampNeg v4_3))) + (M_3 16 33 (Int32.toNatClampNeg ((8 * (v1_2 - ((1 : Int32) <<< (v4_3 &&& 31)))) + v4_3))))), (5, .int ((f_X6_stepsOf (M_3 16 3 (Int32.toNatClampNeg v2_3)) (M_3 16 3 (Int32.toNatClampNeg v4_3))) + (M_3 16 33 (Int32.toNatClampNeg ((8 * (v1_2 - ((1 : Int32) <<< (v4_3 &&& 31)))) + v4_3))))), (0, .ref (jO X 16)), (1, .int v1_2), (2, .int v2_3), (4, .int v4_3)]) hx hb dX6_layPaying_92 rfl hl (Nat.le_of_ble_eq_true rfl) rfl (fun ls hl => ?_)
                          refine lv_iinc (v := (v4_3 + 1)) (lv' := [(4, .int (v4_3 + 1)), (3, .int ((f_X6_stepsOf (M_3 16 3 (Int32.toNatClampNeg v2_3)) (M_3 16 3 (Int32.toNatClampNeg v4_3))) + (M_3 16 33 (Int32.toNatClampNeg ((8 * (v1_2 - ((1 : Int32) <<< (v4_3 &&& 31)))) + v4_3))))), (5, .int ((f_X6_stepsOf (M_3 16 3 (Int32.toNatClampNeg v2_3)) (M_3 16 3 (Int32.toNatClampNeg v4_3))) + (M_3 16 33 (Int32.toNatClampNeg ((8 * (v1_2 - ((1 : Int32) <<< (v4_3 &&& 31)))) + v4_3))))), (0, .ref (jO X 16)), (1, .int v1_2), (2, .int v2_3)]) hx hb dX6_layPaying_93 hl (k := 5) rfl (congrArg _ jci_1) (Nat.le_of_ble_eq_true rfl) rfl (fun ls hl => ?_)
                          refine lv_goto (tgt := 22) hx hb dX6_layPaying_96 rfl ?_
                          exact ih22 M_3 _ _ ((f_X6_stepsOf (M_3 16 3 (Int32.toNatClampNeg v2_3)) (M_3 16 3 (Int32.toNatClampNeg v4_3))) + (M_3 16 33 (Int32.toNatClampNeg ((8 * (v1_2 - ((1 : Int32) <<< (v4_3 &&& 31)))) + v4_3)))) (v4_3 + 1) _ h hP hS (lv_sub hl [3, 4, 5, 1, 0] rfl)
              exact L22 v2_2 10000 M_2 _ _ (-1) 0 _ h hP hS (lv_sub hl [2, 3, 4, 1, 0] rfl)
        exact L11 v1_1 10000 M_1 _ _ 0 _ h hP hS (lv_sub hl [1, 2, 0] rfl)
  exact L2 10000 M _ _ 0 _ h hP hS (lv_sub hl [1, 0] rfl)
def f_X6_nextOn_l2 (M : jm) (v1_1 : Int32) (v2_1 : Int32) : Nat → Int32 → Option Int32
  | 0, _ => none
  | k_1 + 1, v3_1 => (if (f_X6_hasBit v1_1 v3_1) = 0 then ((f_X6_nextOn_l2 M v1_1 v2_1 k_1) (v3_1 + 1)) else (jgd v2_1 8 (jgd v3_1 8 (jgd ((8 * (v1_1 - ((1 : Int32) <<< (v3_1 &&& 31)))) + v3_1) 1024 (jgd ((8 * v1_1) + v2_1) 1024 (if ((f_X6_stepsOf (M 16 3 (Int32.toNatClampNeg v2_1)) (M 16 3 (Int32.toNatClampNeg v3_1))) + (M 16 33 (Int32.toNatClampNeg ((8 * (v1_1 - ((1 : Int32) <<< (v3_1 &&& 31)))) + v3_1)))) = (M 16 33 (Int32.toNatClampNeg ((8 * v1_1) + v2_1))) then (some v3_1) else ((f_X6_nextOn_l2 M v1_1 v2_1 k_1) (v3_1 + 1))))))))
def f_X6_nextOn (M : jm) (v1 : Int32) (v2 : Int32) : Option Int32 := (f_X6_nextOn_l2 M v1 v2 10000 0)
set_option maxRecDepth 100000 in
theorem m_X6_nextOn (l : Launch) (X : jX) (M : jm) (v1 : Int32) (v2 : Int32) (r : Int32) (h : f_X6_nextOn M v1 v2 = some r) : Met l yX6_nextOn (jws yX6_nextOn cX6_nextOn 4 (some .int)) (jrm 2 42) (va_Pc [.ref (jO X 16), .int v1, .int v2] (jB X M)) (jQ (.int r)) 0 0 (fun _ => False) := by
  refine jm_of (by decide) (Nat.le_of_ble_eq_true rfl) ?_
  intro p e s m args below meth c ls S hr hlocks hB hl
  have S : CallFix p m c cX6_nextOn 4 s args jtb RX6 := S
  obtain ⟨hx, hb, hml, hown, hts⟩ := id S
  obtain ⟨hP, hK⟩ := hB
  have hN := hK.2
  have hl : lv_has ls 4 [(0, .ref (jO X 16)), (1, .int v1), (2, .int v2)] := hl
  refine lv_iconst (v := 0) hx hb dX6_nextOn_0 jci_0 ?_
  refine lv_istore_n (lv' := [(3, .int 0), (0, .ref (jO X 16)), (1, .int v1), (2, .int v2)]) hx hb dX6_nextOn_1 rfl hl (Nat.le_of_ble_eq_true rfl) rfl (fun ls hl => ?_)
  have L2 : ∀ (v1_1 : Int32) (v2_1 : Int32) (k_1 : Nat) (v3_1 : Int32) (ls : Array Slot), f_X6_nextOn_l2 M v1_1 v2_1 k_1 v3_1 = some r → lv_has ls 4 [(0, .ref (jO X 16)), (1, .int v1_1), (2, .int v2_1), (3, .int v3_1)] → W p l e (jrm 2 42) s m args below meth c s.heap [] 0 0 (MQ below (jQ (.int r)) args s 0 0 (fun _ => False)) (F0 m 2 ls []) := by
    intro v1_1 v2_1 k_1
    induction k_1 with
    | zero => intro v3_1 ls h; exact jh_0 h
    | succ k_1 ih2 =>
      intro v3_1 ls h hl
      refine lv_iload_n hx hb dX6_nextOn_2 rfl (lv_at hl 1 rfl) ?_
      refine lv_iload_n hx hb dX6_nextOn_3 rfl (lv_at hl 3 rfl) ?_
      refine jr_kp (jr_rs (As := [.int v1_1, .int v3_1]) (rest := []) S hN (m_X6_hasBit l v1_1 v3_1 _ rfl) jw_X6_hasBit js_X6_hasBit jmX6_131 rfl rfl ⟨(Nat.le_of_ble_eq_true rfl), (Nat.le_of_ble_eq_true rfl)⟩ rfl hl.1 rfl (Nat.le_of_ble_eq_true rfl) dX6_nextOn_4 ⟨Nat.zero_le _, Nat.zero_le _⟩) ?_
      refine lv_if_eq (tgt := 55) hx hb dX6_nextOn_7 rfl (fun c7 => ?_) (fun c7 => ?_)
      · replace h := jh_t h c7
        refine lv_iinc (v := (v3_1 + 1)) (lv' := [(3, .int (v3_1 + 1)), (0, .ref (jO X 16)), (1, .int v1_1), (2, .int v2_1)]) hx hb dX6_nextOn_55 hl (k := 3) rfl (congrArg _ jci_1) (Nat.le_of_ble_eq_true rfl) rfl (fun ls hl => ?_)
        refine lv_goto (tgt := 2) hx hb dX6_nextOn_58 rfl ?_
        exact ih2 (v3_1 + 1) _ h (lv_sub hl [1, 2, 3, 0] rfl)
      · replace h := jh_f h c7
        refine lv_aload_n hx hb dX6_nextOn_10 rfl (lv_at hl 0 rfl) ?_
        refine jr_get (k := 3) hx hb hts hown hK hP jb_16 (Nat.le_of_ble_eq_true rfl) jlX6_16 rfl dX6_nextOn_11 ?_
        refine lv_iload_n hx hb dX6_nextOn_14 rfl (lv_at hl 2 rfl) ?_
        obtain ⟨g15, h⟩ := jh_gd h
        refine jr_ald (n := 8) hx hb hK hP jb_16 rfl g15 dX6_nextOn_15 ?_
        refine lv_aload_n hx hb dX6_nextOn_16 rfl (lv_at hl 0 rfl) ?_
        refine jr_get (k := 3) hx hb hts hown hK hP jb_16 (Nat.le_of_ble_eq_true rfl) jlX6_16 rfl dX6_nextOn_17 ?_
        refine lv_iload_n hx hb dX6_nextOn_20 rfl (lv_at hl 3 rfl) ?_
        obtain ⟨g21, h⟩ := jh_gd h
        refine jr_ald (n := 8) hx hb hK hP jb_16 rfl g21 dX6_nextOn_21 ?_
        refine jr_kp (jr_rs (As := [.int (M 16 3 (Int32.toNatClampNeg v2_1)), .int (M 16 3 (Int32.toNatClampNeg v3_1))]) (rest := []) S hN (m_X6_stepsOf l (M 16 3 (Int32.toNatClampNeg v2_1)) (M 16 3 (Int32.toNatClampNeg v3_1)) _ rfl) jw_X6_stepsOf js_X6_stepsOf jmX6_103 rfl rfl ⟨(Nat.le_of_ble_eq_true rfl), (Nat.le_of_ble_eq_true rfl)⟩ rfl hl.1 rfl (Nat.le_of_ble_eq_true rfl) dX6_nextOn_22 ⟨Nat.zero_le _, Nat.zero_le _⟩) ?_
        refine lv_aload_n hx hb dX6_nextOn_25 rfl (lv_at hl 0 rfl) ?_
        refine jr_get (k := 33) hx hb hts hown hK hP jb_16 (Nat.le_of_ble_eq_true rfl) jlX6_67 rfl dX6_nextOn_26 ?_
        refine lv_bipush (v := 8) hx hb dX6_nextOn_29 jcb_8 ?_
        refine lv_iload_n hx hb dX6_nextOn_31 rfl (lv_at hl 1 rfl) ?_
        refine lv_iconst (v := 1) hx hb dX6_nextOn_32 jci_1 ?_
        refine lv_iload_n hx hb dX6_nextOn_33 rfl (lv_at hl 3 rfl) ?_
        refine lv_ishl hx hb dX6_nextOn_34 ?_
        refine lv_isub hx hb dX6_nextOn_35 ?_
        refine lv_imul hx hb dX6_nextOn_36 ?_
        refine lv_iload_n hx hb dX6_nextOn_37 rfl (lv_at hl 3 rfl) ?_
        refine lv_iadd hx hb dX6_nextOn_38 ?_
        obtain ⟨g39, h⟩ := jh_gd h
        refine jr_ald (n := 1024) hx hb hK hP jb_16 rfl g39 dX6_nextOn_39 ?_
        refine lv_iadd hx hb dX6_nextOn_40 ?_
        refine lv_aload_n hx hb dX6_nextOn_41 rfl (lv_at hl 0 rfl) ?_
        refine jr_get (k := 33) hx hb hts hown hK hP jb_16 (Nat.le_of_ble_eq_true rfl) jlX6_67 rfl dX6_nextOn_42 ?_
        refine lv_bipush (v := 8) hx hb dX6_nextOn_45 jcb_8 ?_
        refine lv_iload_n hx hb dX6_nextOn_47 rfl (lv_at hl 1 rfl) ?_
        refine lv_imul hx hb dX6_nextOn_48 ?_
        refine lv_iload_n hx hb dX6_nextOn_49 rfl (lv_at hl 2 rfl) ?_
        refine lv_iadd hx hb dX6_nextOn_50 ?_
        obtain ⟨g51, h⟩ := jh_gd h
        refine jr_ald (n := 1024) hx hb hK hP jb_16 rfl g51 dX6_nextOn_51 ?_
        refine lv_icmp_eq (tgt := 61) hx hb dX6_nextOn_52 rfl (fun c52 => ?_) (fun c52 => ?_)
        · replace h := jh_t h c52
          refine lv_iload_n hx hb dX6_nextOn_61 rfl (lv_at hl 3 rfl) ?_
          exact je_i hx hb hr hlocks (Option.some.inj h) dX6_nextOn_62
        · replace h := jh_f h c52
          refine lv_iinc (v := (v3_1 + 1)) (lv' := [(3, .int (v3_1 + 1)), (0, .ref (jO X 16)), (1, .int v1_1), (2, .int v2_1)]) hx hb dX6_nextOn_55 hl (k := 3) rfl (congrArg _ jci_1) (Nat.le_of_ble_eq_true rfl) rfl (fun ls hl => ?_)
          refine lv_goto (tgt := 2) hx hb dX6_nextOn_58 rfl ?_
          exact ih2 (v3_1 + 1) _ h (lv_sub hl [1, 2, 3, 0] rfl)
  exact L2 v1 v2 10000 0 _ h (lv_sub hl [1, 2, 3, 0] rfl)
def f_X6_payAll_l108 (v2_6 : Int32) : Nat → jm → Int32 → Int32 → Int32 → Option (Int32 × jm)
  | 0, _, _, _, _ => none
  | k_6 + 1, M_6, v4_6, v5_6, v6_6 => (if v2_6 < v6_6 then (some (v5_6, M_6)) else (jb (f_X6_nextOn M_6 v4_6 v5_6) fun r7 => ((f_X6_payAll_l108 v2_6 k_6) M_6 (v4_6 - ((1 : Int32) <<< (r7 &&& 31))) r7 (v6_6 + 1))))
def f_X6_payAll_j28 (M_2 : jm) (v1_2 : Int32) (v2_2 : Int32) (t0_2 : Int32) : Option (Int32 × jm) := (if 0 ≤ t0_2 then (jgd v1_2 6 (jgd 7 8 (jb (f_X6_layPaying (ju M_2 16 3 (Int32.toNatClampNeg 7) (M_2 16 6 (Int32.toNatClampNeg v1_2)))) fun M_3 => (jb (f_X6_owesBits M_3 v1_2) fun r4 => (if 0 ≤ v2_2 then (jb (f_X6_onesOf r4) fun r5 => (if v2_2 < r5 then (f_X6_payAll_l108 v2_2 10000 M_3 r4 7 0) else (some ((-9), M_3)))) else (jgd ((8 * r4) + 7) 1024 (jb (f_X6_priceOf M_3 v1_2) fun r8 => (some (((3 * (M_3 16 33 (Int32.toNatClampNeg ((8 * r4) + 7)))) + r8), M_3))))))))) else (jb2 (f_X6_refuse M_2 t0_2) fun r9 M_9 => (some (r9, M_9))))
def f_X6_payAll (M : jm) (v1 : Int32) (v2 : Int32) : Option (Int32 × jm) := (if (f_X6_isWalker (ju M 16 11 0 0) v1) = 0 then (f_X6_payAll_j28 (ju M 16 11 0 0) v1 v2 (-1)) else (if (-1) ≤ v2 then (f_X6_payAll_j28 (ju M 16 11 0 0) v1 v2 0) else (f_X6_payAll_j28 (ju M 16 11 0 0) v1 v2 (-4))))
set_option maxRecDepth 100000 in
theorem m_X6_payAll (l : Launch) (X : jX) (A : Nat → Prop) (hs : jst X A) (M : jm) (v1 : Int32) (v2 : Int32) (r : Int32) (N : jm) (h : f_X6_payAll M v1 v2 = some (r, N)) : Met l yX6_payAll (jws yX6_payAll cX6_payAll 7 (some .int)) (jrm 3 67) (va_Pc [.ref (jO X 16), .int v1, .int v2] (jB X M)) (jQm X A (some (.int r)) N) 0 0 A := by
  refine jm_of (by decide) (Nat.le_of_ble_eq_true rfl) ?_
  intro p e s m args below meth c ls S hr hlocks hB hl
  have S : CallFix p m c cX6_payAll 7 s args jtb RX6 := S
  obtain ⟨hx, hb, hml, hown, hts⟩ := id S
  obtain ⟨hP, hK⟩ := hB
  have hN := hK.2
  have hS : va_S A s.heap s.heap [] := va_S.rf
  have hl : lv_has ls 7 [(0, .ref (jO X 16)), (1, .int v1), (2, .int v2)] := hl
  refine lv_aload_n hx hb dX6_payAll_0 rfl (lv_at hl 0 rfl) ?_
  refine lv_iconst (v := 0) hx hb dX6_payAll_1 jci_0 ?_
  refine jr_put (k := 11) (z := 0) hx hb hts hown hK hP hs hS jb_16 (Nat.le_of_ble_eq_true rfl) jlX6_79 rfl (Or.inl rfl) rfl rfl rfl dX6_payAll_2 (fun H locs hP hS => ?_)
  refine lv_aload_n hx hb dX6_payAll_5 rfl (lv_at hl 0 rfl) ?_
  refine lv_iload_n hx hb dX6_payAll_6 rfl (lv_at hl 1 rfl) ?_
  refine jr_kp (jr_rv (As := [.int v1]) (rest := []) S hK hP jb_16 rfl (m_X6_isWalker l X (ju M 16 11 0 0) v1 _ rfl) jw_X6_isWalker ji_X6_isWalker jmX6_184 rfl rfl ⟨(Nat.le_of_ble_eq_true rfl), (Nat.le_of_ble_eq_true rfl)⟩ rfl hl.1 rfl (Nat.le_of_ble_eq_true rfl) dX6_payAll_7 ⟨Nat.zero_le _, Nat.zero_le _⟩) ?_
  have J28 : ∀ (M_2 : jm) (H : Heap) (locs : List Loc) (v1_2 : Int32) (v2_2 : Int32) (t0_2 : Int32) (ls : Array Slot), f_X6_payAll_j28 M_2 v1_2 v2_2 t0_2 = some (r, N) → jrp X M_2 H → va_S A s.heap H locs → lv_has ls 7 [(0, .ref (jO X 16)), (1, .int v1_2), (2, .int v2_2)] → W p l e (jrm 3 67) s m args below meth c H locs 0 0 (MQ below (jQm X A (some (.int r)) N) args s 0 0 A) (F0 m 28 ls [.int t0_2]) := by
    intro M_2 H locs v1_2 v2_2 t0_2 ls h hP hS hl
    refine lv_istore_n (lv' := [(3, .int t0_2), (0, .ref (jO X 16)), (1, .int v1_2), (2, .int v2_2)]) hx hb dX6_payAll_28 rfl hl (Nat.le_of_ble_eq_true rfl) rfl (fun ls hl => ?_)
    refine lv_iload_n hx hb dX6_payAll_29 rfl (lv_at hl 0 rfl) ?_
    refine lv_if_ge (tgt := 39) hx hb dX6_payAll_30 rfl (fun c30 => ?_) (fun c30 => ?_)
    · replace h := jh_t h c30
      refine lv_aload_n hx hb dX6_payAll_39 rfl (lv_at hl 1 rfl) ?_
      refine jr_get (k := 3) hx hb hts hown hK hP jb_16 (Nat.le_of_ble_eq_true rfl) jlX6_16 rfl dX6_payAll_40 ?_
      refine lv_bipush (v := 7) hx hb dX6_payAll_43 jcb_7 ?_
      refine lv_aload_n hx hb dX6_payAll_45 rfl (lv_at hl 1 rfl) ?_
      refine jr_get (k := 6) hx hb hts hown hK hP jb_16 (Nat.le_of_ble_eq_true rfl) jlX6_22 rfl dX6_payAll_46 ?_
      refine lv_iload_n hx hb dX6_payAll_49 rfl (lv_at hl 2 rfl) ?_
      obtain ⟨g50, h⟩ := jh_gd h
      refine jr_ald (n := 6) hx hb hK hP jb_16 rfl g50 dX6_payAll_50 ?_
      obtain ⟨g51, h⟩ := jh_gd h
      refine jr_ast (n := 8) hx hb hK hP hs hS jb_16 rfl g51 dX6_payAll_51 (fun H locs hP hS => ?_)
      refine lv_aload_n hx hb dX6_payAll_52 rfl (lv_at hl 1 rfl) ?_
      obtain ⟨M_3, e3, h⟩ := jh_b h
      refine jr_kv (jr_rv (As := []) (rest := []) S hK hP jb_16 rfl (m_X6_layPaying l X A hs (ju M_2 16 3 (Int32.toNatClampNeg 7) (M_2 16 6 (Int32.toNatClampNeg v1_2)))  M_3 e3) jw_X6_layPaying ji_X6_layPaying jmX6_265 rfl rfl ⟨(Nat.le_of_ble_eq_true rfl), (Nat.le_of_ble_eq_true rfl)⟩ rfl hl.1 rfl (Nat.le_of_ble_eq_true rfl) dX6_payAll_53 ⟨Nat.zero_le _, Nat.zero_le _⟩) hS (fun H locs hP hS => ?_)
      refine lv_aload_n hx hb dX6_payAll_56 rfl (lv_at hl 1 rfl) ?_
      refine lv_iload_n hx hb dX6_payAll_57 rfl (lv_at hl 2 rfl) ?_
      obtain ⟨r4, e4, h⟩ := jh_b h
      refine jr_kp (jr_rv (As := [.int v1_2]) (rest := []) S hK hP jb_16 rfl (m_X6_owesBits l X M_3 v1_2 r4 e4) jw_X6_owesBits ji_X6_owesBits jmX6_116 rfl rfl ⟨(Nat.le_of_ble_eq_true rfl), (Nat.le_of_ble_eq_true rfl)⟩ rfl hl.1 rfl (Nat.le_of_ble_eq_true rfl) dX6_payAll_58 ⟨Nat.zero_le _, Nat.zero_le _⟩) ?_
      refine lv_istore (lv' := [(4, .int r4), (3, .int t0_2), (0, .ref (jO X 16)), (1, .int v1_2), (2, .int v2_2)]) hx hb dX6_payAll_61 hl (Nat.le_of_ble_eq_true rfl) rfl (fun ls hl => ?_)
      refine lv_iload_n hx hb dX6_payAll_63 rfl (lv_at hl 4 rfl) ?_
      refine lv_if_ge (tgt := 89) hx hb dX6_payAll_64 rfl (fun c64 => ?_) (fun c64 => ?_)
      · replace h := jh_t h c64
        refine lv_iload_n hx hb dX6_payAll_89 rfl (lv_at hl 4 rfl) ?_
        refine lv_iload hx hb dX6_payAll_90 (lv_at hl 0 rfl) ?_
        obtain ⟨r5, e5, h⟩ := jh_b h
        refine jr_kp (jr_rs (As := [.int r4]) (rest := [.int v2_2]) S hN (m_X6_onesOf l r4 r5 e5) jw_X6_onesOf js_X6_onesOf jmX6_119 rfl rfl ⟨(Nat.le_of_ble_eq_true rfl), (Nat.le_of_ble_eq_true rfl)⟩ rfl hl.1 rfl (Nat.le_of_ble_eq_true rfl) dX6_payAll_92 ⟨Nat.zero_le _, Nat.zero_le _⟩) ?_
        refine lv_icmp_lt (tgt := 101) hx hb dX6_payAll_95 rfl (fun c95 => ?_) (fun c95 => ?_)
        · replace h := jh_t h c95
          refine lv_bipush (v := 7) hx hb dX6_payAll_101 jcb_7 ?_
          refine lv_istore (lv' := [(5, .int 7), (4, .int r4), (3, .int t0_2), (0, .ref (jO X 16)), (1, .int v1_2), (2, .int v2_2)]) hx hb dX6_payAll_103 hl (Nat.le_of_ble_eq_true rfl) rfl (fun ls hl => ?_)
          refine lv_iconst (v := 0) hx hb dX6_payAll_105 jci_0 ?_
          refine lv_istore (lv' := [(6, .int 0), (5, .int 7), (4, .int r4), (3, .int t0_2), (0, .ref (jO X 16)), (1, .int v1_2), (2, .int v2_2)]) hx hb dX6_payAll_106 hl (Nat.le_of_ble_eq_true rfl) rfl (fun ls hl => ?_)
          have L108 : ∀ (v2_6 : Int32) (k_6 : Nat) (M_6 : jm) (H : Heap) (locs : List Loc) (v4_6 : Int32) (v5_6 : Int32) (v6_6 : Int32) (ls : Array Slot), f_X6_payAll_l108 v2_6 k_6 M_6 v4_6 v5_6 v6_6 = some (r, N) → jrp X M_6 H → va_S A s.heap H locs → lv_has ls 7 [(0, .ref (jO X 16)), (2, .int v2_6), (4, .int v4_6), (5, .int v5_6), (6, .int v6_6)] → W p l e (jrm 3 67) s m args below meth c H locs 0 0 (MQ below (jQm X A (some (.int r)) N) args s 0 0 A) (F0 m 108 ls []) := by
            intro v2_6 k_6
            induction k_6 with
            | zero => intro M_6 H locs v4_6 v5_6 v6_6 ls h; exact jh_0 h
            | succ k_6 ih108 =>
              intro M_6 H locs v4_6 v5_6 v6_6 ls h hP hS hl
              refine lv_iload hx hb dX6_payAll_108 (lv_at hl 4 rfl) ?_
              refine lv_iload_n hx hb dX6_payAll_110 rfl (lv_at hl 1 rfl) ?_
              refine lv_icmp_gt (tgt := 139) hx hb dX6_payAll_111 rfl (fun c111 => ?_) (fun c111 => ?_)
              · replace h := jh_t h c111
                refine lv_iload hx hb dX6_payAll_139 (lv_at hl 3 rfl) ?_
                exact je_mi hx hb hr hlocks hK hP hS h dX6_payAll_141
              · replace h := jh_f h c111
                refine lv_aload_n hx hb dX6_payAll_114 rfl (lv_at hl 0 rfl) ?_
                refine lv_iload hx hb dX6_payAll_115 (lv_at hl 2 rfl) ?_
                refine lv_iload hx hb dX6_payAll_117 (lv_at hl 3 rfl) ?_
                obtain ⟨r7, e7, h⟩ := jh_b h
                refine jr_kp (jr_rv (As := [.int v4_6, .int v5_6]) (rest := []) S hK hP jb_16 rfl (m_X6_nextOn l X M_6 v4_6 v5_6 r7 e7) jw_X6_nextOn ji_X6_nextOn jmX6_268 rfl rfl ⟨(Nat.le_of_ble_eq_true rfl), (Nat.le_of_ble_eq_true rfl)⟩ rfl hl.1 rfl (Nat.le_of_ble_eq_true rfl) dX6_payAll_119 ⟨Nat.zero_le _, Nat.zero_le _⟩) ?_
                refine lv_istore (lv' := [(5, .int r7), (0, .ref (jO X 16)), (2, .int v2_6), (4, .int v4_6), (6, .int v6_6)]) hx hb dX6_payAll_122 hl (Nat.le_of_ble_eq_true rfl) rfl (fun ls hl => ?_)
                refine lv_iload hx hb dX6_payAll_124 (lv_at hl 3 rfl) ?_
                refine lv_iconst (v := 1) hx hb dX6_payAll_126 jci_1 ?_
                refine lv_iload hx hb dX6_payAll_127 (lv_at hl 0 rfl) ?_
                refine lv_ishl hx hb dX6_payAll_129 ?_
                refine lv_isub hx hb dX6_payAll_130 ?_
                refine lv_istore (lv' := [(4, .int (v4_6 - ((1 : Int32) <<< (r7 &&& 31)))), (5, .int r7), (0, .ref (jO X 16)), (2, .int v2_6), (6, .int v6_6)]) hx hb dX6_payAll_131 hl (Nat.le_of_ble_eq_true rfl) rfl (fun ls hl => ?_)
                refine lv_iinc (v := (v6_6 + 1)) (lv' := [(6, .int (v6_6 + 1)), (4, .int (v4_6 - ((1 : Int32) <<< (r7 &&& 31)))), (5, .int r7), (0, .ref (jO X 16)), (2, .int v2_6)]) hx hb dX6_payAll_133 hl (k := 4) rfl (congrArg _ jci_1) (Nat.le_of_ble_eq_true rfl) rfl (fun ls hl => ?_)
                refine lv_goto (tgt := 108) hx hb dX6_payAll_136 rfl ?_
                exact ih108 M_6 _ _ (v4_6 - ((1 : Int32) <<< (r7 &&& 31))) r7 (v6_6 + 1) _ h hP hS (lv_sub hl [3, 4, 1, 2, 0] rfl)
          exact L108 v2_2 10000 M_3 _ _ r4 7 0 _ h hP hS (lv_sub hl [4, 6, 2, 1, 0] rfl)
        · replace h := jh_f h c95
          refine lv_bipush (v := (-9)) hx hb dX6_payAll_98 jcb_m9 ?_
          exact je_mi hx hb hr hlocks hK hP hS h dX6_payAll_100
      · replace h := jh_f h c64
        refine lv_iconst (v := 3) hx hb dX6_payAll_67 jci_3 ?_
        refine lv_aload_n hx hb dX6_payAll_68 rfl (lv_at hl 2 rfl) ?_
        refine jr_get (k := 33) hx hb hts hown hK hP jb_16 (Nat.le_of_ble_eq_true rfl) jlX6_67 rfl dX6_payAll_69 ?_
        refine lv_bipush (v := 8) hx hb dX6_payAll_72 jcb_8 ?_
        refine lv_iload hx hb dX6_payAll_74 (lv_at hl 0 rfl) ?_
        refine lv_imul hx hb dX6_payAll_76 ?_
        refine lv_bipush (v := 7) hx hb dX6_payAll_77 jcb_7 ?_
        refine lv_iadd hx hb dX6_payAll_79 ?_
        obtain ⟨g80, h⟩ := jh_gd h
        refine jr_ald (n := 1024) hx hb hK hP jb_16 rfl g80 dX6_payAll_80 ?_
        refine lv_imul hx hb dX6_payAll_81 ?_
        refine lv_aload_n hx hb dX6_payAll_82 rfl (lv_at hl 2 rfl) ?_
        refine lv_iload_n hx hb dX6_payAll_83 rfl (lv_at hl 3 rfl) ?_
        obtain ⟨r8, e8, h⟩ := jh_b h
        refine jr_kp (jr_rv (As := [.int v1_2]) (rest := [.int (3 * (M_3 16 33 (Int32.toNatClampNeg ((8 * r4) + 7))))]) S hK hP jb_16 rfl (m_X6_priceOf l X M_3 v1_2 r8 e8) jw_X6_priceOf ji_X6_priceOf jmX6_113 rfl rfl ⟨(Nat.le_of_ble_eq_true rfl), (Nat.le_of_ble_eq_true rfl)⟩ rfl hl.1 rfl (Nat.le_of_ble_eq_true rfl) dX6_payAll_84 ⟨Nat.zero_le _, Nat.zero_le _⟩) ?_
        refine lv_iadd hx hb dX6_payAll_87 ?_
        exact je_mi hx hb hr hlocks hK hP hS h dX6_payAll_88
    · replace h := jh_f h c30
      refine lv_aload_n hx hb dX6_payAll_33 rfl (lv_at hl 1 rfl) ?_
      refine lv_iload_n hx hb dX6_payAll_34 rfl (lv_at hl 0 rfl) ?_
      obtain ⟨r9, M_9, e9, h⟩ := jh_b2 h
      refine jr_km (jr_rv (As := [.int t0_2]) (rest := []) S hK hP jb_16 rfl (m_X6_refuse l X A hs M_2 t0_2 r9 M_9 e9) jw_X6_refuse ji_X6_refuse jmX6_143 rfl rfl ⟨(Nat.le_of_ble_eq_true rfl), (Nat.le_of_ble_eq_true rfl)⟩ rfl hl.1 rfl (Nat.le_of_ble_eq_true rfl) dX6_payAll_35 ⟨Nat.zero_le _, Nat.zero_le _⟩) hS (fun H locs hP hS => ?_)
      exact je_mi hx hb hr hlocks hK hP hS h dX6_payAll_38
  refine lv_if_ne (tgt := 17) hx hb dX6_payAll_10 rfl (fun c10 => ?_) (fun c10 => ?_)
  · replace h := jh_f h c10
    refine lv_iload_n hx hb dX6_payAll_17 rfl (lv_at hl 2 rfl) ?_
    refine lv_iconst (v := (-1)) hx hb dX6_payAll_18 jci_m1 ?_
    refine lv_icmp_ge (tgt := 27) hx hb dX6_payAll_19 rfl (fun c19 => ?_) (fun c19 => ?_)
    · replace h := jh_t h c19
      refine lv_iconst (v := 0) hx hb dX6_payAll_27 jci_0 ?_
      exact J28 (ju M 16 11 0 0) _ _ v1 v2 0 _ h hP hS hl
    · replace h := jh_f h c19
      refine lv_bipush (v := (-4)) hx hb dX6_payAll_22 jcb_m4 ?_
      refine lv_goto (tgt := 28) hx hb dX6_payAll_24 rfl ?_
      exact J28 (ju M 16 11 0 0) _ _ v1 v2 (-4) _ h hP hS hl
  · replace h := jh_t h c10
    refine lv_iconst (v := (-1)) hx hb dX6_payAll_13 jci_m1 ?_
    refine lv_goto (tgt := 28) hx hb dX6_payAll_14 rfl ?_
    exact J28 (ju M 16 11 0 0) _ _ v1 v2 (-1) _ h hP hS hl
def f_X6_clear (M : jm) (v1 : Int32) (v2 : Int32) : Option (Int32 × jm) := (if (f_X6_isHouse (ju M 16 11 0 0) v1) = 0 then (jb2 (f_X6_refuse (ju M 16 11 0 0) (-1)) fun r2 M_2 => (some ((1000000000 - r2), M_2))) else (if (f_X6_isHouse (ju M 16 11 0 0) v2) = 0 then (jb2 (f_X6_refuse (ju M 16 11 0 0) (-1)) fun r4 M_4 => (some ((1000000000 - r4), M_4))) else (if v1 = v2 then (jb2 (f_X6_refuse (ju M 16 11 0 0) (-1)) fun r9 M_9 => (some ((1000000000 - r9), M_9))) else (jb (f_X6_owersOf (ju M 16 11 0 0) v1) fun r5 => (jb (f_X6_onesOf r5) fun r6 => (jb (f_X6_owersOf (ju M 16 11 0 0) v2) fun r7 => (jb (f_X6_onesOf r7) fun r8 => (some ((r6 - r8), (ju M 16 11 0 0))))))))))
set_option maxRecDepth 100000 in
theorem m_X6_clear (l : Launch) (X : jX) (A : Nat → Prop) (hs : jst X A) (M : jm) (v1 : Int32) (v2 : Int32) (r : Int32) (N : jm) (h : f_X6_clear M v1 v2 = some (r, N)) : Met l yX6_clear (jws yX6_clear cX6_clear 3 (some .int)) (jrm 2 46) (va_Pc [.ref (jO X 16), .int v1, .int v2] (jB X M)) (jQm X A (some (.int r)) N) 0 0 A := by
  refine jm_of (by decide) (Nat.le_of_ble_eq_true rfl) ?_
  intro p e s m args below meth c ls S hr hlocks hB hl
  have S : CallFix p m c cX6_clear 3 s args jtb RX6 := S
  obtain ⟨hx, hb, hml, hown, hts⟩ := id S
  obtain ⟨hP, hK⟩ := hB
  have hN := hK.2
  have hS : va_S A s.heap s.heap [] := va_S.rf
  have hl : lv_has ls 3 [(0, .ref (jO X 16)), (1, .int v1), (2, .int v2)] := hl
  refine lv_aload_n hx hb dX6_clear_0 rfl (lv_at hl 0 rfl) ?_
  refine lv_iconst (v := 0) hx hb dX6_clear_1 jci_0 ?_
  refine jr_put (k := 11) (z := 0) hx hb hts hown hK hP hs hS jb_16 (Nat.le_of_ble_eq_true rfl) jlX6_79 rfl (Or.inl rfl) rfl rfl rfl dX6_clear_2 (fun H locs hP hS => ?_)
  refine lv_aload_n hx hb dX6_clear_5 rfl (lv_at hl 0 rfl) ?_
  refine lv_iload_n hx hb dX6_clear_6 rfl (lv_at hl 1 rfl) ?_
  refine jr_kp (jr_rv (As := [.int v1]) (rest := []) S hK hP jb_16 rfl (m_X6_isHouse l X (ju M 16 11 0 0) v1 _ rfl) jw_X6_isHouse ji_X6_isHouse jmX6_181 rfl rfl ⟨(Nat.le_of_ble_eq_true rfl), (Nat.le_of_ble_eq_true rfl)⟩ rfl hl.1 rfl (Nat.le_of_ble_eq_true rfl) dX6_clear_7 ⟨Nat.zero_le _, Nat.zero_le _⟩) ?_
  refine lv_if_eq (tgt := 26) hx hb dX6_clear_10 rfl (fun c10 => ?_) (fun c10 => ?_)
  · replace h := jh_t h c10
    refine lv_ldcw hx hb hown (hts _ jkX6_271) dX6_clear_26 ?_
    refine lv_aload_n hx hb dX6_clear_29 rfl (lv_at hl 0 rfl) ?_
    refine lv_iconst (v := (-1)) hx hb dX6_clear_30 jci_m1 ?_
    obtain ⟨r2, M_2, e2, h⟩ := jh_b2 h
    refine jr_km (jr_rv (As := [.int (-1)]) (rest := [.int 1000000000]) S hK hP jb_16 rfl (m_X6_refuse l X A hs (ju M 16 11 0 0) (-1) r2 M_2 e2) jw_X6_refuse ji_X6_refuse jmX6_143 rfl rfl ⟨(Nat.le_of_ble_eq_true rfl), (Nat.le_of_ble_eq_true rfl)⟩ rfl hl.1 rfl (Nat.le_of_ble_eq_true rfl) dX6_clear_31 ⟨Nat.zero_le _, Nat.zero_le _⟩) hS (fun H locs hP hS => ?_)
    refine lv_isub hx hb dX6_clear_34 ?_
    exact je_mi hx hb hr hlocks hK hP hS h dX6_clear_35
  · replace h := jh_f h c10
    refine lv_aload_n hx hb dX6_clear_13 rfl (lv_at hl 0 rfl) ?_
    refine lv_iload_n hx hb dX6_clear_14 rfl (lv_at hl 2 rfl) ?_
    refine jr_kp (jr_rv (As := [.int v2]) (rest := []) S hK hP jb_16 rfl (m_X6_isHouse l X (ju M 16 11 0 0) v2 _ rfl) jw_X6_isHouse ji_X6_isHouse jmX6_181 rfl rfl ⟨(Nat.le_of_ble_eq_true rfl), (Nat.le_of_ble_eq_true rfl)⟩ rfl hl.1 rfl (Nat.le_of_ble_eq_true rfl) dX6_clear_15 ⟨Nat.zero_le _, Nat.zero_le _⟩) ?_
    refine lv_if_eq (tgt := 26) hx hb dX6_clear_18 rfl (fun c18 => ?_) (fun c18 => ?_)
    · replace h := jh_t h c18
      refine lv_ldcw hx hb hown (hts _ jkX6_271) dX6_clear_26 ?_
      refine lv_aload_n hx hb dX6_clear_29 rfl (lv_at hl 0 rfl) ?_
      refine lv_iconst (v := (-1)) hx hb dX6_clear_30 jci_m1 ?_
      obtain ⟨r4, M_4, e4, h⟩ := jh_b2 h
      refine jr_km (jr_rv (As := [.int (-1)]) (rest := [.int 1000000000]) S hK hP jb_16 rfl (m_X6_refuse l X A hs (ju M 16 11 0 0) (-1) r4 M_4 e4) jw_X6_refuse ji_X6_refuse jmX6_143 rfl rfl ⟨(Nat.le_of_ble_eq_true rfl), (Nat.le_of_ble_eq_true rfl)⟩ rfl hl.1 rfl (Nat.le_of_ble_eq_true rfl) dX6_clear_31 ⟨Nat.zero_le _, Nat.zero_le _⟩) hS (fun H locs hP hS => ?_)
      refine lv_isub hx hb dX6_clear_34 ?_
      exact je_mi hx hb hr hlocks hK hP hS h dX6_clear_35
    · replace h := jh_f h c18
      refine lv_iload_n hx hb dX6_clear_21 rfl (lv_at hl 1 rfl) ?_
      refine lv_iload_n hx hb dX6_clear_22 rfl (lv_at hl 2 rfl) ?_
      refine lv_icmp_ne (tgt := 36) hx hb dX6_clear_23 rfl (fun c23 => ?_) (fun c23 => ?_)
      · replace h := jh_f h c23
        refine lv_aload_n hx hb dX6_clear_36 rfl (lv_at hl 0 rfl) ?_
        refine lv_iload_n hx hb dX6_clear_37 rfl (lv_at hl 1 rfl) ?_
        obtain ⟨r5, e5, h⟩ := jh_b h
        refine jr_kp (jr_rv (As := [.int v1]) (rest := []) S hK hP jb_16 rfl (m_X6_owersOf l X (ju M 16 11 0 0) v1 r5 e5) jw_X6_owersOf ji_X6_owersOf jmX6_229 rfl rfl ⟨(Nat.le_of_ble_eq_true rfl), (Nat.le_of_ble_eq_true rfl)⟩ rfl hl.1 rfl (Nat.le_of_ble_eq_true rfl) dX6_clear_38 ⟨Nat.zero_le _, Nat.zero_le _⟩) ?_
        obtain ⟨r6, e6, h⟩ := jh_b h
        refine jr_kp (jr_rs (As := [.int r5]) (rest := []) S hN (m_X6_onesOf l r5 r6 e6) jw_X6_onesOf js_X6_onesOf jmX6_119 rfl rfl ⟨(Nat.le_of_ble_eq_true rfl), (Nat.le_of_ble_eq_true rfl)⟩ rfl hl.1 rfl (Nat.le_of_ble_eq_true rfl) dX6_clear_41 ⟨Nat.zero_le _, Nat.zero_le _⟩) ?_
        refine lv_aload_n hx hb dX6_clear_44 rfl (lv_at hl 0 rfl) ?_
        refine lv_iload_n hx hb dX6_clear_45 rfl (lv_at hl 2 rfl) ?_
        obtain ⟨r7, e7, h⟩ := jh_b h
        refine jr_kp (jr_rv (As := [.int v2]) (rest := [.int r6]) S hK hP jb_16 rfl (m_X6_owersOf l X (ju M 16 11 0 0) v2 r7 e7) jw_X6_owersOf ji_X6_owersOf jmX6_229 rfl rfl ⟨(Nat.le_of_ble_eq_true rfl), (Nat.le_of_ble_eq_true rfl)⟩ rfl hl.1 rfl (Nat.le_of_ble_eq_true rfl) dX6_clear_46 ⟨Nat.zero_le _, Nat.zero_le _⟩) ?_
        obtain ⟨r8, e8, h⟩ := jh_b h
        refine jr_kp (jr_rs (As := [.int r7]) (rest := [.int r6]) S hN (m_X6_onesOf l r7 r8 e8) jw_X6_onesOf js_X6_onesOf jmX6_119 rfl rfl ⟨(Nat.le_of_ble_eq_true rfl), (Nat.le_of_ble_eq_true rfl)⟩ rfl hl.1 rfl (Nat.le_of_ble_eq_true rfl) dX6_clear_49 ⟨Nat.zero_le _, Nat.zero_le _⟩) ?_
        refine lv_isub hx hb dX6_clear_52 ?_
        exact je_mi hx hb hr hlocks hK hP hS h dX6_clear_53
      · replace h := jh_t h c23
        refine lv_ldcw hx hb hown (hts _ jkX6_271) dX6_clear_26 ?_
        refine lv_aload_n hx hb dX6_clear_29 rfl (lv_at hl 0 rfl) ?_
        refine lv_iconst (v := (-1)) hx hb dX6_clear_30 jci_m1 ?_
        obtain ⟨r9, M_9, e9, h⟩ := jh_b2 h
        refine jr_km (jr_rv (As := [.int (-1)]) (rest := [.int 1000000000]) S hK hP jb_16 rfl (m_X6_refuse l X A hs (ju M 16 11 0 0) (-1) r9 M_9 e9) jw_X6_refuse ji_X6_refuse jmX6_143 rfl rfl ⟨(Nat.le_of_ble_eq_true rfl), (Nat.le_of_ble_eq_true rfl)⟩ rfl hl.1 rfl (Nat.le_of_ble_eq_true rfl) dX6_clear_31 ⟨Nat.zero_le _, Nat.zero_le _⟩) hS (fun H locs hP hS => ?_)
        refine lv_isub hx hb dX6_clear_34 ?_
        exact je_mi hx hb hr hlocks hK hP hS h dX6_clear_35
def f_X6_burn_l170 (v2_7 : Int32) : Nat → jm → Int32 → Int32 → Option (Int32 × jm)
  | 0, _, _, _ => none
  | k_7 + 1, M_7, v4_7, v5_7 => (if 49 ≤ v5_7 then (if v2_7 = 0 then (some (v4_7, M_7)) else (jgd v4_7 49 (jb (f_X6_onesOf (M_7 16 34 (Int32.toNatClampNeg v4_7))) fun r8 => (some (r8, M_7))))) else (jgd v5_7 49 (jb (f_X6_onesOf (M_7 16 34 (Int32.toNatClampNeg v5_7))) fun r9 => (jgd v4_7 49 (jb (f_X6_onesOf (M_7 16 34 (Int32.toNatClampNeg v4_7))) fun r10 => (if r9 ≤ r10 then ((f_X6_burn_l170 v2_7 k_7) M_7 v4_7 (v5_7 + 1)) else ((f_X6_burn_l170 v2_7 k_7) M_7 v5_7 (v5_7 + 1))))))))
def f_X6_burn_l85 (K59_13 : jm → Int32 → Option (Int32 × jm)) (K73_13 : jm → Int32 → Option (Int32 × jm)) (v1_5 : Int32) (v2_5 : Int32) (v4_12 : Int32) (v5_13 : Int32) : Nat → jm → Int32 → Option (Int32 × jm)
  | 0, _, _ => none
  | k_13 + 1, M_13, v6_13 => (if 49 ≤ v6_13 then (K73_13 M_13 (v5_13 + 1)) else (jgd v5_13 6 (if (M_13 16 8 (Int32.toNatClampNeg v5_13)) ≤ 0 then (K73_13 M_13 (v5_13 + 1)) else (jgd v6_13 49 (jgd v5_13 6 (jgd v5_13 6 (if (M_13 16 8 (Int32.toNatClampNeg v5_13)) < (f_X6_stepsOf (M_13 16 6 (Int32.toNatClampNeg v5_13)) v6_13) then (jgd v6_13 49 ((f_X6_burn_l85 K59_13 K73_13 v1_5 v2_5 v4_12 v5_13 k_13) (ju M_13 16 34 (Int32.toNatClampNeg v6_13) ((M_13 16 34 (Int32.toNatClampNeg v6_13)) ||| 0)) (v6_13 + 1))) else (jgd v6_13 49 ((f_X6_burn_l85 K59_13 K73_13 v1_5 v2_5 v4_12 v5_13 k_13) (ju M_13 16 34 (Int32.toNatClampNeg v6_13) ((M_13 16 34 (Int32.toNatClampNeg v6_13)) ||| ((1 : Int32) <<< (v5_13 &&& 31)))) (v6_13 + 1))))))))))
def f_X6_burn_l73 (K59_12 : jm → Int32 → Option (Int32 × jm)) (v1_5 : Int32) (v2_5 : Int32) (v4_12 : Int32) : Nat → jm → Int32 → Option (Int32 × jm)
  | 0, _, _ => none
  | k_12 + 1, M_12, v5_12 => (if (M_12 16 5 0) ≤ v5_12 then (K59_12 M_12 (v4_12 + 1)) else (f_X6_burn_l85 K59_12 (f_X6_burn_l73 K59_12 v1_5 v2_5 v4_12 k_12) v1_5 v2_5 v4_12 v5_12 10000 M_12 0))
def f_X6_burn_l59 (v1_5 : Int32) (v2_5 : Int32) : Nat → jm → Int32 → Option (Int32 × jm)
  | 0, _, _ => none
  | k_5 + 1, M_5, v4_5 => (if v1_5 ≤ v4_5 then (jb (f_X6_again M_5) fun M_6 => (f_X6_burn_l170 v2_5 10000 M_6 0 1)) else (jb (f_X6_eveningBy M_5 0) fun M_11 => (f_X6_burn_l73 (f_X6_burn_l59 v1_5 v2_5 k_5) v1_5 v2_5 v4_5 10000 M_11 0)))
def f_X6_burn_l31 (v1_3 : Int32) (v2_3 : Int32) : Nat → jm → Int32 → Option (Int32 × jm)
  | 0, _, _ => none
  | k_3 + 1, M_3, v4_3 => (if 49 ≤ v4_3 then (jb (f_X6_think M_3) fun M_4 => (f_X6_burn_l59 v1_3 v2_3 10000 M_4 0)) else (jgd v4_3 49 ((f_X6_burn_l31 v1_3 v2_3 k_3) (ju M_3 16 34 (Int32.toNatClampNeg v4_3) 0) (v4_3 + 1))))
def f_X6_burn (M : jm) (v1 : Int32) (v2 : Int32) : Option (Int32 × jm) := (if 0 ≤ (f_X6_wrongBit (f_X6_wrongNumber v1 1 30) v2 1) then (f_X6_burn_l31 v1 v2 10000 (ju M 16 11 0 0) 0) else (jb2 (f_X6_refuse (ju M 16 11 0 0) (f_X6_wrongBit (f_X6_wrongNumber v1 1 30) v2 1)) fun r15 M_15 => (some (r15, M_15))))
set_option maxRecDepth 100000 in
theorem m_X6_burn (l : Launch) (X : jX) (A : Nat → Prop) (hs : jst X A) (M : jm) (v1 : Int32) (v2 : Int32) (r : Int32) (N : jm) (h : f_X6_burn M v1 v2 = some (r, N)) : Met l yX6_burn (jws yX6_burn cX6_burn 7 (some .int)) (jrm 5 114) (va_Pc [.ref (jO X 16), .int v1, .int v2] (jB X M)) (jQm X A (some (.int r)) N) 0 0 A := by
  refine jm_of (by decide) (Nat.le_of_ble_eq_true rfl) ?_
  intro p e s m args below meth c ls S hr hlocks hB hl
  have S : CallFix p m c cX6_burn 7 s args jtb RX6 := S
  obtain ⟨hx, hb, hml, hown, hts⟩ := id S
  obtain ⟨hP, hK⟩ := hB
  have hN := hK.2
  have hS : va_S A s.heap s.heap [] := va_S.rf
  have hl : lv_has ls 7 [(0, .ref (jO X 16)), (1, .int v1), (2, .int v2)] := hl
  refine lv_aload_n hx hb dX6_burn_0 rfl (lv_at hl 0 rfl) ?_
  refine lv_iconst (v := 0) hx hb dX6_burn_1 jci_0 ?_
  refine jr_put (k := 11) (z := 0) hx hb hts hown hK hP hs hS jb_16 (Nat.le_of_ble_eq_true rfl) jlX6_79 rfl (Or.inl rfl) rfl rfl rfl dX6_burn_2 (fun H locs hP hS => ?_)
  refine lv_iload_n hx hb dX6_burn_5 rfl (lv_at hl 1 rfl) ?_
  refine lv_iconst (v := 1) hx hb dX6_burn_6 jci_1 ?_
  refine lv_bipush (v := 30) hx hb dX6_burn_7 jcb_30 ?_
  refine jr_kp (jr_rs (As := [.int v1, .int 1, .int 30]) (rest := []) S hN (m_X6_wrongNumber l v1 1 30 _ rfl) jw_X6_wrongNumber js_X6_wrongNumber jmX6_240 rfl rfl ⟨(Nat.le_of_ble_eq_true rfl), (Nat.le_of_ble_eq_true rfl)⟩ rfl hl.1 rfl (Nat.le_of_ble_eq_true rfl) dX6_burn_9 ⟨Nat.zero_le _, Nat.zero_le _⟩) ?_
  refine lv_iload_n hx hb dX6_burn_12 rfl (lv_at hl 2 rfl) ?_
  refine lv_iconst (v := 1) hx hb dX6_burn_13 jci_1 ?_
  refine jr_kp (jr_rs (As := [.int (f_X6_wrongNumber v1 1 30), .int v2, .int 1]) (rest := []) S hN (m_X6_wrongBit l (f_X6_wrongNumber v1 1 30) v2 1 _ rfl) jw_X6_wrongBit js_X6_wrongBit jmX6_250 rfl rfl ⟨(Nat.le_of_ble_eq_true rfl), (Nat.le_of_ble_eq_true rfl)⟩ rfl hl.1 rfl (Nat.le_of_ble_eq_true rfl) dX6_burn_14 ⟨Nat.zero_le _, Nat.zero_le _⟩) ?_
  refine lv_istore_n (lv' := [(3, .int (f_X6_wrongBit (f_X6_wrongNumber v1 1 30) v2 1)), (0, .ref (jO X 16)), (1, .int v1), (2, .int v2)]) hx hb dX6_burn_17 rfl hl (Nat.le_of_ble_eq_true rfl) rfl (fun ls hl => ?_)
  refine lv_iload_n hx hb dX6_burn_18 rfl (lv_at hl 0 rfl) ?_
  refine lv_if_ge (tgt := 28) hx hb dX6_burn_19 rfl (fun c19 => ?_) (fun c19 => ?_)
  · replace h := jh_t h c19
    refine lv_iconst (v := 0) hx hb dX6_burn_28 jci_0 ?_
    refine lv_istore (lv' := [(4, .int 0), (3, .int (f_X6_wrongBit (f_X6_wrongNumber v1 1 30) v2 1)), (0, .ref (jO X 16)), (1, .int v1), (2, .int v2)]) hx hb dX6_burn_29 hl (Nat.le_of_ble_eq_true rfl) rfl (fun ls hl => ?_)
    have L31 : ∀ (v1_3 : Int32) (v2_3 : Int32) (k_3 : Nat) (M_3 : jm) (H : Heap) (locs : List Loc) (v4_3 : Int32) (ls : Array Slot), f_X6_burn_l31 v1_3 v2_3 k_3 M_3 v4_3 = some (r, N) → jrp X M_3 H → va_S A s.heap H locs → lv_has ls 7 [(0, .ref (jO X 16)), (1, .int v1_3), (2, .int v2_3), (4, .int v4_3)] → W p l e (jrm 5 114) s m args below meth c H locs 0 0 (MQ below (jQm X A (some (.int r)) N) args s 0 0 A) (F0 m 31 ls []) := by
      intro v1_3 v2_3 k_3
      induction k_3 with
      | zero => intro M_3 H locs v4_3 ls h; exact jh_0 h
      | succ k_3 ih31 =>
        intro M_3 H locs v4_3 ls h hP hS hl
        refine lv_iload hx hb dX6_burn_31 (lv_at hl 3 rfl) ?_
        refine lv_bipush (v := 49) hx hb dX6_burn_33 jcb_49 ?_
        refine lv_icmp_ge (tgt := 52) hx hb dX6_burn_35 rfl (fun c35 => ?_) (fun c35 => ?_)
        · replace h := jh_t h c35
          refine lv_aload_n hx hb dX6_burn_52 rfl (lv_at hl 0 rfl) ?_
          obtain ⟨M_4, e4, h⟩ := jh_b h
          refine jr_kv (jr_rv (As := []) (rest := []) S hK hP jb_16 rfl (m_X6_think l X A hs M_3  M_4 e4) jw_X6_think ji_X6_think jmX6_196 rfl rfl ⟨(Nat.le_of_ble_eq_true rfl), (Nat.le_of_ble_eq_true rfl)⟩ rfl hl.1 rfl (Nat.le_of_ble_eq_true rfl) dX6_burn_53 ⟨Nat.zero_le _, Nat.zero_le _⟩) hS (fun H locs hP hS => ?_)
          refine lv_iconst (v := 0) hx hb dX6_burn_56 jci_0 ?_
          refine lv_istore (lv' := [(4, .int 0), (0, .ref (jO X 16)), (1, .int v1_3), (2, .int v2_3)]) hx hb dX6_burn_57 hl (Nat.le_of_ble_eq_true rfl) rfl (fun ls hl => ?_)
          have L59 : ∀ (v1_5 : Int32) (v2_5 : Int32) (k_5 : Nat) (M_5 : jm) (H : Heap) (locs : List Loc) (v4_5 : Int32) (ls : Array Slot), f_X6_burn_l59 v1_5 v2_5 k_5 M_5 v4_5 = some (r, N) → jrp X M_5 H → va_S A s.heap H locs → lv_has ls 7 [(0, .ref (jO X 16)), (1, .int v1_5), (2, .int v2_5), (4, .int v4_5)] → W p l e (jrm 5 114) s m args below meth c H locs 0 0 (MQ below (jQm X A (some (.int r)) N) args s 0 0 A) (F0 m 59 ls []) := by
            intro v1_5 v2_5 k_5
            induction k_5 with
            | zero => intro M_5 H locs v4_5 ls h; exact jh_0 h
            | succ k_5 ih59 =>
              intro M_5 H locs v4_5 ls h hP hS hl
              refine lv_iload hx hb dX6_burn_59 (lv_at hl 3 rfl) ?_
              refine lv_iload_n hx hb dX6_burn_61 rfl (lv_at hl 1 rfl) ?_
              refine lv_icmp_ge (tgt := 160) hx hb dX6_burn_62 rfl (fun c62 => ?_) (fun c62 => ?_)
              · replace h := jh_t h c62
                refine lv_aload_n hx hb dX6_burn_160 rfl (lv_at hl 0 rfl) ?_
                obtain ⟨M_6, e6, h⟩ := jh_b h
                refine jr_kv (jr_rv (As := []) (rest := []) S hK hP jb_16 rfl (m_X6_again l X A hs M_5  M_6 e6) jw_X6_again ji_X6_again jmX6_202 rfl rfl ⟨(Nat.le_of_ble_eq_true rfl), (Nat.le_of_ble_eq_true rfl)⟩ rfl hl.1 rfl (Nat.le_of_ble_eq_true rfl) dX6_burn_161 ⟨Nat.zero_le _, Nat.zero_le _⟩) hS (fun H locs hP hS => ?_)
                refine lv_iconst (v := 0) hx hb dX6_burn_164 jci_0 ?_
                refine lv_istore (lv' := [(4, .int 0), (0, .ref (jO X 16)), (1, .int v1_5), (2, .int v2_5)]) hx hb dX6_burn_165 hl (Nat.le_of_ble_eq_true rfl) rfl (fun ls hl => ?_)
                refine lv_iconst (v := 1) hx hb dX6_burn_167 jci_1 ?_
                refine lv_istore (lv' := [(5, .int 1), (4, .int 0), (0, .ref (jO X 16)), (1, .int v1_5), (2, .int v2_5)]) hx hb dX6_burn_168 hl (Nat.le_of_ble_eq_true rfl) rfl (fun ls hl => ?_)
                have L170 : ∀ (v2_7 : Int32) (k_7 : Nat) (M_7 : jm) (H : Heap) (locs : List Loc) (v4_7 : Int32) (v5_7 : Int32) (ls : Array Slot), f_X6_burn_l170 v2_7 k_7 M_7 v4_7 v5_7 = some (r, N) → jrp X M_7 H → va_S A s.heap H locs → lv_has ls 7 [(0, .ref (jO X 16)), (2, .int v2_7), (4, .int v4_7), (5, .int v5_7)] → W p l e (jrm 5 114) s m args below meth c H locs 0 0 (MQ below (jQm X A (some (.int r)) N) args s 0 0 A) (F0 m 170 ls []) := by
                  intro v2_7 k_7
                  induction k_7 with
                  | zero => intro M_7 H locs v4_7 v5_7 ls h; exact jh_0 h
                  | succ k_7 ih170 =>
                    intro M_7 H locs v4_7 v5_7 ls h hP hS hl
                    refine lv_iload hx hb dX6_burn_170 (lv_at hl 3 rfl) ?_
                    refine lv_bipush (v := 49) hx hb dX6_burn_172 jcb_49 ?_
                    refine lv_icmp_ge (tgt := 215) hx hb dX6_burn_174 rfl (fun c174 => ?_) (fun c174 => ?_)
                    · replace h := jh_t h c174
                      refine lv_iload_n hx hb dX6_burn_215 rfl (lv_at hl 1 rfl) ?_
                      refine lv_if_ne (tgt := 224) hx hb dX6_burn_216 rfl (fun c216 => ?_) (fun c216 => ?_)
                      · replace h := jh_f h c216
                        refine lv_aload_n hx hb dX6_burn_224 rfl (lv_at hl 0 rfl) ?_
                        refine jr_get (k := 34) hx hb hts hown hK hP jb_16 (Nat.le_of_ble_eq_true rfl) jlX6_70 rfl dX6_burn_225 ?_
                        refine lv_iload hx hb dX6_burn_228 (lv_at hl 2 rfl) ?_
                        obtain ⟨g230, h⟩ := jh_gd h
                        refine jr_ald (n := 49) hx hb hK hP jb_16 rfl g230 dX6_burn_230 ?_
                        obtain ⟨r8, e8, h⟩ := jh_b h
                        refine jr_kp (jr_rs (As := [.int (M_7 16 34 (Int32.toNatClampNeg v4_7))]) (rest := []) S hN (m_X6_onesOf l (M_7 16 34 (Int32.toNatClampNeg v4_7)) r8 e8) jw_X6_onesOf js_X6_onesOf jmX6_119 rfl rfl ⟨(Nat.le_of_ble_eq_true rfl), (Nat.le_of_ble_eq_true rfl)⟩ rfl hl.1 rfl (Nat.le_of_ble_eq_true rfl) dX6_burn_231 ⟨Nat.zero_le _, Nat.zero_le _⟩) ?_
                        exact je_mi hx hb hr hlocks hK hP hS h dX6_burn_234
                      · replace h := jh_t h c216
                        refine lv_iload hx hb dX6_burn_219 (lv_at hl 2 rfl) ?_
                        refine lv_goto (tgt := 234) hx hb dX6_burn_221 rfl ?_
                        exact je_mi hx hb hr hlocks hK hP hS h dX6_burn_234
                    · replace h := jh_f h c174
                      refine lv_aload_n hx hb dX6_burn_177 rfl (lv_at hl 0 rfl) ?_
                      refine jr_get (k := 34) hx hb hts hown hK hP jb_16 (Nat.le_of_ble_eq_true rfl) jlX6_70 rfl dX6_burn_178 ?_
                      refine lv_iload hx hb dX6_burn_181 (lv_at hl 3 rfl) ?_
                      obtain ⟨g183, h⟩ := jh_gd h
                      refine jr_ald (n := 49) hx hb hK hP jb_16 rfl g183 dX6_burn_183 ?_
                      obtain ⟨r9, e9, h⟩ := jh_b h
                      refine jr_kp (jr_rs (As := [.int (M_7 16 34 (Int32.toNatClampNeg v5_7))]) (rest := []) S hN (m_X6_onesOf l (M_7 16 34 (Int32.toNatClampNeg v5_7)) r9 e9) jw_X6_onesOf js_X6_onesOf jmX6_119 rfl rfl ⟨(Nat.le_of_ble_eq_true rfl), (Nat.le_of_ble_eq_true rfl)⟩ rfl hl.1 rfl (Nat.le_of_ble_eq_true rfl) dX6_burn_184 ⟨Nat.zero_le _, Nat.zero_le _⟩) ?_
                      refine lv_aload_n hx hb dX6_burn_187 rfl (lv_at hl 0 rfl) ?_
                      refine jr_get (k := 34) hx hb hts hown hK hP jb_16 (Nat.le_of_ble_eq_true rfl) jlX6_70 rfl dX6_burn_188 ?_
                      refine lv_iload hx hb dX6_burn_191 (lv_at hl 2 rfl) ?_
                      obtain ⟨g193, h⟩ := jh_gd h
                      refine jr_ald (n := 49) hx hb hK hP jb_16 rfl g193 dX6_burn_193 ?_
                      obtain ⟨r10, e10, h⟩ := jh_b h
                      refine jr_kp (jr_rs (As := [.int (M_7 16 34 (Int32.toNatClampNeg v4_7))]) (rest := [.int r9]) S hN (m_X6_onesOf l (M_7 16 34 (Int32.toNatClampNeg v4_7)) r10 e10) jw_X6_onesOf js_X6_onesOf jmX6_119 rfl rfl ⟨(Nat.le_of_ble_eq_true rfl), (Nat.le_of_ble_eq_true rfl)⟩ rfl hl.1 rfl (Nat.le_of_ble_eq_true rfl) dX6_burn_194 ⟨Nat.zero_le _, Nat.zero_le _⟩) ?_
                      refine lv_icmp_le (tgt := 205) hx hb dX6_burn_197 rfl (fun c197 => ?_) (fun c197 => ?_)
                      · replace h := jh_t h c197
                        refine lv_iload hx hb dX6_burn_205 (lv_at hl 2 rfl) ?_
                        refine lv_istore (lv' := [(4, .int v4_7), (0, .ref (jO X 16)), (2, .int v2_7), (5, .int v5_7)]) hx hb dX6_burn_207 hl (Nat.le_of_ble_eq_true rfl) rfl (fun ls hl => ?_)
                        refine lv_iinc (v := (v5_7 + 1)) (lv' := [(5, .int (v5_7 + 1)), (4, .int v4_7), (0, .ref (jO X 16)), (2, .int v2_7)]) hx hb dX6_burn_209 hl (k := 3) rfl (congrArg _ jci_1) (Nat.le_of_ble_eq_true rfl) rfl (fun ls hl => ?_)
                        refine lv_goto (tgt := 170) hx hb dX6_burn_212 rfl ?_
                        exact ih170 M_7 _ _ v4_7 (v5_7 + 1) _ h hP hS (lv_sub hl [2, 3, 1, 0] rfl)
                      · replace h := jh_f h c197
                        refine lv_iload hx hb dX6_burn_200 (lv_at hl 3 rfl) ?_
                        refine lv_goto (tgt := 207) hx hb dX6_burn_202 rfl ?_
                        refine lv_istore (lv' := [(4, .int v5_7), (0, .ref (jO X 16)), (2, .int v2_7), (5, .int v5_7)]) hx hb dX6_burn_207 hl (Nat.le_of_ble_eq_true rfl) rfl (fun ls hl => ?_)
                        refine lv_iinc (v := (v5_7 + 1)) (lv' := [(5, .int (v5_7 + 1)), (4, .int v5_7), (0, .ref (jO X 16)), (2, .int v2_7)]) hx hb dX6_burn_209 hl (k := 3) rfl (congrArg _ jci_1) (Nat.le_of_ble_eq_true rfl) rfl (fun ls hl => ?_)
                        refine lv_goto (tgt := 170) hx hb dX6_burn_212 rfl ?_
                        exact ih170 M_7 _ _ v5_7 (v5_7 + 1) _ h hP hS (lv_sub hl [2, 3, 1, 0] rfl)
                exact L170 v2_5 10000 M_6 _ _ 0 1 _ h hP hS (lv_sub hl [2, 4, 1, 0] rfl)
              · replace h := jh_f h c62
                refine lv_aload_n hx hb dX6_burn_65 rfl (lv_at hl 0 rfl) ?_
                refine lv_iconst (v := 0) hx hb dX6_burn_66 jci_0 ?_
                obtain ⟨M_11, e11, h⟩ := jh_b h
                refine jr_kv (jr_rv (As := [.int 0]) (rest := []) S hK hP jb_16 rfl (m_X6_eveningBy l X A hs M_5 0 M_11 e11) jw_X6_eveningBy ji_X6_eveningBy jmX6_135 rfl rfl ⟨(Nat.le_of_ble_eq_true rfl), (Nat.le_of_ble_eq_true rfl)⟩ rfl hl.1 rfl (Nat.le_of_ble_eq_true rfl) dX6_burn_67 ⟨Nat.zero_le _, Nat.zero_le _⟩) hS (fun H locs hP hS => ?_)
                refine lv_iconst (v := 0) hx hb dX6_burn_70 jci_0 ?_
                refine lv_istore (lv' := [(5, .int 0), (0, .ref (jO X 16)), (1, .int v1_5), (2, .int v2_5), (4, .int v4_5)]) hx hb dX6_burn_71 hl (Nat.le_of_ble_eq_true rfl) rfl (fun ls hl => ?_)
                have L73 : ∀ (v4_12 : Int32) (k_12 : Nat) (M_12 : jm) (H : Heap) (locs : List Loc) (v5_12 : Int32) (ls : Array Slot), f_X6_burn_l73 (f_X6_burn_l59 v1_5 v2_5 k_5) v1_5 v2_5 v4_12 k_12 M_12 v5_12 = some (r, N) → jrp X M_12 H → va_S A s.heap H locs → lv_has ls 7 [(0, .ref (jO X 16)), (1, .int v1_5), (2, .int v2_5), (4, .int v4_12), (5, .int v5_12)] → W p l e (jrm 5 114) s m args below meth c H locs 0 0 (MQ below (jQm X A (some (.int r)) N) args s 0 0 A) (F0 m 73 ls []) := by
                  intro v4_12 k_12
                  induction k_12 with
                  | zero => intro M_12 H locs v5_12 ls h; exact jh_0 h
                  | succ k_12 ih73 =>
                    intro M_12 H locs v5_12 ls h hP hS hl
                    refine lv_iload hx hb dX6_burn_73 (lv_at hl 4 rfl) ?_
                    refine lv_aload_n hx hb dX6_burn_75 rfl (lv_at hl 0 rfl) ?_
                    refine jr_get (k := 5) hx hb hts hown hK hP jb_16 (Nat.le_of_ble_eq_true rfl) jlX6_92 rfl dX6_burn_76 ?_
                    refine lv_icmp_ge (tgt := 154) hx hb dX6_burn_79 rfl (fun c79 => ?_) (fun c79 => ?_)
                    · replace h := jh_t h c79
                      refine lv_iinc (v := (v4_12 + 1)) (lv' := [(4, .int (v4_12 + 1)), (0, .ref (jO X 16)), (1, .int v1_5), (2, .int v2_5), (5, .int v5_12)]) hx hb dX6_burn_154 hl (k := 3) rfl (congrArg _ jci_1) (Nat.le_of_ble_eq_true rfl) rfl (fun ls hl => ?_)
                      refine lv_goto (tgt := 59) hx hb dX6_burn_157 rfl ?_
                      exact ih59 M_12 _ _ (v4_12 + 1) _ h hP hS (lv_sub hl [1, 2, 3, 0] rfl)
                    · replace h := jh_f h c79
                      refine lv_iconst (v := 0) hx hb dX6_burn_82 jci_0 ?_
                      refine lv_istore (lv' := [(6, .int 0), (0, .ref (jO X 16)), (1, .int v1_5), (2, .int v2_5), (4, .int v4_12), (5, .int v5_12)]) hx hb dX6_burn_83 hl (Nat.le_of_ble_eq_true rfl) rfl (fun ls hl => ?_)
                      have L85 : ∀ (v5_13 : Int32) (k_13 : Nat) (M_13 : jm) (H : Heap) (locs : List Loc) (v6_13 : Int32) (ls : Array Slot), f_X6_burn_l85 (f_X6_burn_l59 v1_5 v2_5 k_5) (f_X6_burn_l73 (f_X6_burn_l59 v1_5 v2_5 k_5) v1_5 v2_5 v4_12 k_12) v1_5 v2_5 v4_12 v5_13 k_13 M_13 v6_13 = some (r, N) → jrp X M_13 H → va_S A s.heap H locs → lv_has ls 7 [(0, .ref (jO X 16)), (1, .int v1_5), (2, .int v2_5), (4, .int v4_12), (5, .int v5_13), (6, .int v6_13)] → W p l e (jrm 5 114) s m args below meth c H locs 0 0 (MQ below (jQm X A (some (.int r)) N) args s 0 0 A) (F0 m 85 ls []) := by
                        intro v5_13 k_13
                        induction k_13 with
                        | zero => intro M_13 H locs v6_13 ls h; exact jh_0 h
                        | succ k_13 ih85 =>
                          intro M_13 H locs v6_13 ls h hP hS hl
                          refine lv_iload hx hb dX6_burn_85 (lv_at hl 5 rfl) ?_
                          refine lv_bipush (v := 49) hx hb dX6_burn_87 jcb_49 ?_
                          refine lv_icmp_ge (tgt := 148) hx hb dX6_burn_89 rfl (fun c89 => ?_) (fun c89 => ?_)
                          · replace h := jh_t h c89
                            refine lv_iinc (v := (v5_13 + 1)) (lv' := [(5, .int (v5_13 + 1)), (0, .ref (jO X 16)), (1, .int v1_5), (2, .int v2_5), (4, .int v4_12), (6, .int v6_13)]) hx hb dX6_burn_148 hl (k := 4) rfl (congrArg _ jci_1) (Nat.le_of_ble_eq_true rfl) rfl (fun ls hl => ?_)
                            refine lv_goto (tgt := 73) hx hb dX6_burn_151 rfl ?_
                            exact ih73 M_13 _ _ (v5_13 + 1) _ h hP hS (lv_sub hl [1, 2, 3, 4, 0] rfl)
                          · replace h := jh_f h c89
                            refine lv_aload_n hx hb dX6_burn_92 rfl (lv_at hl 0 rfl) ?_
                            refine jr_get (k := 8) hx hb hts hown hK hP jb_16 (Nat.le_of_ble_eq_true rfl) jlX6_28 rfl dX6_burn_93 ?_
                            refine lv_iload hx hb dX6_burn_96 (lv_at hl 4 rfl) ?_
                            obtain ⟨g98, h⟩ := jh_gd h
                            refine jr_ald (n := 6) hx hb hK hP jb_16 rfl g98 dX6_burn_98 ?_
                            refine lv_if_le (tgt := 148) hx hb dX6_burn_99 rfl (fun c99 => ?_) (fun c99 => ?_)
                            · replace h := jh_t h c99
                              refine lv_iinc (v := (v5_13 + 1)) (lv' := [(5, .int (v5_13 + 1)), (0, .ref (jO X 16)), (1, .int v1_5), (2, .int v2_5), (4, .int v4_12), (6, .int v6_13)]) hx hb dX6_burn_148 hl (k := 4) rfl (congrArg _ jci_1) (Nat.le_of_ble_eq_true rfl) rfl (fun ls hl => ?_)
                              refine lv_goto (tgt := 73) hx hb dX6_burn_151 rfl ?_
                              exact ih73 M_13 _ _ (v5_13 + 1) _ h hP hS (lv_sub hl [1, 2, 3, 4, 0] rfl)
                            · replace h := jh_f h c99
                              refine lv_aload_n hx hb dX6_burn_102 rfl (lv_at hl 0 rfl) ?_
                              refine jr_get (k := 34) hx hb hts hown hK hP jb_16 (Nat.le_of_ble_eq_true rfl) jlX6_70 rfl dX6_burn_103 ?_
                              refine lv_iload hx hb dX6_burn_106 (lv_at hl 5 rfl) ?_
                              refine lv_dup2_11 hx hb dX6_burn_108 rfl rfl ?_
                              obtain ⟨g109, h⟩ := jh_gd h
                              refine jr_ald (n := 49) hx hb hK hP jb_16 rfl g109 dX6_burn_109 ?_
                              refine lv_aload_n hx hb dX6_burn_110 rfl (lv_at hl 0 rfl) ?_
                              refine jr_get (k := 6) hx hb hts hown hK hP jb_16 (Nat.le_of_ble_eq_true rfl) jlX6_22 rfl dX6_burn_111 ?_
                              refine lv_iload hx hb dX6_burn_114 (lv_at hl 4 rfl) ?_
                              obtain ⟨g116, h⟩ := jh_gd h
                              refine jr_ald (n := 6) hx hb hK hP jb_16 rfl g116 dX6_burn_116 ?_
                              refine lv_iload hx hb dX6_burn_117 (lv_at hl 5 rfl) ?_
                              refine jr_kp (jr_rs (As := [.int (M_13 16 6 (Int32.toNatClampNeg v5_13)), .int v6_13]) (rest := [.int (M_13 16 34 (Int32.toNatClampNeg v6_13)), .int v6_13, .ref (jA X 16 34)]) S hN (m_X6_stepsOf l (M_13 16 6 (Int32.toNatClampNeg v5_13)) v6_13 _ rfl) jw_X6_stepsOf js_X6_stepsOf jmX6_103 rfl rfl ⟨(Nat.le_of_ble_eq_true rfl), (Nat.le_of_ble_eq_true rfl)⟩ rfl hl.1 rfl (Nat.le_of_ble_eq_true rfl) dX6_burn_119 ⟨Nat.zero_le _, Nat.zero_le _⟩) ?_
                              refine lv_aload_n hx hb dX6_burn_122 rfl (lv_at hl 0 rfl) ?_
                              refine jr_get (k := 8) hx hb hts hown hK hP jb_16 (Nat.le_of_ble_eq_true rfl) jlX6_28 rfl dX6_burn_123 ?_
                              refine lv_iload hx hb dX6_burn_126 (lv_at hl 4 rfl) ?_
                              obtain ⟨g128, h⟩ := jh_gd h
                              refine jr_ald (n := 6) hx hb hK hP jb_16 rfl g128 dX6_burn_128 ?_
                              refine lv_icmp_gt (tgt := 139) hx hb dX6_burn_129 rfl (fun c129 => ?_) (fun c129 => ?_)
                              · replace h := jh_t h c129
                                refine lv_iconst (v := 0) hx hb dX6_burn_139 jci_0 ?_
                                refine lv_ior hx hb dX6_burn_140 ?_
                                obtain ⟨g141, h⟩ := jh_gd h
                                refine jr_ast (n := 49) hx hb hK hP hs hS jb_16 rfl g141 dX6_burn_141 (fun H locs hP hS => ?_)
                                refine lv_iinc (v := (v6_13 + 1)) (lv' := [(6, .int (v6_13 + 1)), (0, .ref (jO X 16)), (1, .int v1_5), (2, .int v2_5), (4, .int v4_12), (5, .int v5_13)]) hx hb dX6_burn_142 hl (k := 5) rfl (congrArg _ jci_1) (Nat.le_of_ble_eq_true rfl) rfl (fun ls hl => ?_)
                                refine lv_goto (tgt := 85) hx hb dX6_burn_145 rfl ?_
                                exact ih85 (ju M_13 16 34 (Int32.toNatClampNeg v6_13) ((M_13 16 34 (Int32.toNatClampNeg v6_13)) ||| 0)) _ _ (v6_13 + 1) _ h hP hS (lv_sub hl [1, 2, 3, 4, 5, 0] rfl)
                              · replace h := jh_f h c129
                                refine lv_iconst (v := 1) hx hb dX6_burn_132 jci_1 ?_
                                refine lv_iload hx hb dX6_burn_133 (lv_at hl 4 rfl) ?_
                                refine lv_ishl hx hb dX6_burn_135 ?_
                                refine lv_goto (tgt := 140) hx hb dX6_burn_136 rfl ?_
                                refine lv_ior hx hb dX6_burn_140 ?_
                                obtain ⟨g141, h⟩ := jh_gd h
                                refine jr_ast (n := 49) hx hb hK hP hs hS jb_16 rfl g141 dX6_burn_141 (fun H locs hP hS => ?_)
                                refine lv_iinc (v := (v6_13 + 1)) (lv' := [(6, .int (v6_13 + 1)), (0, .ref (jO X 16)), (1, .int v1_5), (2, .int v2_5), (4, .int v4_12), (5, .int v5_13)]) hx hb dX6_burn_142 hl (k := 5) rfl (congrArg _ jci_1) (Nat.le_of_ble_eq_true rfl) rfl (fun ls hl => ?_)
                                refine lv_goto (tgt := 85) hx hb dX6_burn_145 rfl ?_
                                exact ih85 (ju M_13 16 34 (Int32.toNatClampNeg v6_13) ((M_13 16 34 (Int32.toNatClampNeg v6_13)) ||| ((1 : Int32) <<< (v5_13 &&& 31)))) _ _ (v6_13 + 1) _ h hP hS (lv_sub hl [1, 2, 3, 4, 5, 0] rfl)
                      exact L85 v5_12 10000 M_12 _ _ 0 _ h hP hS (lv_sub hl [1, 2, 3, 4, 5, 0] rfl)
                exact L73 v4_5 10000 M_11 _ _ 0 _ h hP hS (lv_sub hl [1, 2, 3, 4, 0] rfl)
          exact L59 v1_3 v2_3 10000 M_4 _ _ 0 _ h hP hS (lv_sub hl [1, 2, 3, 0] rfl)
        · replace h := jh_f h c35
          refine lv_aload_n hx hb dX6_burn_38 rfl (lv_at hl 0 rfl) ?_
          refine jr_get (k := 34) hx hb hts hown hK hP jb_16 (Nat.le_of_ble_eq_true rfl) jlX6_70 rfl dX6_burn_39 ?_
          refine lv_iload hx hb dX6_burn_42 (lv_at hl 3 rfl) ?_
          refine lv_iconst (v := 0) hx hb dX6_burn_44 jci_0 ?_
          obtain ⟨g45, h⟩ := jh_gd h
          refine jr_ast (n := 49) hx hb hK hP hs hS jb_16 rfl g45 dX6_burn_45 (fun H locs hP hS => ?_)
          refine lv_iinc (v := (v4_3 + 1)) (lv' := [(4, .int (v4_3 + 1)), (0, .ref (jO X 16)), (1, .int v1_3), (2, .int v2_3)]) hx hb dX6_burn_46 hl (k := 3) rfl (congrArg _ jci_1) (Nat.le_of_ble_eq_true rfl) rfl (fun ls hl => ?_)
          refine lv_goto (tgt := 31) hx hb dX6_burn_49 rfl ?_
          exact ih31 (ju M_3 16 34 (Int32.toNatClampNeg v4_3) 0) _ _ (v4_3 + 1) _ h hP hS (lv_sub hl [1, 2, 3, 0] rfl)
    exact L31 v1 v2 10000 (ju M 16 11 0 0) _ _ 0 _ h hP hS (lv_sub hl [2, 3, 4, 0] rfl)
  · replace h := jh_f h c19
    refine lv_aload_n hx hb dX6_burn_22 rfl (lv_at hl 1 rfl) ?_
    refine lv_iload_n hx hb dX6_burn_23 rfl (lv_at hl 0 rfl) ?_
    obtain ⟨r15, M_15, e15, h⟩ := jh_b2 h
    refine jr_km (jr_rv (As := [.int (f_X6_wrongBit (f_X6_wrongNumber v1 1 30) v2 1)]) (rest := []) S hK hP jb_16 rfl (m_X6_refuse l X A hs (ju M 16 11 0 0) (f_X6_wrongBit (f_X6_wrongNumber v1 1 30) v2 1) r15 M_15 e15) jw_X6_refuse ji_X6_refuse jmX6_143 rfl rfl ⟨(Nat.le_of_ble_eq_true rfl), (Nat.le_of_ble_eq_true rfl)⟩ rfl hl.1 rfl (Nat.le_of_ble_eq_true rfl) dX6_burn_24 ⟨Nat.zero_le _, Nat.zero_le _⟩) hS (fun H locs hP hS => ?_)
    exact je_mi hx hb hr hlocks hK hP hS h dX6_burn_27
def f_X6_shut_j93 (M_10 : jm) (K48_10 : jm → Int32 → Int32 → Int32 → Option (Int32 × jm)) (v1_6 : Int32) (v4_10 : Int32) (v5_10 : Int32) (v6_10 : Int32) (t0_10 : Int32) : Option (Int32 × jm) := (if v4_10 ≤ v6_10 then (K48_10 M_10 t0_10 v4_10 (v5_10 + 1)) else (K48_10 M_10 t0_10 v6_10 (v5_10 + 1)))
def f_X6_shut_l48 (v1_6 : Int32) : Nat → jm → Int32 → Int32 → Int32 → Option (Int32 × jm)
  | 0, _, _, _, _ => none
  | k_6 + 1, M_6, v3_6, v4_6, v5_6 => (if (M_6 16 0 0) ≤ v5_6 then (some (v3_6, M_6)) else (jgd v5_6 8 (jb (f_X6_goEvenings (ju M_6 16 4 (Int32.toNatClampNeg v5_6) 0) v1_6) fun M_7 => (jb (f_X6_allPrices M_7) fun r8 => (jb (f_X6_again M_7) fun M_9 => (if v4_6 ≤ r8 then (f_X6_shut_j93 M_9 (f_X6_shut_l48 v1_6 k_6) v1_6 v4_6 v5_6 r8 v3_6) else (f_X6_shut_j93 M_9 (f_X6_shut_l48 v1_6 k_6) v1_6 v4_6 v5_6 r8 v5_6)))))))
def f_X6_shut (M : jm) (v1 : Int32) : Option (Int32 × jm) := (if 0 ≤ (f_X6_wrongNumber v1 0 60) then (jb (f_X6_think (ju M 16 11 0 0)) fun M_2 => (jb (f_X6_goEvenings M_2 v1) fun M_3 => (jb (f_X6_allPrices M_3) fun r4 => (jb (f_X6_again M_3) fun M_5 => (f_X6_shut_l48 v1 10000 M_5 (-9) r4 0))))) else (jb2 (f_X6_refuse (ju M 16 11 0 0) (f_X6_wrongNumber v1 0 60)) fun r11 M_11 => (some (r11, M_11))))
set_option maxRecDepth 100000 in
theorem m_X6_shut (l : Launch) (X : jX) (A : Nat → Prop) (hs : jst X A) (M : jm) (v1 : Int32) (r : Int32) (N : jm) (h : f_X6_shut M v1 = some (r, N)) : Met l yX6_shut (jws yX6_shut cX6_shut 7 (some .int)) (jrm 6 136) (va_Pc [.ref (jO X 16), .int v1] (jB X M)) (jQm X A (some (.int r)) N) 0 0 A := by
  refine jm_of (by decide) (Nat.le_of_ble_eq_true rfl) ?_
  intro p e s m args below meth c ls S hr hlocks hB hl
  have S : CallFix p m c cX6_shut 7 s args jtb RX6 := S
  obtain ⟨hx, hb, hml, hown, hts⟩ := id S
  obtain ⟨hP, hK⟩ := hB
  have hN := hK.2
  have hS : va_S A s.heap s.heap [] := va_S.rf
  have hl : lv_has ls 7 [(0, .ref (jO X 16)), (1, .int v1)] := hl
  refine lv_aload_n hx hb dX6_shut_0 rfl (lv_at hl 0 rfl) ?_
  refine lv_iconst (v := 0) hx hb dX6_shut_1 jci_0 ?_
  refine jr_put (k := 11) (z := 0) hx hb hts hown hK hP hs hS jb_16 (Nat.le_of_ble_eq_true rfl) jlX6_79 rfl (Or.inl rfl) rfl rfl rfl dX6_shut_2 (fun H locs hP hS => ?_)
  refine lv_iload_n hx hb dX6_shut_5 rfl (lv_at hl 1 rfl) ?_
  refine lv_iconst (v := 0) hx hb dX6_shut_6 jci_0 ?_
  refine lv_bipush (v := 60) hx hb dX6_shut_7 jcb_60 ?_
  refine jr_kp (jr_rs (As := [.int v1, .int 0, .int 60]) (rest := []) S hN (m_X6_wrongNumber l v1 0 60 _ rfl) jw_X6_wrongNumber js_X6_wrongNumber jmX6_240 rfl rfl ⟨(Nat.le_of_ble_eq_true rfl), (Nat.le_of_ble_eq_true rfl)⟩ rfl hl.1 rfl (Nat.le_of_ble_eq_true rfl) dX6_shut_9 ⟨Nat.zero_le _, Nat.zero_le _⟩) ?_
  refine lv_istore_n (lv' := [(2, .int (f_X6_wrongNumber v1 0 60)), (0, .ref (jO X 16)), (1, .int v1)]) hx hb dX6_shut_12 rfl hl (Nat.le_of_ble_eq_true rfl) rfl (fun ls hl => ?_)
  refine lv_iload_n hx hb dX6_shut_13 rfl (lv_at hl 0 rfl) ?_
  refine lv_if_ge (tgt := 23) hx hb dX6_shut_14 rfl (fun c14 => ?_) (fun c14 => ?_)
  · replace h := jh_t h c14
    refine lv_bipush (v := (-9)) hx hb dX6_shut_23 jcb_m9 ?_
    refine lv_istore_n (lv' := [(3, .int (-9)), (2, .int (f_X6_wrongNumber v1 0 60)), (0, .ref (jO X 16)), (1, .int v1)]) hx hb dX6_shut_25 rfl hl (Nat.le_of_ble_eq_true rfl) rfl (fun ls hl => ?_)
    refine lv_aload_n hx hb dX6_shut_26 rfl (lv_at hl 2 rfl) ?_
    obtain ⟨M_2, e2, h⟩ := jh_b h
    refine jr_kv (jr_rv (As := []) (rest := []) S hK hP jb_16 rfl (m_X6_think l X A hs (ju M 16 11 0 0)  M_2 e2) jw_X6_think ji_X6_think jmX6_196 rfl rfl ⟨(Nat.le_of_ble_eq_true rfl), (Nat.le_of_ble_eq_true rfl)⟩ rfl hl.1 rfl (Nat.le_of_ble_eq_true rfl) dX6_shut_27 ⟨Nat.zero_le _, Nat.zero_le _⟩) hS (fun H locs hP hS => ?_)
    refine lv_aload_n hx hb dX6_shut_30 rfl (lv_at hl 2 rfl) ?_
    refine lv_iload_n hx hb dX6_shut_31 rfl (lv_at hl 3 rfl) ?_
    obtain ⟨M_3, e3, h⟩ := jh_b h
    refine jr_kv (jr_rv (As := [.int v1]) (rest := []) S hK hP jb_16 rfl (m_X6_goEvenings l X A hs M_2 v1 M_3 e3) jw_X6_goEvenings ji_X6_goEvenings jmX6_189 rfl rfl ⟨(Nat.le_of_ble_eq_true rfl), (Nat.le_of_ble_eq_true rfl)⟩ rfl hl.1 rfl (Nat.le_of_ble_eq_true rfl) dX6_shut_32 ⟨Nat.zero_le _, Nat.zero_le _⟩) hS (fun H locs hP hS => ?_)
    refine lv_aload_n hx hb dX6_shut_35 rfl (lv_at hl 2 rfl) ?_
    obtain ⟨r4, e4, h⟩ := jh_b h
    refine jr_kp (jr_rv (As := []) (rest := []) S hK hP jb_16 rfl (m_X6_allPrices l X M_3  r4 e4) jw_X6_allPrices ji_X6_allPrices jmX6_253 rfl rfl ⟨(Nat.le_of_ble_eq_true rfl), (Nat.le_of_ble_eq_true rfl)⟩ rfl hl.1 rfl (Nat.le_of_ble_eq_true rfl) dX6_shut_36 ⟨Nat.zero_le _, Nat.zero_le _⟩) ?_
    refine lv_istore (lv' := [(4, .int r4), (3, .int (-9)), (2, .int (f_X6_wrongNumber v1 0 60)), (0, .ref (jO X 16)), (1, .int v1)]) hx hb dX6_shut_39 hl (Nat.le_of_ble_eq_true rfl) rfl (fun ls hl => ?_)
    refine lv_aload_n hx hb dX6_shut_41 rfl (lv_at hl 3 rfl) ?_
    obtain ⟨M_5, e5, h⟩ := jh_b h
    refine jr_kv (jr_rv (As := []) (rest := []) S hK hP jb_16 rfl (m_X6_again l X A hs M_3  M_5 e5) jw_X6_again ji_X6_again jmX6_202 rfl rfl ⟨(Nat.le_of_ble_eq_true rfl), (Nat.le_of_ble_eq_true rfl)⟩ rfl hl.1 rfl (Nat.le_of_ble_eq_true rfl) dX6_shut_42 ⟨Nat.zero_le _, Nat.zero_le _⟩) hS (fun H locs hP hS => ?_)
    refine lv_iconst (v := 0) hx hb dX6_shut_45 jci_0 ?_
    refine lv_istore (lv' := [(5, .int 0), (4, .int r4), (3, .int (-9)), (2, .int (f_X6_wrongNumber v1 0 60)), (0, .ref (jO X 16)), (1, .int v1)]) hx hb dX6_shut_46 hl (Nat.le_of_ble_eq_true rfl) rfl (fun ls hl => ?_)
    have L48 : ∀ (v1_6 : Int32) (k_6 : Nat) (M_6 : jm) (H : Heap) (locs : List Loc) (v3_6 : Int32) (v4_6 : Int32) (v5_6 : Int32) (ls : Array Slot), f_X6_shut_l48 v1_6 k_6 M_6 v3_6 v4_6 v5_6 = some (r, N) → jrp X M_6 H → va_S A s.heap H locs → lv_has ls 7 [(0, .ref (jO X 16)), (1, .int v1_6), (3, .int v3_6), (4, .int v4_6), (5, .int v5_6)] → W p l e (jrm 6 136) s m args below meth c H locs 0 0 (MQ below (jQm X A (some (.int r)) N) args s 0 0 A) (F0 m 48 ls []) := by
      intro v1_6 k_6
      induction k_6 with
      | zero => intro M_6 H locs v3_6 v4_6 v5_6 ls h; exact jh_0 h
      | succ k_6 ih48 =>
        intro M_6 H locs v3_6 v4_6 v5_6 ls h hP hS hl
        refine lv_iload hx hb dX6_shut_48 (lv_at hl 4 rfl) ?_
        refine lv_aload_n hx hb dX6_shut_50 rfl (lv_at hl 0 rfl) ?_
        refine jr_get (k := 0) hx hb hts hown hK hP jb_16 (Nat.le_of_ble_eq_true rfl) jlX6_89 rfl dX6_shut_51 ?_
        refine lv_icmp_ge (tgt := 116) hx hb dX6_shut_54 rfl (fun c54 => ?_) (fun c54 => ?_)
        · replace h := jh_t h c54
          refine lv_iload_n hx hb dX6_shut_116 rfl (lv_at hl 2 rfl) ?_
          exact je_mi hx hb hr hlocks hK hP hS h dX6_shut_117
        · replace h := jh_f h c54
          refine lv_aload_n hx hb dX6_shut_57 rfl (lv_at hl 0 rfl) ?_
          refine jr_get (k := 4) hx hb hts hown hK hP jb_16 (Nat.le_of_ble_eq_true rfl) jlX6_19 rfl dX6_shut_58 ?_
          refine lv_iload hx hb dX6_shut_61 (lv_at hl 4 rfl) ?_
          refine lv_iconst (v := 0) hx hb dX6_shut_63 jci_0 ?_
          obtain ⟨g64, h⟩ := jh_gd h
          refine jr_ast (n := 8) hx hb hK hP hs hS jb_16 rfl g64 dX6_shut_64 (fun H locs hP hS => ?_)
          refine lv_aload_n hx hb dX6_shut_65 rfl (lv_at hl 0 rfl) ?_
          refine lv_iload_n hx hb dX6_shut_66 rfl (lv_at hl 1 rfl) ?_
          obtain ⟨M_7, e7, h⟩ := jh_b h
          refine jr_kv (jr_rv (As := [.int v1_6]) (rest := []) S hK hP jb_16 rfl (m_X6_goEvenings l X A hs (ju M_6 16 4 (Int32.toNatClampNeg v5_6) 0) v1_6 M_7 e7) jw_X6_goEvenings ji_X6_goEvenings jmX6_189 rfl rfl ⟨(Nat.le_of_ble_eq_true rfl), (Nat.le_of_ble_eq_true rfl)⟩ rfl hl.1 rfl (Nat.le_of_ble_eq_true rfl) dX6_shut_67 ⟨Nat.zero_le _, Nat.zero_le _⟩) hS (fun H locs hP hS => ?_)
          refine lv_aload_n hx hb dX6_shut_70 rfl (lv_at hl 0 rfl) ?_
          obtain ⟨r8, e8, h⟩ := jh_b h
          refine jr_kp (jr_rv (As := []) (rest := []) S hK hP jb_16 rfl (m_X6_allPrices l X M_7  r8 e8) jw_X6_allPrices ji_X6_allPrices jmX6_253 rfl rfl ⟨(Nat.le_of_ble_eq_true rfl), (Nat.le_of_ble_eq_true rfl)⟩ rfl hl.1 rfl (Nat.le_of_ble_eq_true rfl) dX6_shut_71 ⟨Nat.zero_le _, Nat.zero_le _⟩) ?_
          refine lv_istore (lv' := [(6, .int r8), (0, .ref (jO X 16)), (1, .int v1_6), (3, .int v3_6), (4, .int v4_6), (5, .int v5_6)]) hx hb dX6_shut_74 hl (Nat.le_of_ble_eq_true rfl) rfl (fun ls hl => ?_)
          refine lv_aload_n hx hb dX6_shut_76 rfl (lv_at hl 1 rfl) ?_
          obtain ⟨M_9, e9, h⟩ := jh_b h
          refine jr_kv (jr_rv (As := []) (rest := []) S hK hP jb_16 rfl (m_X6_again l X A hs M_7  M_9 e9) jw_X6_again ji_X6_again jmX6_202 rfl rfl ⟨(Nat.le_of_ble_eq_true rfl), (Nat.le_of_ble_eq_true rfl)⟩ rfl hl.1 rfl (Nat.le_of_ble_eq_true rfl) dX6_shut_77 ⟨Nat.zero_le _, Nat.zero_le _⟩) hS (fun H locs hP hS => ?_)
          refine lv_iload hx hb dX6_shut_80 (lv_at hl 0 rfl) ?_
          refine lv_iload hx hb dX6_shut_82 (lv_at hl 4 rfl) ?_
          have J93 : ∀ (M_10 : jm) (H : Heap) (locs : List Loc) (v4_10 : Int32) (v5_10 : Int32) (v6_10 : Int32) (t0_10 : Int32) (ls : Array Slot), f_X6_shut_j93 M_10 (f_X6_shut_l48 v1_6 k_6) v1_6 v4_10 v5_10 v6_10 t0_10 = some (r, N) → jrp X M_10 H → va_S A s.heap H locs → lv_has ls 7 [(0, .ref (jO X 16)), (1, .int v1_6), (4, .int v4_10), (5, .int v5_10), (6, .int v6_10)] → W p l e (jrm 6 136) s m args below meth c H locs 0 0 (MQ below (jQm X A (some (.int r)) N) args s 0 0 A) (F0 m 93 ls [.int t0_10]) := by
            intro M_10 H locs v4_10 v5_10 v6_10 t0_10 ls h hP hS hl
            refine lv_istore_n (lv' := [(3, .int t0_10), (0, .ref (jO X 16)), (1, .int v1_6), (4, .int v4_10), (5, .int v5_10), (6, .int v6_10)]) hx hb dX6_shut_93 rfl hl (Nat.le_of_ble_eq_true rfl) rfl (fun ls hl => ?_)
            refine lv_iload hx hb dX6_shut_94 (lv_at hl 5 rfl) ?_
            refine lv_iload hx hb dX6_shut_96 (lv_at hl 3 rfl) ?_
            refine lv_icmp_ge (tgt := 106) hx hb dX6_shut_98 rfl (fun c98 => ?_) (fun c98 => ?_)
            · replace h := jh_t h c98
              refine lv_iload hx hb dX6_shut_106 (lv_at hl 3 rfl) ?_
              refine lv_istore (lv' := [(4, .int v4_10), (3, .int t0_10), (0, .ref (jO X 16)), (1, .int v1_6), (5, .int v5_10), (6, .int v6_10)]) hx hb dX6_shut_108 hl (Nat.le_of_ble_eq_true rfl) rfl (fun ls hl => ?_)
              refine lv_iinc (v := (v5_10 + 1)) (lv' := [(5, .int (v5_10 + 1)), (4, .int v4_10), (3, .int t0_10), (0, .ref (jO X 16)), (1, .int v1_6), (6, .int v6_10)]) hx hb dX6_shut_110 hl (k := 4) rfl (congrArg _ jci_1) (Nat.le_of_ble_eq_true rfl) rfl (fun ls hl => ?_)
              refine lv_goto (tgt := 48) hx hb dX6_shut_113 rfl ?_
              exact ih48 M_10 _ _ t0_10 v4_10 (v5_10 + 1) _ h hP hS (lv_sub hl [3, 4, 2, 1, 0] rfl)
            · replace h := jh_f h c98
              refine lv_iload hx hb dX6_shut_101 (lv_at hl 5 rfl) ?_
              refine lv_goto (tgt := 108) hx hb dX6_shut_103 rfl ?_
              refine lv_istore (lv' := [(4, .int v6_10), (3, .int t0_10), (0, .ref (jO X 16)), (1, .int v1_6), (5, .int v5_10), (6, .int v6_10)]) hx hb dX6_shut_108 hl (Nat.le_of_ble_eq_true rfl) rfl (fun ls hl => ?_)
              refine lv_iinc (v := (v5_10 + 1)) (lv' := [(5, .int (v5_10 + 1)), (4, .int v6_10), (3, .int t0_10), (0, .ref (jO X 16)), (1, .int v1_6), (6, .int v6_10)]) hx hb dX6_shut_110 hl (k := 4) rfl (congrArg _ jci_1) (Nat.le_of_ble_eq_true rfl) rfl (fun ls hl => ?_)
              refine lv_goto (tgt := 48) hx hb dX6_shut_113 rfl ?_
              exact ih48 M_10 _ _ t0_10 v6_10 (v5_10 + 1) _ h hP hS (lv_sub hl [3, 4, 2, 1, 0] rfl)
          refine lv_icmp_ge (tgt := 92) hx hb dX6_shut_84 rfl (fun c84 => ?_) (fun c84 => ?_)
          · replace h := jh_t h c84
            refine lv_iload_n hx hb dX6_shut_92 rfl (lv_at hl 3 rfl) ?_
            exact J93 M_9 _ _ v4_6 v5_6 r8 v3_6 _ h hP hS (lv_sub hl [1, 2, 4, 5, 0] rfl)
          · replace h := jh_f h c84
            refine lv_iload hx hb dX6_shut_87 (lv_at hl 5 rfl) ?_
            refine lv_goto (tgt := 93) hx hb dX6_shut_89 rfl ?_
            exact J93 M_9 _ _ v4_6 v5_6 r8 v5_6 _ h hP hS (lv_sub hl [1, 2, 4, 5, 0] rfl)
    exact L48 v1 10000 M_5 _ _ (-9) r4 0 _ h hP hS (lv_sub hl [4, 5, 2, 1, 0] rfl)
  · replace h := jh_f h c14
    refine lv_aload_n hx hb dX6_shut_17 rfl (lv_at hl 1 rfl) ?_
    refine lv_iload_n hx hb dX6_shut_18 rfl (lv_at hl 0 rfl) ?_
    obtain ⟨r11, M_11, e11, h⟩ := jh_b2 h
    refine jr_km (jr_rv (As := [.int (f_X6_wrongNumber v1 0 60)]) (rest := []) S hK hP jb_16 rfl (m_X6_refuse l X A hs (ju M 16 11 0 0) (f_X6_wrongNumber v1 0 60) r11 M_11 e11) jw_X6_refuse ji_X6_refuse jmX6_143 rfl rfl ⟨(Nat.le_of_ble_eq_true rfl), (Nat.le_of_ble_eq_true rfl)⟩ rfl hl.1 rfl (Nat.le_of_ble_eq_true rfl) dX6_shut_19 ⟨Nat.zero_le _, Nat.zero_le _⟩) hS (fun H locs hP hS => ?_)
    exact je_mi hx hb hr hlocks hK hP hS h dX6_shut_22
def f_X6_heavyPrices_l4 (M : jm) : Nat → Int32 → Int32 → Option Int32
  | 0, _, _ => none
  | k_1 + 1, v1_1, v2_1 => (if (M 16 5 0) ≤ v2_1 then (some v1_1) else (jb (f_X6_priceOf M v2_1) fun r2 => (if r2 ≤ 30 then ((f_X6_heavyPrices_l4 M k_1) (v1_1 + r2) (v2_1 + 1)) else ((f_X6_heavyPrices_l4 M k_1) (v1_1 + (2 * r2)) (v2_1 + 1)))))
def f_X6_heavyPrices (M : jm) : Option Int32 := (f_X6_heavyPrices_l4 M 10000 0 0)
set_option maxRecDepth 100000 in
theorem m_X6_heavyPrices (l : Launch) (X : jX) (M : jm) (r : Int32) (h : f_X6_heavyPrices M = some r) : Met l yX6_heavyPrices (jws yX6_heavyPrices cX6_heavyPrices 4 (some .int)) (jrm 2 47) (va_Pc [.ref (jO X 16)] (jB X M)) (jQ (.int r)) 0 0 (fun _ => False) := by
  refine jm_of (by decide) (Nat.le_of_ble_eq_true rfl) ?_
  intro p e s m args below meth c ls S hr hlocks hB hl
  have S : CallFix p m c cX6_heavyPrices 4 s args jtb RX6 := S
  obtain ⟨hx, hb, hml, hown, hts⟩ := id S
  obtain ⟨hP, hK⟩ := hB
  have hN := hK.2
  have hl : lv_has ls 4 [(0, .ref (jO X 16))] := hl
  refine lv_iconst (v := 0) hx hb dX6_heavyPrices_0 jci_0 ?_
  refine lv_istore_n (lv' := [(1, .int 0), (0, .ref (jO X 16))]) hx hb dX6_heavyPrices_1 rfl hl (Nat.le_of_ble_eq_true rfl) rfl (fun ls hl => ?_)
  refine lv_iconst (v := 0) hx hb dX6_heavyPrices_2 jci_0 ?_
  refine lv_istore_n (lv' := [(2, .int 0), (1, .int 0), (0, .ref (jO X 16))]) hx hb dX6_heavyPrices_3 rfl hl (Nat.le_of_ble_eq_true rfl) rfl (fun ls hl => ?_)
  have L4 : ∀ (k_1 : Nat) (v1_1 : Int32) (v2_1 : Int32) (ls : Array Slot), f_X6_heavyPrices_l4 M k_1 v1_1 v2_1 = some r → lv_has ls 4 [(0, .ref (jO X 16)), (1, .int v1_1), (2, .int v2_1)] → W p l e (jrm 2 47) s m args below meth c s.heap [] 0 0 (MQ below (jQ (.int r)) args s 0 0 (fun _ => False)) (F0 m 4 ls []) := by
    intro k_1
    induction k_1 with
    | zero => intro v1_1 v2_1 ls h; exact jh_0 h
    | succ k_1 ih4 =>
      intro v1_1 v2_1 ls h hl
      refine lv_iload_n hx hb dX6_heavyPrices_4 rfl (lv_at hl 2 rfl) ?_
      refine lv_aload_n hx hb dX6_heavyPrices_5 rfl (lv_at hl 0 rfl) ?_
      refine jr_get (k := 5) hx hb hts hown hK hP jb_16 (Nat.le_of_ble_eq_true rfl) jlX6_92 rfl dX6_heavyPrices_6 ?_
      refine lv_icmp_ge (tgt := 40) hx hb dX6_heavyPrices_9 rfl (fun c9 => ?_) (fun c9 => ?_)
      · replace h := jh_t h c9
        refine lv_iload_n hx hb dX6_heavyPrices_40 rfl (lv_at hl 1 rfl) ?_
        exact je_i hx hb hr hlocks (Option.some.inj h) dX6_heavyPrices_41
      · replace h := jh_f h c9
        refine lv_aload_n hx hb dX6_heavyPrices_12 rfl (lv_at hl 0 rfl) ?_
        refine lv_iload_n hx hb dX6_heavyPrices_13 rfl (lv_at hl 2 rfl) ?_
        obtain ⟨r2, e2, h⟩ := jh_b h
        refine jr_kp (jr_rv (As := [.int v2_1]) (rest := []) S hK hP jb_16 rfl (m_X6_priceOf l X M v2_1 r2 e2) jw_X6_priceOf ji_X6_priceOf jmX6_113 rfl rfl ⟨(Nat.le_of_ble_eq_true rfl), (Nat.le_of_ble_eq_true rfl)⟩ rfl hl.1 rfl (Nat.le_of_ble_eq_true rfl) dX6_heavyPrices_14 ⟨Nat.zero_le _, Nat.zero_le _⟩) ?_
        refine lv_istore_n (lv' := [(3, .int r2), (0, .ref (jO X 16)), (1, .int v1_1), (2, .int v2_1)]) hx hb dX6_heavyPrices_17 rfl hl (Nat.le_of_ble_eq_true rfl) rfl (fun ls hl => ?_)
        refine lv_iload_n hx hb dX6_heavyPrices_18 rfl (lv_at hl 2 rfl) ?_
        refine lv_iload_n hx hb dX6_heavyPrices_19 rfl (lv_at hl 0 rfl) ?_
        refine lv_bipush (v := 30) hx hb dX6_heavyPrices_20 jcb_30 ?_
        refine lv_icmp_le (tgt := 31) hx hb dX6_heavyPrices_22 rfl (fun c22 => ?_) (fun c22 => ?_)
        · replace h := jh_t h c22
          refine lv_iload_n hx hb dX6_heavyPrices_31 rfl (lv_at hl 0 rfl) ?_
          refine lv_iadd hx hb dX6_heavyPrices_32 ?_
          refine lv_istore_n (lv' := [(1, .int (v1_1 + r2)), (3, .int r2), (0, .ref (jO X 16)), (2, .int v2_1)]) hx hb dX6_heavyPrices_33 rfl hl (Nat.le_of_ble_eq_true rfl) rfl (fun ls hl => ?_)
          refine lv_iinc (v := (v2_1 + 1)) (lv' := [(2, .int (v2_1 + 1)), (1, .int (v1_1 + r2)), (3, .int r2), (0, .ref (jO X 16))]) hx hb dX6_heavyPrices_34 hl (k := 3) rfl (congrArg _ jci_1) (Nat.le_of_ble_eq_true rfl) rfl (fun ls hl => ?_)
          refine lv_goto (tgt := 4) hx hb dX6_heavyPrices_37 rfl ?_
          exact ih4 (v1_1 + r2) (v2_1 + 1) _ h (lv_sub hl [3, 1, 0] rfl)
        · replace h := jh_f h c22
          refine lv_iconst (v := 2) hx hb dX6_heavyPrices_25 jci_2 ?_
          refine lv_iload_n hx hb dX6_heavyPrices_26 rfl (lv_at hl 0 rfl) ?_
          refine lv_imul hx hb dX6_heavyPrices_27 ?_
          refine lv_goto (tgt := 32) hx hb dX6_heavyPrices_28 rfl ?_
          refine lv_iadd hx hb dX6_heavyPrices_32 ?_
          refine lv_istore_n (lv' := [(1, .int (v1_1 + (2 * r2))), (3, .int r2), (0, .ref (jO X 16)), (2, .int v2_1)]) hx hb dX6_heavyPrices_33 rfl hl (Nat.le_of_ble_eq_true rfl) rfl (fun ls hl => ?_)
          refine lv_iinc (v := (v2_1 + 1)) (lv' := [(2, .int (v2_1 + 1)), (1, .int (v1_1 + (2 * r2))), (3, .int r2), (0, .ref (jO X 16))]) hx hb dX6_heavyPrices_34 hl (k := 3) rfl (congrArg _ jci_1) (Nat.le_of_ble_eq_true rfl) rfl (fun ls hl => ?_)
          refine lv_goto (tgt := 4) hx hb dX6_heavyPrices_37 rfl ?_
          exact ih4 (v1_1 + (2 * r2)) (v2_1 + 1) _ h (lv_sub hl [3, 1, 0] rfl)
  exact L4 10000 0 0 _ h (lv_sub hl [2, 1, 0] rfl)
def f_X6_trade_j147 (M_8 : jm) (K64_8 : jm → Int32 → Int32 → Int32 → Option (Int32 × jm)) (v1_5 : Int32) (v2_5 : Int32) (v5_8 : Int32) (v6_8 : Int32) (v7_8 : Int32) (t0_8 : Int32) : Option (Int32 × jm) := (if v5_8 ≤ v7_8 then (K64_8 M_8 t0_8 v5_8 (v6_8 + 1)) else (K64_8 M_8 t0_8 v7_8 (v6_8 + 1)))
def f_X6_trade_l64 (v1_5 : Int32) (v2_5 : Int32) : Nat → jm → Int32 → Int32 → Int32 → Option (Int32 × jm)
  | 0, _, _, _, _ => none
  | k_5 + 1, M_5, v4_5, v5_5, v6_5 => (if (M_5 16 5 0) ≤ v6_5 then (some (v4_5, M_5)) else (jgd ((7 * v6_5) + v2_5) 42 (if (M_5 16 9 (Int32.toNatClampNeg ((7 * v6_5) + v2_5))) = 0 then (jgd ((7 * v1_5) + v2_5) 42 (jgd ((7 * v6_5) + v2_5) 42 (jgd ((7 * v1_5) + v2_5) 42 (jb (f_X6_heavyPrices (ju (ju M_5 16 9 (Int32.toNatClampNeg ((7 * v6_5) + v2_5)) (M_5 16 9 (Int32.toNatClampNeg ((7 * v1_5) + v2_5)))) 16 9 (Int32.toNatClampNeg ((7 * v1_5) + v2_5)) 0)) fun r6 => (jb (f_X6_again (ju (ju M_5 16 9 (Int32.toNatClampNeg ((7 * v6_5) + v2_5)) (M_5 16 9 (Int32.toNatClampNeg ((7 * v1_5) + v2_5)))) 16 9 (Int32.toNatClampNeg ((7 * v1_5) + v2_5)) 0)) fun M_7 => (if v5_5 ≤ r6 then (f_X6_trade_j147 M_7 (f_X6_trade_l64 v1_5 v2_5 k_5) v1_5 v2_5 v5_5 v6_5 r6 v4_5) else (f_X6_trade_j147 M_7 (f_X6_trade_l64 v1_5 v2_5 k_5) v1_5 v2_5 v5_5 v6_5 r6 v6_5))))))) else ((f_X6_trade_l64 v1_5 v2_5 k_5) M_5 v4_5 v5_5 (v6_5 + 1)))))
def f_X6_trade_j36 (M_2 : jm) (v1_2 : Int32) (v2_2 : Int32) (t0_2 : Int32) : Option (Int32 × jm) := (if 0 ≤ t0_2 then (jb (f_X6_heavyPrices M_2) fun r3 => (jb (f_X6_think M_2) fun M_4 => (f_X6_trade_l64 v1_2 v2_2 10000 M_4 (-9) r3 0))) else (jb2 (f_X6_refuse M_2 t0_2) fun r9 M_9 => (some (r9, M_9))))
def f_X6_trade_j35 (M_10 : jm) (v1_10 : Int32) (v2_10 : Int32) (v3_10 : Int32) : Option (Int32 × jm) := (f_X6_trade_j36 M_10 v1_10 v2_10 v3_10)
def f_X6_trade (M : jm) (v1 : Int32) (v2 : Int32) : Option (Int32 × jm) := (if (f_X6_wrongBoth (ju M 16 11 0 0) v1 v2) = 0 then (jgd ((7 * v1) + v2) 42 (if ((ju M 16 11 0 0) 16 9 (Int32.toNatClampNeg ((7 * v1) + v2))) = 0 then (f_X6_trade_j36 (ju M 16 11 0 0) v1 v2 (-3)) else (f_X6_trade_j35 (ju M 16 11 0 0) v1 v2 (f_X6_wrongBoth (ju M 16 11 0 0) v1 v2)))) else (f_X6_trade_j35 (ju M 16 11 0 0) v1 v2 (f_X6_wrongBoth (ju M 16 11 0 0) v1 v2)))
set_option maxRecDepth 100000 in
theorem m_X6_trade (l : Launch) (X : jX) (A : Nat → Prop) (hs : jst X A) (M : jm) (v1 : Int32) (v2 : Int32) (r : Int32) (N : jm) (h : f_X6_trade M v1 v2 = some (r, N)) : Met l yX6_trade (jws yX6_trade cX6_trade 8 (some .int)) (jrm 3 70) (va_Pc [.ref (jO X 16), .int v1, .int v2] (jB X M)) (jQm X A (some (.int r)) N) 0 0 A := by
  refine jm_of (by decide) (Nat.le_of_ble_eq_true rfl) ?_
  intro p e s m args below meth c ls S hr hlocks hB hl
  have S : CallFix p m c cX6_trade 8 s args jtb RX6 := S
  obtain ⟨hx, hb, hml, hown, hts⟩ := id S
  obtain ⟨hP, hK⟩ := hB
  have hN := hK.2
  have hS : va_S A s.heap s.heap [] := va_S.rf
  have hl : lv_has ls 8 [(0, .ref (jO X 16)), (1, .int v1), (2, .int v2)] := hl
  refine lv_aload_n hx hb dX6_trade_0 rfl (lv_at hl 0 rfl) ?_
  refine lv_iconst (v := 0) hx hb dX6_trade_1 jci_0 ?_
  refine jr_put (k := 11) (z := 0) hx hb hts hown hK hP hs hS jb_16 (Nat.le_of_ble_eq_true rfl) jlX6_79 rfl (Or.inl rfl) rfl rfl rfl dX6_trade_2 (fun H locs hP hS => ?_)
  refine lv_aload_n hx hb dX6_trade_5 rfl (lv_at hl 0 rfl) ?_
  refine lv_iload_n hx hb dX6_trade_6 rfl (lv_at hl 1 rfl) ?_
  refine lv_iload_n hx hb dX6_trade_7 rfl (lv_at hl 2 rfl) ?_
  refine jr_kp (jr_rv (As := [.int v1, .int v2]) (rest := []) S hK hP jb_16 rfl (m_X6_wrongBoth l X (ju M 16 11 0 0) v1 v2 _ rfl) jw_X6_wrongBoth ji_X6_wrongBoth jmX6_237 rfl rfl ⟨(Nat.le_of_ble_eq_true rfl), (Nat.le_of_ble_eq_true rfl)⟩ rfl hl.1 rfl (Nat.le_of_ble_eq_true rfl) dX6_trade_8 ⟨Nat.zero_le _, Nat.zero_le _⟩) ?_
  refine lv_istore_n (lv' := [(3, .int (f_X6_wrongBoth (ju M 16 11 0 0) v1 v2)), (0, .ref (jO X 16)), (1, .int v1), (2, .int v2)]) hx hb dX6_trade_11 rfl hl (Nat.le_of_ble_eq_true rfl) rfl (fun ls hl => ?_)
  refine lv_iload_n hx hb dX6_trade_12 rfl (lv_at hl 0 rfl) ?_
  have J36 : ∀ (M_2 : jm) (H : Heap) (locs : List Loc) (v1_2 : Int32) (v2_2 : Int32) (t0_2 : Int32) (ls : Array Slot), f_X6_trade_j36 M_2 v1_2 v2_2 t0_2 = some (r, N) → jrp X M_2 H → va_S A s.heap H locs → lv_has ls 8 [(0, .ref (jO X 16)), (1, .int v1_2), (2, .int v2_2)] → W p l e (jrm 3 70) s m args below meth c H locs 0 0 (MQ below (jQm X A (some (.int r)) N) args s 0 0 A) (F0 m 36 ls [.int t0_2]) := by
    intro M_2 H locs v1_2 v2_2 t0_2 ls h hP hS hl
    refine lv_istore_n (lv' := [(3, .int t0_2), (0, .ref (jO X 16)), (1, .int v1_2), (2, .int v2_2)]) hx hb dX6_trade_36 rfl hl (Nat.le_of_ble_eq_true rfl) rfl (fun ls hl => ?_)
    refine lv_iload_n hx hb dX6_trade_37 rfl (lv_at hl 0 rfl) ?_
    refine lv_if_ge (tgt := 47) hx hb dX6_trade_38 rfl (fun c38 => ?_) (fun c38 => ?_)
    · replace h := jh_t h c38
      refine lv_bipush (v := (-9)) hx hb dX6_trade_47 jcb_m9 ?_
      refine lv_istore (lv' := [(4, .int (-9)), (3, .int t0_2), (0, .ref (jO X 16)), (1, .int v1_2), (2, .int v2_2)]) hx hb dX6_trade_49 hl (Nat.le_of_ble_eq_true rfl) rfl (fun ls hl => ?_)
      refine lv_aload_n hx hb dX6_trade_51 rfl (lv_at hl 2 rfl) ?_
      obtain ⟨r3, e3, h⟩ := jh_b h
      refine jr_kp (jr_rv (As := []) (rest := []) S hK hP jb_16 rfl (m_X6_heavyPrices l X M_2  r3 e3) jw_X6_heavyPrices ji_X6_heavyPrices jmX6_272 rfl rfl ⟨(Nat.le_of_ble_eq_true rfl), (Nat.le_of_ble_eq_true rfl)⟩ rfl hl.1 rfl (Nat.le_of_ble_eq_true rfl) dX6_trade_52 ⟨Nat.zero_le _, Nat.zero_le _⟩) ?_
      refine lv_istore (lv' := [(5, .int r3), (4, .int (-9)), (3, .int t0_2), (0, .ref (jO X 16)), (1, .int v1_2), (2, .int v2_2)]) hx hb dX6_trade_55 hl (Nat.le_of_ble_eq_true rfl) rfl (fun ls hl => ?_)
      refine lv_aload_n hx hb dX6_trade_57 rfl (lv_at hl 3 rfl) ?_
      obtain ⟨M_4, e4, h⟩ := jh_b h
      refine jr_kv (jr_rv (As := []) (rest := []) S hK hP jb_16 rfl (m_X6_think l X A hs M_2  M_4 e4) jw_X6_think ji_X6_think jmX6_196 rfl rfl ⟨(Nat.le_of_ble_eq_true rfl), (Nat.le_of_ble_eq_true rfl)⟩ rfl hl.1 rfl (Nat.le_of_ble_eq_true rfl) dX6_trade_58 ⟨Nat.zero_le _, Nat.zero_le _⟩) hS (fun H locs hP hS => ?_)
      refine lv_iconst (v := 0) hx hb dX6_trade_61 jci_0 ?_
      refine lv_istore (lv' := [(6, .int 0), (5, .int r3), (4, .int (-9)), (3, .int t0_2), (0, .ref (jO X 16)), (1, .int v1_2), (2, .int v2_2)]) hx hb dX6_trade_62 hl (Nat.le_of_ble_eq_true rfl) rfl (fun ls hl => ?_)
      have L64 : ∀ (v1_5 : Int32) (v2_5 : Int32) (k_5 : Nat) (M_5 : jm) (H : Heap) (locs : List Loc) (v4_5 : Int32) (v5_5 : Int32) (v6_5 : Int32) (ls : Array Slot), f_X6_trade_l64 v1_5 v2_5 k_5 M_5 v4_5 v5_5 v6_5 = some (r, N) → jrp X M_5 H → va_S A s.heap H locs → lv_has ls 8 [(0, .ref (jO X 16)), (1, .int v1_5), (2, .int v2_5), (4, .int v4_5), (5, .int v5_5), (6, .int v6_5)] → W p l e (jrm 3 70) s m args below meth c H locs 0 0 (MQ below (jQm X A (some (.int r)) N) args s 0 0 A) (F0 m 64 ls []) := by
        intro v1_5 v2_5 k_5
        induction k_5 with
        | zero => intro M_5 H locs v4_5 v5_5 v6_5 ls h; exact jh_0 h
        | succ k_5 ih64 =>
          intro M_5 H locs v4_5 v5_5 v6_5 ls h hP hS hl
          refine lv_iload hx hb dX6_trade_64 (lv_at hl 5 rfl) ?_
          refine lv_aload_n hx hb dX6_trade_66 rfl (lv_at hl 0 rfl) ?_
          refine jr_get (k := 5) hx hb hts hown hK hP jb_16 (Nat.le_of_ble_eq_true rfl) jlX6_92 rfl dX6_trade_67 ?_
          refine lv_icmp_ge (tgt := 171) hx hb dX6_trade_70 rfl (fun c70 => ?_) (fun c70 => ?_)
          · replace h := jh_t h c70
            refine lv_iload hx hb dX6_trade_171 (lv_at hl 3 rfl) ?_
            exact je_mi hx hb hr hlocks hK hP hS h dX6_trade_173
          · replace h := jh_f h c70
            refine lv_aload_n hx hb dX6_trade_73 rfl (lv_at hl 0 rfl) ?_
            refine jr_get (k := 9) hx hb hts hown hK hP jb_16 (Nat.le_of_ble_eq_true rfl) jlX6_31 rfl dX6_trade_74 ?_
            refine lv_bipush (v := 7) hx hb dX6_trade_77 jcb_7 ?_
            refine lv_iload hx hb dX6_trade_79 (lv_at hl 5 rfl) ?_
            refine lv_imul hx hb dX6_trade_81 ?_
            refine lv_iload_n hx hb dX6_trade_82 rfl (lv_at hl 2 rfl) ?_
            refine lv_iadd hx hb dX6_trade_83 ?_
            obtain ⟨g84, h⟩ := jh_gd h
            refine jr_ald (n := 42) hx hb hK hP jb_16 rfl g84 dX6_trade_84 ?_
            refine lv_if_ne (tgt := 165) hx hb dX6_trade_85 rfl (fun c85 => ?_) (fun c85 => ?_)
            · replace h := jh_f h c85
              refine lv_iinc (v := (v6_5 + 1)) (lv' := [(6, .int (v6_5 + 1)), (0, .ref (jO X 16)), (1, .int v1_5), (2, .int v2_5), (4, .int v4_5), (5, .int v5_5)]) hx hb dX6_trade_165 hl (k := 5) rfl (congrArg _ jci_1) (Nat.le_of_ble_eq_true rfl) rfl (fun ls hl => ?_)
              refine lv_goto (tgt := 64) hx hb dX6_trade_168 rfl ?_
              exact ih64 M_5 _ _ v4_5 v5_5 (v6_5 + 1) _ h hP hS (lv_sub hl [1, 2, 3, 4, 5, 0] rfl)
            · replace h := jh_t h c85
              refine lv_aload_n hx hb dX6_trade_88 rfl (lv_at hl 0 rfl) ?_
              refine jr_get (k := 9) hx hb hts hown hK hP jb_16 (Nat.le_of_ble_eq_true rfl) jlX6_31 rfl dX6_trade_89 ?_
              refine lv_bipush (v := 7) hx hb dX6_trade_92 jcb_7 ?_
              refine lv_iload hx hb dX6_trade_94 (lv_at hl 5 rfl) ?_
              refine lv_imul hx hb dX6_trade_96 ?_
              refine lv_iload_n hx hb dX6_trade_97 rfl (lv_at hl 2 rfl) ?_
              refine lv_iadd hx hb dX6_trade_98 ?_
              refine lv_aload_n hx hb dX6_trade_99 rfl (lv_at hl 0 rfl) ?_
              refine jr_get (k := 9) hx hb hts hown hK hP jb_16 (Nat.le_of_ble_eq_true rfl) jlX6_31 rfl dX6_trade_100 ?_
              refine lv_bipush (v := 7) hx hb dX6_trade_103 jcb_7 ?_
              refine lv_iload_n hx hb dX6_trade_105 rfl (lv_at hl 1 rfl) ?_
              refine lv_imul hx hb dX6_trade_106 ?_
              refine lv_iload_n hx hb dX6_trade_107 rfl (lv_at hl 2 rfl) ?_
              refine lv_iadd hx hb dX6_trade_108 ?_
              obtain ⟨g109, h⟩ := jh_gd h
              refine jr_ald (n := 42) hx hb hK hP jb_16 rfl g109 dX6_trade_109 ?_
              obtain ⟨g110, h⟩ := jh_gd h
              refine jr_ast (n := 42) hx hb hK hP hs hS jb_16 rfl g110 dX6_trade_110 (fun H locs hP hS => ?_)
              refine lv_aload_n hx hb dX6_trade_111 rfl (lv_at hl 0 rfl) ?_
              refine jr_get (k := 9) hx hb hts hown hK hP jb_16 (Nat.le_of_ble_eq_true rfl) jlX6_31 rfl dX6_trade_112 ?_
              refine lv_bipush (v := 7) hx hb dX6_trade_115 jcb_7 ?_
              refine lv_iload_n hx hb dX6_trade_117 rfl (lv_at hl 1 rfl) ?_
              refine lv_imul hx hb dX6_trade_118 ?_
              refine lv_iload_n hx hb dX6_trade_119 rfl (lv_at hl 2 rfl) ?_
              refine lv_iadd hx hb dX6_trade_120 ?_
              refine lv_iconst (v := 0) hx hb dX6_trade_121 jci_0 ?_
              obtain ⟨g122, h⟩ := jh_gd h
              refine jr_ast (n := 42) hx hb hK hP hs hS jb_16 rfl g122 dX6_trade_122 (fun H locs hP hS => ?_)
              refine lv_aload_n hx hb dX6_trade_123 rfl (lv_at hl 0 rfl) ?_
              obtain ⟨r6, e6, h⟩ := jh_b h
              refine jr_kp (jr_rv (As := []) (rest := []) S hK hP jb_16 rfl (m_X6_heavyPrices l X (ju (ju M_5 16 9 (Int32.toNatClampNeg ((7 * v6_5) + v2_5)) (M_5 16 9 (Int32.toNatClampNeg ((7 * v1_5) + v2_5)))) 16 9 (Int32.toNatClampNeg ((7 * v1_5) + v2_5)) 0)  r6 e6) jw_X6_heavyPrices ji_X6_heavyPrices jmX6_272 rfl rfl ⟨(Nat.le_of_ble_eq_true rfl), (Nat.le_of_ble_eq_true rfl)⟩ rfl hl.1 rfl (Nat.le_of_ble_eq_true rfl) dX6_trade_124 ⟨Nat.zero_le _, Nat.zero_le _⟩) ?_
              refine lv_istore (lv' := [(7, .int r6), (0, .ref (jO X 16)), (1, .int v1_5), (2, .int v2_5), (4, .int v4_5), (5, .int v5_5), (6, .int v6_5)]) hx hb dX6_trade_127 hl (Nat.le_of_ble_eq_true rfl) rfl (fun ls hl => ?_)
              refine lv_aload_n hx hb dX6_trade_129 rfl (lv_at hl 1 rfl) ?_
              obtain ⟨M_7, e7, h⟩ := jh_b h
              refine jr_kv (jr_rv (As := []) (rest := []) S hK hP jb_16 rfl (m_X6_again l X A hs (ju (ju M_5 16 9 (Int32.toNatClampNeg ((7 * v6_5) + v2_5)) (M_5 16 9 (Int32.toNatClampNeg ((7 * v1_5) + v2_5)))) 16 9 (Int32.toNatClampNeg ((7 * v1_5) + v2_5)) 0)  M_7 e7) jw_X6_again ji_X6_again jmX6_202 rfl rfl ⟨(Nat.le_of_ble_eq_true rfl), (Nat.le_of_ble_eq_true rfl)⟩ rfl hl.1 rfl (Nat.le_of_ble_eq_true rfl) dX6_trade_130 ⟨Nat.zero_le _, Nat.zero_le _⟩) hS (fun H locs hP hS => ?_)
              refine lv_iload hx hb dX6_trade_133 (lv_at hl 0 rfl) ?_
              refine lv_iload hx hb dX6_trade_135 (lv_at hl 5 rfl) ?_
              have J147 : ∀ (M_8 : jm) (H : Heap) (locs : List Loc) (v5_8 : Int32) (v6_8 : Int32) (v7_8 : Int32) (t0_8 : Int32) (ls : Array Slot), f_X6_trade_j147 M_8 (f_X6_trade_l64 v1_5 v2_5 k_5) v1_5 v2_5 v5_8 v6_8 v7_8 t0_8 = some (r, N) → jrp X M_8 H → va_S A s.heap H locs → lv_has ls 8 [(0, .ref (jO X 16)), (1, .int v1_5), (2, .int v2_5), (5, .int v5_8), (6, .int v6_8), (7, .int v7_8)] → W p l e (jrm 3 70) s m args below meth c H locs 0 0 (MQ below (jQm X A (some (.int r)) N) args s 0 0 A) (F0 m 147 ls [.int t0_8]) := by
                intro M_8 H locs v5_8 v6_8 v7_8 t0_8 ls h hP hS hl
                refine lv_istore (lv' := [(4, .int t0_8), (0, .ref (jO X 16)), (1, .int v1_5), (2, .int v2_5), (5, .int v5_8), (6, .int v6_8), (7, .int v7_8)]) hx hb dX6_trade_147 hl (Nat.le_of_ble_eq_true rfl) rfl (fun ls hl => ?_)
                refine lv_iload hx hb dX6_trade_149 (lv_at hl 6 rfl) ?_
                refine lv_iload hx hb dX6_trade_151 (lv_at hl 4 rfl) ?_
                refine lv_icmp_ge (tgt := 161) hx hb dX6_trade_153 rfl (fun c153 => ?_) (fun c153 => ?_)
                · replace h := jh_t h c153
                  refine lv_iload hx hb dX6_trade_161 (lv_at hl 4 rfl) ?_
                  refine lv_istore (lv' := [(5, .int v5_8), (4, .int t0_8), (0, .ref (jO X 16)), (1, .int v1_5), (2, .int v2_5), (6, .int v6_8), (7, .int v7_8)]) hx hb dX6_trade_163 hl (Nat.le_of_ble_eq_true rfl) rfl (fun ls hl => ?_)
                  refine lv_iinc (v := (v6_8 + 1)) (lv' := [(6, .int (v6_8 + 1)), (5, .int v5_8), (4, .int t0_8), (0, .ref (jO X 16)), (1, .int v1_5), (2, .int v2_5), (7, .int v7_8)]) hx hb dX6_trade_165 hl (k := 5) rfl (congrArg _ jci_1) (Nat.le_of_ble_eq_true rfl) rfl (fun ls hl => ?_)
                  refine lv_goto (tgt := 64) hx hb dX6_trade_168 rfl ?_
                  exact ih64 M_8 _ _ t0_8 v5_8 (v6_8 + 1) _ h hP hS (lv_sub hl [3, 4, 5, 2, 1, 0] rfl)
                · replace h := jh_f h c153
                  refine lv_iload hx hb dX6_trade_156 (lv_at hl 6 rfl) ?_
                  refine lv_goto (tgt := 163) hx hb dX6_trade_158 rfl ?_
                  refine lv_istore (lv' := [(5, .int v7_8), (4, .int t0_8), (0, .ref (jO X 16)), (1, .int v1_5), (2, .int v2_5), (6, .int v6_8), (7, .int v7_8)]) hx hb dX6_trade_163 hl (Nat.le_of_ble_eq_true rfl) rfl (fun ls hl => ?_)
                  refine lv_iinc (v := (v6_8 + 1)) (lv' := [(6, .int (v6_8 + 1)), (5, .int v7_8), (4, .int t0_8), (0, .ref (jO X 16)), (1, .int v1_5), (2, .int v2_5), (7, .int v7_8)]) hx hb dX6_trade_165 hl (k := 5) rfl (congrArg _ jci_1) (Nat.le_of_ble_eq_true rfl) rfl (fun ls hl => ?_)
                  refine lv_goto (tgt := 64) hx hb dX6_trade_168 rfl ?_
                  exact ih64 M_8 _ _ t0_8 v7_8 (v6_8 + 1) _ h hP hS (lv_sub hl [3, 4, 5, 2, 1, 0] rfl)
              refine lv_icmp_ge (tgt := 145) hx hb dX6_trade_137 rfl (fun c137 => ?_) (fun c137 => ?_)
              · replace h := jh_t h c137
                refine lv_iload hx hb dX6_trade_145 (lv_at hl 4 rfl) ?_
                exact J147 M_7 _ _ v5_5 v6_5 r6 v4_5 _ h hP hS (lv_sub hl [1, 2, 3, 5, 6, 0] rfl)
              · replace h := jh_f h c137
                refine lv_iload hx hb dX6_trade_140 (lv_at hl 6 rfl) ?_
                refine lv_goto (tgt := 147) hx hb dX6_trade_142 rfl ?_
                exact J147 M_7 _ _ v5_5 v6_5 r6 v6_5 _ h hP hS (lv_sub hl [1, 2, 3, 5, 6, 0] rfl)
      exact L64 v1_2 v2_2 10000 M_4 _ _ (-9) r3 0 _ h hP hS (lv_sub hl [4, 5, 6, 2, 1, 0] rfl)
    · replace h := jh_f h c38
      refine lv_aload_n hx hb dX6_trade_41 rfl (lv_at hl 1 rfl) ?_
      refine lv_iload_n hx hb dX6_trade_42 rfl (lv_at hl 0 rfl) ?_
      obtain ⟨r9, M_9, e9, h⟩ := jh_b2 h
      refine jr_km (jr_rv (As := [.int t0_2]) (rest := []) S hK hP jb_16 rfl (m_X6_refuse l X A hs M_2 t0_2 r9 M_9 e9) jw_X6_refuse ji_X6_refuse jmX6_143 rfl rfl ⟨(Nat.le_of_ble_eq_true rfl), (Nat.le_of_ble_eq_true rfl)⟩ rfl hl.1 rfl (Nat.le_of_ble_eq_true rfl) dX6_trade_43 ⟨Nat.zero_le _, Nat.zero_le _⟩) hS (fun H locs hP hS => ?_)
      exact je_mi hx hb hr hlocks hK hP hS h dX6_trade_46
  have J35 : ∀ (M_10 : jm) (H : Heap) (locs : List Loc) (v1_10 : Int32) (v2_10 : Int32) (v3_10 : Int32) (ls : Array Slot), f_X6_trade_j35 M_10 v1_10 v2_10 v3_10 = some (r, N) → jrp X M_10 H → va_S A s.heap H locs → lv_has ls 8 [(0, .ref (jO X 16)), (1, .int v1_10), (2, .int v2_10), (3, .int v3_10)] → W p l e (jrm 3 70) s m args below meth c H locs 0 0 (MQ below (jQm X A (some (.int r)) N) args s 0 0 A) (F0 m 35 ls []) := by
    intro M_10 H locs v1_10 v2_10 v3_10 ls h hP hS hl
    refine lv_iload_n hx hb dX6_trade_35 rfl (lv_at hl 3 rfl) ?_
    exact J36 M_10 _ _ v1_10 v2_10 v3_10 _ h hP hS (lv_sub hl [0, 1, 2] rfl)
  refine lv_if_ne (tgt := 35) hx hb dX6_trade_13 rfl (fun c13 => ?_) (fun c13 => ?_)
  · replace h := jh_f h c13
    exact J35 (ju M 16 11 0 0) _ _ v1 v2 (f_X6_wrongBoth (ju M 16 11 0 0) v1 v2) _ h hP hS (lv_sub hl [1, 2, 3, 0] rfl)
  · replace h := jh_t h c13
    refine lv_aload_n hx hb dX6_trade_16 rfl (lv_at hl 1 rfl) ?_
    refine jr_get (k := 9) hx hb hts hown hK hP jb_16 (Nat.le_of_ble_eq_true rfl) jlX6_31 rfl dX6_trade_17 ?_
    refine lv_bipush (v := 7) hx hb dX6_trade_20 jcb_7 ?_
    refine lv_iload_n hx hb dX6_trade_22 rfl (lv_at hl 2 rfl) ?_
    refine lv_imul hx hb dX6_trade_23 ?_
    refine lv_iload_n hx hb dX6_trade_24 rfl (lv_at hl 3 rfl) ?_
    refine lv_iadd hx hb dX6_trade_25 ?_
    obtain ⟨g26, h⟩ := jh_gd h
    refine jr_ald (n := 42) hx hb hK hP jb_16 rfl g26 dX6_trade_26 ?_
    refine lv_if_ne (tgt := 35) hx hb dX6_trade_27 rfl (fun c27 => ?_) (fun c27 => ?_)
    · replace h := jh_f h c27
      exact J35 (ju M 16 11 0 0) _ _ v1 v2 (f_X6_wrongBoth (ju M 16 11 0 0) v1 v2) _ h hP hS (lv_sub hl [1, 2, 3, 0] rfl)
    · replace h := jh_t h c27
      refine lv_bipush (v := (-3)) hx hb dX6_trade_30 jcb_m3 ?_
      refine lv_goto (tgt := 36) hx hb dX6_trade_32 rfl ?_
      exact J36 (ju M 16 11 0 0) _ _ v1 v2 (-3) _ h hP hS (lv_sub hl [1, 2, 3] rfl)
def f_X6_whoWent_l23 (v1_2 : Int32) : Nat → jm → Int32 → Int32 → Option (Int32 × jm)
  | 0, _, _, _ => none
  | k_2 + 1, M_2, v2_2, v3_2 => (if (M_2 16 5 0) ≤ v3_2 then (some (v2_2, M_2)) else (jgd ((7 * v3_2) + v1_2) 42 (if (M_2 16 9 (Int32.toNatClampNeg ((7 * v3_2) + v1_2))) ≤ 0 then ((f_X6_whoWent_l23 v1_2 k_2) M_2 (v2_2 ||| 0) (v3_2 + 1)) else (jgd v3_2 6 (jgd v1_2 8 (if (M_2 16 6 (Int32.toNatClampNeg v3_2)) = (M_2 16 3 (Int32.toNatClampNeg v1_2)) then ((f_X6_whoWent_l23 v1_2 k_2) M_2 (v2_2 ||| ((1 : Int32) <<< (v3_2 &&& 31))) (v3_2 + 1)) else ((f_X6_whoWent_l23 v1_2 k_2) M_2 (v2_2 ||| 0) (v3_2 + 1))))))))
def f_X6_whoWent (M : jm) (v1 : Int32) : Option (Int32 × jm) := (if (f_X6_isHouse (ju M 16 11 0 0) v1) = 0 then (jb2 (f_X6_refuse (ju M 16 11 0 0) (-1)) fun r3 M_3 => (some (r3, M_3))) else (f_X6_whoWent_l23 v1 10000 (ju M 16 11 0 0) 0 0))
set_option maxRecDepth 100000 in
theorem m_X6_whoWent (l : Launch) (X : jX) (A : Nat → Prop) (hs : jst X A) (M : jm) (v1 : Int32) (r : Int32) (N : jm) (h : f_X6_whoWent M v1 = some (r, N)) : Met l yX6_whoWent (jws yX6_whoWent cX6_whoWent 4 (some .int)) (jrm 2 46) (va_Pc [.ref (jO X 16), .int v1] (jB X M)) (jQm X A (some (.int r)) N) 0 0 A := by
  refine jm_of (by decide) (Nat.le_of_ble_eq_true rfl) ?_
  intro p e s m args below meth c ls S hr hlocks hB hl
  have S : CallFix p m c cX6_whoWent 4 s args jtb RX6 := S
  obtain ⟨hx, hb, hml, hown, hts⟩ := id S
  obtain ⟨hP, hK⟩ := hB
  have hN := hK.2
  have hS : va_S A s.heap s.heap [] := va_S.rf
  have hl : lv_has ls 4 [(0, .ref (jO X 16)), (1, .int v1)] := hl
  refine lv_aload_n hx hb dX6_whoWent_0 rfl (lv_at hl 0 rfl) ?_
  refine lv_iconst (v := 0) hx hb dX6_whoWent_1 jci_0 ?_
  refine jr_put (k := 11) (z := 0) hx hb hts hown hK hP hs hS jb_16 (Nat.le_of_ble_eq_true rfl) jlX6_79 rfl (Or.inl rfl) rfl rfl rfl dX6_whoWent_2 (fun H locs hP hS => ?_)
  refine lv_aload_n hx hb dX6_whoWent_5 rfl (lv_at hl 0 rfl) ?_
  refine lv_iload_n hx hb dX6_whoWent_6 rfl (lv_at hl 1 rfl) ?_
  refine jr_kp (jr_rv (As := [.int v1]) (rest := []) S hK hP jb_16 rfl (m_X6_isHouse l X (ju M 16 11 0 0) v1 _ rfl) jw_X6_isHouse ji_X6_isHouse jmX6_181 rfl rfl ⟨(Nat.le_of_ble_eq_true rfl), (Nat.le_of_ble_eq_true rfl)⟩ rfl hl.1 rfl (Nat.le_of_ble_eq_true rfl) dX6_whoWent_7 ⟨Nat.zero_le _, Nat.zero_le _⟩) ?_
  refine lv_if_ne (tgt := 19) hx hb dX6_whoWent_10 rfl (fun c10 => ?_) (fun c10 => ?_)
  · replace h := jh_f h c10
    refine lv_iconst (v := 0) hx hb dX6_whoWent_19 jci_0 ?_
    refine lv_istore_n (lv' := [(2, .int 0), (0, .ref (jO X 16)), (1, .int v1)]) hx hb dX6_whoWent_20 rfl hl (Nat.le_of_ble_eq_true rfl) rfl (fun ls hl => ?_)
    refine lv_iconst (v := 0) hx hb dX6_whoWent_21 jci_0 ?_
    refine lv_istore_n (lv' := [(3, .int 0), (2, .int 0), (0, .ref (jO X 16)), (1, .int v1)]) hx hb dX6_whoWent_22 rfl hl (Nat.le_of_ble_eq_true rfl) rfl (fun ls hl => ?_)
    have L23 : ∀ (v1_2 : Int32) (k_2 : Nat) (M_2 : jm) (H : Heap) (locs : List Loc) (v2_2 : Int32) (v3_2 : Int32) (ls : Array Slot), f_X6_whoWent_l23 v1_2 k_2 M_2 v2_2 v3_2 = some (r, N) → jrp X M_2 H → va_S A s.heap H locs → lv_has ls 4 [(0, .ref (jO X 16)), (1, .int v1_2), (2, .int v2_2), (3, .int v3_2)] → W p l e (jrm 2 46) s m args below meth c H locs 0 0 (MQ below (jQm X A (some (.int r)) N) args s 0 0 A) (F0 m 23 ls []) := by
      intro v1_2 k_2
      induction k_2 with
      | zero => intro M_2 H locs v2_2 v3_2 ls h; exact jh_0 h
      | succ k_2 ih23 =>
        intro M_2 H locs v2_2 v3_2 ls h hP hS hl
        refine lv_iload_n hx hb dX6_whoWent_23 rfl (lv_at hl 3 rfl) ?_
        refine lv_aload_n hx hb dX6_whoWent_24 rfl (lv_at hl 0 rfl) ?_
        refine jr_get (k := 5) hx hb hts hown hK hP jb_16 (Nat.le_of_ble_eq_true rfl) jlX6_92 rfl dX6_whoWent_25 ?_
        refine lv_icmp_ge (tgt := 76) hx hb dX6_whoWent_28 rfl (fun c28 => ?_) (fun c28 => ?_)
        · replace h := jh_t h c28
          refine lv_iload_n hx hb dX6_whoWent_76 rfl (lv_at hl 2 rfl) ?_
          exact je_mi hx hb hr hlocks hK hP hS h dX6_whoWent_77
        · replace h := jh_f h c28
          refine lv_iload_n hx hb dX6_whoWent_31 rfl (lv_at hl 2 rfl) ?_
          refine lv_aload_n hx hb dX6_whoWent_32 rfl (lv_at hl 0 rfl) ?_
          refine jr_get (k := 9) hx hb hts hown hK hP jb_16 (Nat.le_of_ble_eq_true rfl) jlX6_31 rfl dX6_whoWent_33 ?_
          refine lv_bipush (v := 7) hx hb dX6_whoWent_36 jcb_7 ?_
          refine lv_iload_n hx hb dX6_whoWent_38 rfl (lv_at hl 3 rfl) ?_
          refine lv_imul hx hb dX6_whoWent_39 ?_
          refine lv_iload_n hx hb dX6_whoWent_40 rfl (lv_at hl 1 rfl) ?_
          refine lv_iadd hx hb dX6_whoWent_41 ?_
          obtain ⟨g42, h⟩ := jh_gd h
          refine jr_ald (n := 42) hx hb hK hP jb_16 rfl g42 dX6_whoWent_42 ?_
          refine lv_if_le (tgt := 67) hx hb dX6_whoWent_43 rfl (fun c43 => ?_) (fun c43 => ?_)
          · replace h := jh_t h c43
            refine lv_iconst (v := 0) hx hb dX6_whoWent_67 jci_0 ?_
            refine lv_ior hx hb dX6_whoWent_68 ?_
            refine lv_istore_n (lv' := [(2, .int (v2_2 ||| 0)), (0, .ref (jO X 16)), (1, .int v1_2), (3, .int v3_2)]) hx hb dX6_whoWent_69 rfl hl (Nat.le_of_ble_eq_true rfl) rfl (fun ls hl => ?_)
            refine lv_iinc (v := (v3_2 + 1)) (lv' := [(3, .int (v3_2 + 1)), (2, .int (v2_2 ||| 0)), (0, .ref (jO X 16)), (1, .int v1_2)]) hx hb dX6_whoWent_70 hl (k := 3) rfl (congrArg _ jci_1) (Nat.le_of_ble_eq_true rfl) rfl (fun ls hl => ?_)
            refine lv_goto (tgt := 23) hx hb dX6_whoWent_73 rfl ?_
            exact ih23 M_2 _ _ (v2_2 ||| 0) (v3_2 + 1) _ h hP hS (lv_sub hl [2, 3, 1, 0] rfl)
          · replace h := jh_f h c43
            refine lv_aload_n hx hb dX6_whoWent_46 rfl (lv_at hl 0 rfl) ?_
            refine jr_get (k := 6) hx hb hts hown hK hP jb_16 (Nat.le_of_ble_eq_true rfl) jlX6_22 rfl dX6_whoWent_47 ?_
            refine lv_iload_n hx hb dX6_whoWent_50 rfl (lv_at hl 3 rfl) ?_
            obtain ⟨g51, h⟩ := jh_gd h
            refine jr_ald (n := 6) hx hb hK hP jb_16 rfl g51 dX6_whoWent_51 ?_
            refine lv_aload_n hx hb dX6_whoWent_52 rfl (lv_at hl 0 rfl) ?_
            refine jr_get (k := 3) hx hb hts hown hK hP jb_16 (Nat.le_of_ble_eq_true rfl) jlX6_16 rfl dX6_whoWent_53 ?_
            refine lv_iload_n hx hb dX6_whoWent_56 rfl (lv_at hl 1 rfl) ?_
            obtain ⟨g57, h⟩ := jh_gd h
            refine jr_ald (n := 8) hx hb hK hP jb_16 rfl g57 dX6_whoWent_57 ?_
            refine lv_icmp_ne (tgt := 67) hx hb dX6_whoWent_58 rfl (fun c58 => ?_) (fun c58 => ?_)
            · replace h := jh_f h c58
              refine lv_iconst (v := 0) hx hb dX6_whoWent_67 jci_0 ?_
              refine lv_ior hx hb dX6_whoWent_68 ?_
              refine lv_istore_n (lv' := [(2, .int (v2_2 ||| 0)), (0, .ref (jO X 16)), (1, .int v1_2), (3, .int v3_2)]) hx hb dX6_whoWent_69 rfl hl (Nat.le_of_ble_eq_true rfl) rfl (fun ls hl => ?_)
              refine lv_iinc (v := (v3_2 + 1)) (lv' := [(3, .int (v3_2 + 1)), (2, .int (v2_2 ||| 0)), (0, .ref (jO X 16)), (1, .int v1_2)]) hx hb dX6_whoWent_70 hl (k := 3) rfl (congrArg _ jci_1) (Nat.le_of_ble_eq_true rfl) rfl (fun ls hl => ?_)
              refine lv_goto (tgt := 23) hx hb dX6_whoWent_73 rfl ?_
              exact ih23 M_2 _ _ (v2_2 ||| 0) (v3_2 + 1) _ h hP hS (lv_sub hl [2, 3, 1, 0] rfl)
            · replace h := jh_t h c58
              refine lv_iconst (v := 1) hx hb dX6_whoWent_61 jci_1 ?_
              refine lv_iload_n hx hb dX6_whoWent_62 rfl (lv_at hl 3 rfl) ?_
              refine lv_ishl hx hb dX6_whoWent_63 ?_
              refine lv_goto (tgt := 68) hx hb dX6_whoWent_64 rfl ?_
              refine lv_ior hx hb dX6_whoWent_68 ?_
              refine lv_istore_n (lv' := [(2, .int (v2_2 ||| ((1 : Int32) <<< (v3_2 &&& 31)))), (0, .ref (jO X 16)), (1, .int v1_2), (3, .int v3_2)]) hx hb dX6_whoWent_69 rfl hl (Nat.le_of_ble_eq_true rfl) rfl (fun ls hl => ?_)
              refine lv_iinc (v := (v3_2 + 1)) (lv' := [(3, .int (v3_2 + 1)), (2, .int (v2_2 ||| ((1 : Int32) <<< (v3_2 &&& 31)))), (0, .ref (jO X 16)), (1, .int v1_2)]) hx hb dX6_whoWent_70 hl (k := 3) rfl (congrArg _ jci_1) (Nat.le_of_ble_eq_true rfl) rfl (fun ls hl => ?_)
              refine lv_goto (tgt := 23) hx hb dX6_whoWent_73 rfl ?_
              exact ih23 M_2 _ _ (v2_2 ||| ((1 : Int32) <<< (v3_2 &&& 31))) (v3_2 + 1) _ h hP hS (lv_sub hl [2, 3, 1, 0] rfl)
    exact L23 v1 10000 (ju M 16 11 0 0) _ _ 0 0 _ h hP hS (lv_sub hl [2, 3, 1, 0] rfl)
  · replace h := jh_t h c10
    refine lv_aload_n hx hb dX6_whoWent_13 rfl (lv_at hl 0 rfl) ?_
    refine lv_iconst (v := (-1)) hx hb dX6_whoWent_14 jci_m1 ?_
    obtain ⟨r3, M_3, e3, h⟩ := jh_b2 h
    refine jr_km (jr_rv (As := [.int (-1)]) (rest := []) S hK hP jb_16 rfl (m_X6_refuse l X A hs (ju M 16 11 0 0) (-1) r3 M_3 e3) jw_X6_refuse ji_X6_refuse jmX6_143 rfl rfl ⟨(Nat.le_of_ble_eq_true rfl), (Nat.le_of_ble_eq_true rfl)⟩ rfl hl.1 rfl (Nat.le_of_ble_eq_true rfl) dX6_whoWent_15 ⟨Nat.zero_le _, Nat.zero_le _⟩) hS (fun H locs hP hS => ?_)
    exact je_mi hx hb hr hlocks hK hP hS h dX6_whoWent_18
def f_X6_spread_l64 (v1_4 : Int32) : Nat → jm → Int32 → Int32 → Option (Int32 × jm)
  | 0, _, _, _ => none
  | k_4 + 1, M_4, v2_4, v3_4 => (if (M_4 16 0 0) ≤ v3_4 then (some (v2_4, M_4)) else (if v1_4 = 1 then (jb (f_X6_owersOf M_4 v3_4) fun r5 => (jb (f_X6_onesOf r5) fun r6 => (if r6 = 1 then ((f_X6_spread_l64 v1_4 k_4) M_4 (v2_4 ||| ((1 : Int32) <<< (v3_4 &&& 31))) (v3_4 + 1)) else ((f_X6_spread_l64 v1_4 k_4) M_4 (v2_4 ||| 0) (v3_4 + 1))))) else (some (v2_4, M_4))))
def f_X6_spread_j62 (M_3 : jm) (v1_3 : Int32) (v2_3 : Int32) : Option (Int32 × jm) := (f_X6_spread_l64 v1_3 10000 M_3 v2_3 0)
def f_X6_spread_l26 (v1_2 : Int32) : Nat → jm → Int32 → Int32 → Option (Int32 × jm)
  | 0, _, _, _ => none
  | k_2 + 1, M_2, v2_2, v3_2 => (if (M_2 16 5 0) ≤ v3_2 then (f_X6_spread_j62 M_2 v1_2 v2_2) else (if v1_2 = 0 then (jb (f_X6_owesBits M_2 v3_2) fun r7 => (if r7 = 0 then ((f_X6_spread_l26 v1_2 k_2) M_2 (v2_2 ||| ((1 : Int32) <<< (v3_2 &&& 31))) (v3_2 + 1)) else ((f_X6_spread_l26 v1_2 k_2) M_2 (v2_2 ||| 0) (v3_2 + 1)))) else (f_X6_spread_j62 M_2 v1_2 v2_2)))
def f_X6_spread (M : jm) (v1 : Int32) : Option (Int32 × jm) := (if (f_X6_in (Int32.toInt64 v1) 0 1) = 0 then (jb2 (f_X6_refuse (ju M 16 11 0 0) (-2)) fun r8 M_8 => (some (r8, M_8))) else (f_X6_spread_l26 v1 10000 (ju M 16 11 0 0) 0 0))
set_option maxRecDepth 100000 in
theorem m_X6_spread (l : Launch) (X : jX) (A : Nat → Prop) (hs : jst X A) (M : jm) (v1 : Int32) (r : Int32) (N : jm) (h : f_X6_spread M v1 = some (r, N)) : Met l yX6_spread (jws yX6_spread cX6_spread 4 (some .int)) (jrm 1 25) (va_Pc [.ref (jO X 16), .int v1] (jB X M)) (jQm X A (some (.int r)) N) 0 0 A := by
  refine jm_of (by decide) (Nat.le_of_ble_eq_true rfl) ?_
  intro p e s m args below meth c ls S hr hlocks hB hl
  have S : CallFix p m c cX6_spread 4 s args jtb RX6 := S
  obtain ⟨hx, hb, hml, hown, hts⟩ := id S
  obtain ⟨hP, hK⟩ := hB
  have hN := hK.2
  have hS : va_S A s.heap s.heap [] := va_S.rf
  have hl : lv_has ls 4 [(0, .ref (jO X 16)), (1, .int v1)] := hl
  refine lv_aload_n hx hb dX6_spread_0 rfl (lv_at hl 0 rfl) ?_
  refine lv_iconst (v := 0) hx hb dX6_spread_1 jci_0 ?_
  refine jr_put (k := 11) (z := 0) hx hb hts hown hK hP hs hS jb_16 (Nat.le_of_ble_eq_true rfl) jlX6_79 rfl (Or.inl rfl) rfl rfl rfl dX6_spread_2 (fun H locs hP hS => ?_)
  refine lv_iload_n hx hb dX6_spread_5 rfl (lv_at hl 1 rfl) ?_
  refine lv_i2l hx hb dX6_spread_6 rfl ?_
  refine lv_lconst (v := 0) hx hb dX6_spread_7 rfl ?_
  refine lv_lconst (v := 1) hx hb dX6_spread_8 rfl ?_
  refine jr_kp (jr_rs (As := [.long (Int32.toInt64 v1), .long 0, .long 1]) (rest := []) S hN (m_X6_in l (Int32.toInt64 v1) 0 1 _ rfl) jw_X6_in js_X6_in jmX6_85 rfl rfl ⟨(Nat.le_of_ble_eq_true rfl), (Nat.le_of_ble_eq_true rfl)⟩ rfl hl.1 rfl (Nat.le_of_ble_eq_true rfl) dX6_spread_9 ⟨Nat.zero_le _, Nat.zero_le _⟩) ?_
  refine lv_if_ne (tgt := 22) hx hb dX6_spread_12 rfl (fun c12 => ?_) (fun c12 => ?_)
  · replace h := jh_f h c12
    refine lv_iconst (v := 0) hx hb dX6_spread_22 jci_0 ?_
    refine lv_istore_n (lv' := [(2, .int 0), (0, .ref (jO X 16)), (1, .int v1)]) hx hb dX6_spread_23 rfl hl (Nat.le_of_ble_eq_true rfl) rfl (fun ls hl => ?_)
    refine lv_iconst (v := 0) hx hb dX6_spread_24 jci_0 ?_
    refine lv_istore_n (lv' := [(3, .int 0), (2, .int 0), (0, .ref (jO X 16)), (1, .int v1)]) hx hb dX6_spread_25 rfl hl (Nat.le_of_ble_eq_true rfl) rfl (fun ls hl => ?_)
    have L26 : ∀ (v1_2 : Int32) (k_2 : Nat) (M_2 : jm) (H : Heap) (locs : List Loc) (v2_2 : Int32) (v3_2 : Int32) (ls : Array Slot), f_X6_spread_l26 v1_2 k_2 M_2 v2_2 v3_2 = some (r, N) → jrp X M_2 H → va_S A s.heap H locs → lv_has ls 4 [(0, .ref (jO X 16)), (1, .int v1_2), (2, .int v2_2), (3, .int v3_2)] → W p l e (jrm 1 25) s m args below meth c H locs 0 0 (MQ below (jQm X A (some (.int r)) N) args s 0 0 A) (F0 m 26 ls []) := by
      intro v1_2 k_2
      induction k_2 with
      | zero => intro M_2 H locs v2_2 v3_2 ls h; exact jh_0 h
      | succ k_2 ih26 =>
        intro M_2 H locs v2_2 v3_2 ls h hP hS hl
        refine lv_iload_n hx hb dX6_spread_26 rfl (lv_at hl 3 rfl) ?_
        refine lv_aload_n hx hb dX6_spread_27 rfl (lv_at hl 0 rfl) ?_
        refine jr_get (k := 5) hx hb hts hown hK hP jb_16 (Nat.le_of_ble_eq_true rfl) jlX6_92 rfl dX6_spread_28 ?_
        have J62 : ∀ (M_3 : jm) (H : Heap) (locs : List Loc) (v1_3 : Int32) (v2_3 : Int32) (ls : Array Slot), f_X6_spread_j62 M_3 v1_3 v2_3 = some (r, N) → jrp X M_3 H → va_S A s.heap H locs → lv_has ls 4 [(0, .ref (jO X 16)), (1, .int v1_3), (2, .int v2_3)] → W p l e (jrm 1 25) s m args below meth c H locs 0 0 (MQ below (jQm X A (some (.int r)) N) args s 0 0 A) (F0 m 62 ls []) := by
          intro M_3 H locs v1_3 v2_3 ls h hP hS hl
          refine lv_iconst (v := 0) hx hb dX6_spread_62 jci_0 ?_
          refine lv_istore_n (lv' := [(3, .int 0), (0, .ref (jO X 16)), (1, .int v1_3), (2, .int v2_3)]) hx hb dX6_spread_63 rfl hl (Nat.le_of_ble_eq_true rfl) rfl (fun ls hl => ?_)
          have L64 : ∀ (v1_4 : Int32) (k_4 : Nat) (M_4 : jm) (H : Heap) (locs : List Loc) (v2_4 : Int32) (v3_4 : Int32) (ls : Array Slot), f_X6_spread_l64 v1_4 k_4 M_4 v2_4 v3_4 = some (r, N) → jrp X M_4 H → va_S A s.heap H locs → lv_has ls 4 [(0, .ref (jO X 16)), (1, .int v1_4), (2, .int v2_4), (3, .int v3_4)] → W p l e (jrm 1 25) s m args below meth c H locs 0 0 (MQ below (jQm X A (some (.int r)) N) args s 0 0 A) (F0 m 64 ls []) := by
            intro v1_4 k_4
            induction k_4 with
            | zero => intro M_4 H locs v2_4 v3_4 ls h; exact jh_0 h
            | succ k_4 ih64 =>
              intro M_4 H locs v2_4 v3_4 ls h hP hS hl
              refine lv_iload_n hx hb dX6_spread_64 rfl (lv_at hl 3 rfl) ?_
              refine lv_aload_n hx hb dX6_spread_65 rfl (lv_at hl 0 rfl) ?_
              refine jr_get (k := 0) hx hb hts hown hK hP jb_16 (Nat.le_of_ble_eq_true rfl) jlX6_89 rfl dX6_spread_66 ?_
              refine lv_icmp_ge (tgt := 105) hx hb dX6_spread_69 rfl (fun c69 => ?_) (fun c69 => ?_)
              · replace h := jh_t h c69
                refine lv_iload_n hx hb dX6_spread_105 rfl (lv_at hl 2 rfl) ?_
                exact je_mi hx hb hr hlocks hK hP hS h dX6_spread_106
              · replace h := jh_f h c69
                refine lv_iload_n hx hb dX6_spread_72 rfl (lv_at hl 1 rfl) ?_
                refine lv_iconst (v := 1) hx hb dX6_spread_73 jci_1 ?_
                refine lv_icmp_ne (tgt := 105) hx hb dX6_spread_74 rfl (fun c74 => ?_) (fun c74 => ?_)
                · replace h := jh_f h c74
                  refine lv_iload_n hx hb dX6_spread_105 rfl (lv_at hl 2 rfl) ?_
                  exact je_mi hx hb hr hlocks hK hP hS h dX6_spread_106
                · replace h := jh_t h c74
                  refine lv_iload_n hx hb dX6_spread_77 rfl (lv_at hl 2 rfl) ?_
                  refine lv_aload_n hx hb dX6_spread_78 rfl (lv_at hl 0 rfl) ?_
                  refine lv_iload_n hx hb dX6_spread_79 rfl (lv_at hl 3 rfl) ?_
                  obtain ⟨r5, e5, h⟩ := jh_b h
                  refine jr_kp (jr_rv (As := [.int v3_4]) (rest := [.int v2_4]) S hK hP jb_16 rfl (m_X6_owersOf l X M_4 v3_4 r5 e5) jw_X6_owersOf ji_X6_owersOf jmX6_229 rfl rfl ⟨(Nat.le_of_ble_eq_true rfl), (Nat.le_of_ble_eq_true rfl)⟩ rfl hl.1 rfl (Nat.le_of_ble_eq_true rfl) dX6_spread_80 ⟨Nat.zero_le _, Nat.zero_le _⟩) ?_
                  obtain ⟨r6, e6, h⟩ := jh_b h
                  refine jr_kp (jr_rs (As := [.int r5]) (rest := [.int v2_4]) S hN (m_X6_onesOf l r5 r6 e6) jw_X6_onesOf js_X6_onesOf jmX6_119 rfl rfl ⟨(Nat.le_of_ble_eq_true rfl), (Nat.le_of_ble_eq_true rfl)⟩ rfl hl.1 rfl (Nat.le_of_ble_eq_true rfl) dX6_spread_83 ⟨Nat.zero_le _, Nat.zero_le _⟩) ?_
                  refine lv_iconst (v := 1) hx hb dX6_spread_86 jci_1 ?_
                  refine lv_icmp_ne (tgt := 96) hx hb dX6_spread_87 rfl (fun c87 => ?_) (fun c87 => ?_)
                  · replace h := jh_f h c87
                    refine lv_iconst (v := 0) hx hb dX6_spread_96 jci_0 ?_
                    refine lv_ior hx hb dX6_spread_97 ?_
                    refine lv_istore_n (lv' := [(2, .int (v2_4 ||| 0)), (0, .ref (jO X 16)), (1, .int v1_4), (3, .int v3_4)]) hx hb dX6_spread_98 rfl hl (Nat.le_of_ble_eq_true rfl) rfl (fun ls hl => ?_)
                    refine lv_iinc (v := (v3_4 + 1)) (lv' := [(3, .int (v3_4 + 1)), (2, .int (v2_4 ||| 0)), (0, .ref (jO X 16)), (1, .int v1_4)]) hx hb dX6_spread_99 hl (k := 3) rfl (congrArg _ jci_1) (Nat.le_of_ble_eq_true rfl) rfl (fun ls hl => ?_)
                    refine lv_goto (tgt := 64) hx hb dX6_spread_102 rfl ?_
                    exact ih64 M_4 _ _ (v2_4 ||| 0) (v3_4 + 1) _ h hP hS (lv_sub hl [2, 3, 1, 0] rfl)
                  · replace h := jh_t h c87
                    refine lv_iconst (v := 1) hx hb dX6_spread_90 jci_1 ?_
                    refine lv_iload_n hx hb dX6_spread_91 rfl (lv_at hl 3 rfl) ?_
                    refine lv_ishl hx hb dX6_spread_92 ?_
                    refine lv_goto (tgt := 97) hx hb dX6_spread_93 rfl ?_
                    refine lv_ior hx hb dX6_spread_97 ?_
                    refine lv_istore_n (lv' := [(2, .int (v2_4 ||| ((1 : Int32) <<< (v3_4 &&& 31)))), (0, .ref (jO X 16)), (1, .int v1_4), (3, .int v3_4)]) hx hb dX6_spread_98 rfl hl (Nat.le_of_ble_eq_true rfl) rfl (fun ls hl => ?_)
                    refine lv_iinc (v := (v3_4 + 1)) (lv' := [(3, .int (v3_4 + 1)), (2, .int (v2_4 ||| ((1 : Int32) <<< (v3_4 &&& 31)))), (0, .ref (jO X 16)), (1, .int v1_4)]) hx hb dX6_spread_99 hl (k := 3) rfl (congrArg _ jci_1) (Nat.le_of_ble_eq_true rfl) rfl (fun ls hl => ?_)
                    refine lv_goto (tgt := 64) hx hb dX6_spread_102 rfl ?_
                    exact ih64 M_4 _ _ (v2_4 ||| ((1 : Int32) <<< (v3_4 &&& 31))) (v3_4 + 1) _ h hP hS (lv_sub hl [2, 3, 1, 0] rfl)
          exact L64 v1_3 10000 M_3 _ _ v2_3 0 _ h hP hS (lv_sub hl [1, 2, 3, 0] rfl)
        refine lv_icmp_ge (tgt := 62) hx hb dX6_spread_31 rfl (fun c31 => ?_) (fun c31 => ?_)
        · replace h := jh_t h c31
          exact J62 M_2 _ _ v1_2 v2_2 _ h hP hS (lv_sub hl [0, 1, 2] rfl)
        · replace h := jh_f h c31
          refine lv_iload_n hx hb dX6_spread_34 rfl (lv_at hl 1 rfl) ?_
          refine lv_if_ne (tgt := 62) hx hb dX6_spread_35 rfl (fun c35 => ?_) (fun c35 => ?_)
          · replace h := jh_f h c35
            exact J62 M_2 _ _ v1_2 v2_2 _ h hP hS (lv_sub hl [0, 1, 2] rfl)
          · replace h := jh_t h c35
            refine lv_iload_n hx hb dX6_spread_38 rfl (lv_at hl 2 rfl) ?_
            refine lv_aload_n hx hb dX6_spread_39 rfl (lv_at hl 0 rfl) ?_
            refine lv_iload_n hx hb dX6_spread_40 rfl (lv_at hl 3 rfl) ?_
            obtain ⟨r7, e7, h⟩ := jh_b h
            refine jr_kp (jr_rv (As := [.int v3_2]) (rest := [.int v2_2]) S hK hP jb_16 rfl (m_X6_owesBits l X M_2 v3_2 r7 e7) jw_X6_owesBits ji_X6_owesBits jmX6_116 rfl rfl ⟨(Nat.le_of_ble_eq_true rfl), (Nat.le_of_ble_eq_true rfl)⟩ rfl hl.1 rfl (Nat.le_of_ble_eq_true rfl) dX6_spread_41 ⟨Nat.zero_le _, Nat.zero_le _⟩) ?_
            refine lv_if_ne (tgt := 53) hx hb dX6_spread_44 rfl (fun c44 => ?_) (fun c44 => ?_)
            · replace h := jh_f h c44
              refine lv_iconst (v := 0) hx hb dX6_spread_53 jci_0 ?_
              refine lv_ior hx hb dX6_spread_54 ?_
              refine lv_istore_n (lv' := [(2, .int (v2_2 ||| 0)), (0, .ref (jO X 16)), (1, .int v1_2), (3, .int v3_2)]) hx hb dX6_spread_55 rfl hl (Nat.le_of_ble_eq_true rfl) rfl (fun ls hl => ?_)
              refine lv_iinc (v := (v3_2 + 1)) (lv' := [(3, .int (v3_2 + 1)), (2, .int (v2_2 ||| 0)), (0, .ref (jO X 16)), (1, .int v1_2)]) hx hb dX6_spread_56 hl (k := 3) rfl (congrArg _ jci_1) (Nat.le_of_ble_eq_true rfl) rfl (fun ls hl => ?_)
              refine lv_goto (tgt := 26) hx hb dX6_spread_59 rfl ?_
              exact ih26 M_2 _ _ (v2_2 ||| 0) (v3_2 + 1) _ h hP hS (lv_sub hl [2, 3, 1, 0] rfl)
            · replace h := jh_t h c44
              refine lv_iconst (v := 1) hx hb dX6_spread_47 jci_1 ?_
              refine lv_iload_n hx hb dX6_spread_48 rfl (lv_at hl 3 rfl) ?_
              refine lv_ishl hx hb dX6_spread_49 ?_
              refine lv_goto (tgt := 54) hx hb dX6_spread_50 rfl ?_
              refine lv_ior hx hb dX6_spread_54 ?_
              refine lv_istore_n (lv' := [(2, .int (v2_2 ||| ((1 : Int32) <<< (v3_2 &&& 31)))), (0, .ref (jO X 16)), (1, .int v1_2), (3, .int v3_2)]) hx hb dX6_spread_55 rfl hl (Nat.le_of_ble_eq_true rfl) rfl (fun ls hl => ?_)
              refine lv_iinc (v := (v3_2 + 1)) (lv' := [(3, .int (v3_2 + 1)), (2, .int (v2_2 ||| ((1 : Int32) <<< (v3_2 &&& 31)))), (0, .ref (jO X 16)), (1, .int v1_2)]) hx hb dX6_spread_56 hl (k := 3) rfl (congrArg _ jci_1) (Nat.le_of_ble_eq_true rfl) rfl (fun ls hl => ?_)
              refine lv_goto (tgt := 26) hx hb dX6_spread_59 rfl ?_
              exact ih26 M_2 _ _ (v2_2 ||| ((1 : Int32) <<< (v3_2 &&& 31))) (v3_2 + 1) _ h hP hS (lv_sub hl [2, 3, 1, 0] rfl)
    exact L26 v1 10000 (ju M 16 11 0 0) _ _ 0 0 _ h hP hS (lv_sub hl [2, 3, 1, 0] rfl)
  · replace h := jh_t h c12
    refine lv_aload_n hx hb dX6_spread_15 rfl (lv_at hl 0 rfl) ?_
    refine lv_bipush (v := (-2)) hx hb dX6_spread_16 jcb_m2 ?_
    obtain ⟨r8, M_8, e8, h⟩ := jh_b2 h
    refine jr_km (jr_rv (As := [.int (-2)]) (rest := []) S hK hP jb_16 rfl (m_X6_refuse l X A hs (ju M 16 11 0 0) (-2) r8 M_8 e8) jw_X6_refuse ji_X6_refuse jmX6_143 rfl rfl ⟨(Nat.le_of_ble_eq_true rfl), (Nat.le_of_ble_eq_true rfl)⟩ rfl hl.1 rfl (Nat.le_of_ble_eq_true rfl) dX6_spread_18 ⟨Nat.zero_le _, Nat.zero_le _⟩) hS (fun H locs hP hS => ?_)
    exact je_mi hx hb hr hlocks hK hP hS h dX6_spread_21
def f_X6_isRow_j60 (M_5 : jm) (K5_5 : jm → Int32 → Int32 → Option (Int32 × jm)) (v1_1 : Int32) (v2_1 : Int32) (v4_5 : Int32) (t0_5 : Int32) : Option (Int32 × jm) := (jb (f_X6_eveningBy M_5 0) fun M_6 => (K5_5 M_6 t0_5 (v4_5 + 1)))
def f_X6_isRow_j52 (M_4 : jm) (K5_4 : jm → Int32 → Int32 → Option (Int32 × jm)) (v1_1 : Int32) (v2_1 : Int32) (v4_4 : Int32) (t0_4 : Int32) (t1_4 : Int32) : Option (Int32 × jm) := (if t1_4 = t0_4 then (f_X6_isRow_j60 M_4 K5_4 v1_1 v2_1 v4_4 1) else (f_X6_isRow_j60 M_4 K5_4 v1_1 v2_1 v4_4 0))
def f_X6_isRow_l5 (v1_1 : Int32) (v2_1 : Int32) : Nat → jm → Int32 → Int32 → Option (Int32 × jm)
  | 0, _, _, _ => none
  | k_1 + 1, M_1, v3_1, v4_1 => (if (M_1 16 36 0) ≤ v4_1 then (jb (f_X6_again M_1) fun M_2 => (jgb v3_1 (some (v3_1, M_2)))) else (if v3_1 = 0 then (jb (f_X6_again M_1) fun M_3 => (jgb v3_1 (some (v3_1, M_3)))) else (jgd ((7 * v1_1) + v2_1) 42 (jgd v4_1 12 (if (M_1 16 9 (Int32.toNatClampNeg ((7 * v1_1) + v2_1))) = 0 then (f_X6_isRow_j52 M_1 (f_X6_isRow_l5 v1_1 v2_1 k_1) v1_1 v2_1 v4_1 99 (M_1 16 35 (Int32.toNatClampNeg v4_1))) else (f_X6_isRow_j52 M_1 (f_X6_isRow_l5 v1_1 v2_1 k_1) v1_1 v2_1 v4_1 ((M_1 16 9 (Int32.toNatClampNeg ((7 * v1_1) + v2_1))) - 1) (M_1 16 35 (Int32.toNatClampNeg v4_1))))))))
def f_X6_isRow (M : jm) (v1 : Int32) (v2 : Int32) : Option (Int32 × jm) := (f_X6_isRow_l5 v1 v2 10000 M 1 0)
set_option maxRecDepth 100000 in
theorem m_X6_isRow (l : Launch) (X : jX) (A : Nat → Prop) (hs : jst X A) (M : jm) (v1 : Int32) (v2 : Int32) (r : Int32) (N : jm) (h : f_X6_isRow M v1 v2 = some (r, N)) : Met l yX6_isRow (jws yX6_isRow cX6_isRow 6 (some .boolean)) (jrm 5 114) (va_Pc [.ref (jO X 16), .int v1, .int v2] (jB X M)) (jQm X A (some (.int r)) N) 0 0 A := by
  refine jm_of (by decide) (Nat.le_of_ble_eq_true rfl) ?_
  intro p e s m args below meth c ls S hr hlocks hB hl
  have S : CallFix p m c cX6_isRow 6 s args jtb RX6 := S
  obtain ⟨hx, hb, hml, hown, hts⟩ := id S
  obtain ⟨hP, hK⟩ := hB
  have hN := hK.2
  have hS : va_S A s.heap s.heap [] := va_S.rf
  have hl : lv_has ls 6 [(0, .ref (jO X 16)), (1, .int v1), (2, .int v2)] := hl
  refine lv_iconst (v := 1) hx hb dX6_isRow_0 jci_1 ?_
  refine lv_istore_n (lv' := [(3, .int 1), (0, .ref (jO X 16)), (1, .int v1), (2, .int v2)]) hx hb dX6_isRow_1 rfl hl (Nat.le_of_ble_eq_true rfl) rfl (fun ls hl => ?_)
  refine lv_iconst (v := 0) hx hb dX6_isRow_2 jci_0 ?_
  refine lv_istore (lv' := [(4, .int 0), (3, .int 1), (0, .ref (jO X 16)), (1, .int v1), (2, .int v2)]) hx hb dX6_isRow_3 hl (Nat.le_of_ble_eq_true rfl) rfl (fun ls hl => ?_)
  have L5 : ∀ (v1_1 : Int32) (v2_1 : Int32) (k_1 : Nat) (M_1 : jm) (H : Heap) (locs : List Loc) (v3_1 : Int32) (v4_1 : Int32) (ls : Array Slot), f_X6_isRow_l5 v1_1 v2_1 k_1 M_1 v3_1 v4_1 = some (r, N) → jrp X M_1 H → va_S A s.heap H locs → lv_has ls 6 [(0, .ref (jO X 16)), (1, .int v1_1), (2, .int v2_1), (3, .int v3_1), (4, .int v4_1)] → W p l e (jrm 5 114) s m args below meth c H locs 0 0 (MQ below (jQm X A (some (.int r)) N) args s 0 0 A) (F0 m 5 ls []) := by
    intro v1_1 v2_1 k_1
    induction k_1 with
    | zero => intro M_1 H locs v3_1 v4_1 ls h; exact jh_0 h
    | succ k_1 ih5 =>
      intro M_1 H locs v3_1 v4_1 ls h hP hS hl
      refine lv_iload hx hb dX6_isRow_5 (lv_at hl 4 rfl) ?_
      refine lv_aload_n hx hb dX6_isRow_7 rfl (lv_at hl 0 rfl) ?_
      refine jr_get (k := 36) hx hb hts hown hK hP jb_16 (Nat.le_of_ble_eq_true rfl) jlX6_275 rfl dX6_isRow_8 ?_
      refine lv_icmp_ge (tgt := 72) hx hb dX6_isRow_11 rfl (fun c11 => ?_) (fun c11 => ?_)
      · replace h := jh_t h c11
        refine lv_aload_n hx hb dX6_isRow_72 rfl (lv_at hl 0 rfl) ?_
        obtain ⟨M_2, e2, h⟩ := jh_b h
        refine jr_kv (jr_rv (As := []) (rest := []) S hK hP jb_16 rfl (m_X6_again l X A hs M_1  M_2 e2) jw_X6_again ji_X6_again jmX6_202 rfl rfl ⟨(Nat.le_of_ble_eq_true rfl), (Nat.le_of_ble_eq_true rfl)⟩ rfl hl.1 rfl (Nat.le_of_ble_eq_true rfl) dX6_isRow_73 ⟨Nat.zero_le _, Nat.zero_le _⟩) hS (fun H locs hP hS => ?_)
        refine lv_iload_n hx hb dX6_isRow_76 rfl (lv_at hl 3 rfl) ?_
        obtain ⟨gz, h⟩ := jh_gb h
        exact je_mz hx hb hr hlocks hK hP hS gz h dX6_isRow_77
      · replace h := jh_f h c11
        refine lv_iload_n hx hb dX6_isRow_14 rfl (lv_at hl 3 rfl) ?_
        refine lv_if_eq (tgt := 72) hx hb dX6_isRow_15 rfl (fun c15 => ?_) (fun c15 => ?_)
        · replace h := jh_t h c15
          refine lv_aload_n hx hb dX6_isRow_72 rfl (lv_at hl 0 rfl) ?_
          obtain ⟨M_3, e3, h⟩ := jh_b h
          refine jr_kv (jr_rv (As := []) (rest := []) S hK hP jb_16 rfl (m_X6_again l X A hs M_1  M_3 e3) jw_X6_again ji_X6_again jmX6_202 rfl rfl ⟨(Nat.le_of_ble_eq_true rfl), (Nat.le_of_ble_eq_true rfl)⟩ rfl hl.1 rfl (Nat.le_of_ble_eq_true rfl) dX6_isRow_73 ⟨Nat.zero_le _, Nat.zero_le _⟩) hS (fun H locs hP hS => ?_)
          refine lv_iload_n hx hb dX6_isRow_76 rfl (lv_at hl 3 rfl) ?_
          obtain ⟨gz, h⟩ := jh_gb h
          exact je_mz hx hb hr hlocks hK hP hS gz h dX6_isRow_77
        · replace h := jh_f h c15
          refine lv_aload_n hx hb dX6_isRow_18 rfl (lv_at hl 0 rfl) ?_
          refine jr_get (k := 9) hx hb hts hown hK hP jb_16 (Nat.le_of_ble_eq_true rfl) jlX6_31 rfl dX6_isRow_19 ?_
          refine lv_bipush (v := 7) hx hb dX6_isRow_22 jcb_7 ?_
          refine lv_iload_n hx hb dX6_isRow_24 rfl (lv_at hl 1 rfl) ?_
          refine lv_imul hx hb dX6_isRow_25 ?_
          refine lv_iload_n hx hb dX6_isRow_26 rfl (lv_at hl 2 rfl) ?_
          refine lv_iadd hx hb dX6_isRow_27 ?_
          obtain ⟨g28, h⟩ := jh_gd h
          refine jr_ald (n := 42) hx hb hK hP jb_16 rfl g28 dX6_isRow_28 ?_
          refine lv_istore (lv' := [(5, .int (M_1 16 9 (Int32.toNatClampNeg ((7 * v1_1) + v2_1)))), (0, .ref (jO X 16)), (1, .int v1_1), (2, .int v2_1), (3, .int v3_1), (4, .int v4_1)]) hx hb dX6_isRow_29 hl (Nat.le_of_ble_eq_true rfl) rfl (fun ls hl => ?_)
          refine lv_aload_n hx hb dX6_isRow_31 rfl (lv_at hl 1 rfl) ?_
          refine jr_get (k := 35) hx hb hts hown hK hP jb_16 (Nat.le_of_ble_eq_true rfl) jlX6_73 rfl dX6_isRow_32 ?_
          refine lv_iload hx hb dX6_isRow_35 (lv_at hl 5 rfl) ?_
          obtain ⟨g37, h⟩ := jh_gd h
          refine jr_ald (n := 12) hx hb hK hP jb_16 rfl g37 dX6_isRow_37 ?_
          refine lv_iload hx hb dX6_isRow_38 (lv_at hl 0 rfl) ?_
          have J52 : ∀ (M_4 : jm) (H : Heap) (locs : List Loc) (v4_4 : Int32) (t0_4 : Int32) (t1_4 : Int32) (ls : Array Slot), f_X6_isRow_j52 M_4 (f_X6_isRow_l5 v1_1 v2_1 k_1) v1_1 v2_1 v4_4 t0_4 t1_4 = some (r, N) → jrp X M_4 H → va_S A s.heap H locs → lv_has ls 6 [(0, .ref (jO X 16)), (1, .int v1_1), (2, .int v2_1), (4, .int v4_4)] → W p l e (jrm 5 114) s m args below meth c H locs 0 0 (MQ below (jQm X A (some (.int r)) N) args s 0 0 A) (F0 m 52 ls [.int t0_4, .int t1_4]) := by
            intro M_4 H locs v4_4 t0_4 t1_4 ls h hP hS hl
            have J60 : ∀ (M_5 : jm) (H : Heap) (locs : List Loc) (v4_5 : Int32) (t0_5 : Int32) (ls : Array Slot), f_X6_isRow_j60 M_5 (f_X6_isRow_l5 v1_1 v2_1 k_1) v1_1 v2_1 v4_5 t0_5 = some (r, N) → jrp X M_5 H → va_S A s.heap H locs → lv_has ls 6 [(0, .ref (jO X 16)), (1, .int v1_1), (2, .int v2_1), (4, .int v4_5)] → W p l e (jrm 5 114) s m args below meth c H locs 0 0 (MQ below (jQm X A (some (.int r)) N) args s 0 0 A) (F0 m 60 ls [.int t0_5]) := by
              intro M_5 H locs v4_5 t0_5 ls h hP hS hl
              refine lv_istore_n (lv' := [(3, .int t0_5), (0, .ref (jO X 16)), (1, .int v1_1), (2, .int v2_1), (4, .int v4_5)]) hx hb dX6_isRow_60 rfl hl (Nat.le_of_ble_eq_true rfl) rfl (fun ls hl => ?_)
              refine lv_aload_n hx hb dX6_isRow_61 rfl (lv_at hl 1 rfl) ?_
              refine lv_iconst (v := 0) hx hb dX6_isRow_62 jci_0 ?_
              obtain ⟨M_6, e6, h⟩ := jh_b h
              refine jr_kv (jr_rv (As := [.int 0]) (rest := []) S hK hP jb_16 rfl (m_X6_eveningBy l X A hs M_5 0 M_6 e6) jw_X6_eveningBy ji_X6_eveningBy jmX6_135 rfl rfl ⟨(Nat.le_of_ble_eq_true rfl), (Nat.le_of_ble_eq_true rfl)⟩ rfl hl.1 rfl (Nat.le_of_ble_eq_true rfl) dX6_isRow_63 ⟨Nat.zero_le _, Nat.zero_le _⟩) hS (fun H locs hP hS => ?_)
              refine lv_iinc (v := (v4_5 + 1)) (lv' := [(4, .int (v4_5 + 1)), (3, .int t0_5), (0, .ref (jO X 16)), (1, .int v1_1), (2, .int v2_1)]) hx hb dX6_isRow_66 hl (k := 4) rfl (congrArg _ jci_1) (Nat.le_of_ble_eq_true rfl) rfl (fun ls hl => ?_)
              refine lv_goto (tgt := 5) hx hb dX6_isRow_69 rfl ?_
              exact ih5 M_6 _ _ t0_5 (v4_5 + 1) _ h hP hS (lv_sub hl [2, 3, 4, 1, 0] rfl)
            refine lv_icmp_ne (tgt := 59) hx hb dX6_isRow_52 rfl (fun c52 => ?_) (fun c52 => ?_)
            · replace h := jh_f h c52
              refine lv_iconst (v := 0) hx hb dX6_isRow_59 jci_0 ?_
              exact J60 M_4 _ _ v4_4 0 _ h hP hS hl
            · replace h := jh_t h c52
              refine lv_iconst (v := 1) hx hb dX6_isRow_55 jci_1 ?_
              refine lv_goto (tgt := 60) hx hb dX6_isRow_56 rfl ?_
              exact J60 M_4 _ _ v4_4 1 _ h hP hS hl
          refine lv_if_ne (tgt := 48) hx hb dX6_isRow_40 rfl (fun c40 => ?_) (fun c40 => ?_)
          · replace h := jh_f h c40
            refine lv_iload hx hb dX6_isRow_48 (lv_at hl 0 rfl) ?_
            refine lv_iconst (v := 1) hx hb dX6_isRow_50 jci_1 ?_
            refine lv_isub hx hb dX6_isRow_51 ?_
            exact J52 M_1 _ _ v4_1 ((M_1 16 9 (Int32.toNatClampNeg ((7 * v1_1) + v2_1))) - 1) (M_1 16 35 (Int32.toNatClampNeg v4_1)) _ h hP hS (lv_sub hl [1, 2, 3, 5] rfl)
          · replace h := jh_t h c40
            refine lv_bipush (v := 99) hx hb dX6_isRow_43 jcb_99 ?_
            refine lv_goto (tgt := 52) hx hb dX6_isRow_45 rfl ?_
            exact J52 M_1 _ _ v4_1 99 (M_1 16 35 (Int32.toNatClampNeg v4_1)) _ h hP hS (lv_sub hl [1, 2, 3, 5] rfl)
  exact L5 v1 v2 10000 M _ _ 1 0 _ h hP hS (lv_sub hl [2, 3, 4, 1, 0] rfl)
def f_X6_whatKind_j98 (M_7 : jm) (K40_7 : jm → Int32 → Int32 → Option (Int32 × jm)) (v1_4 : Int32) (v2_4 : Int32) (v3_4 : Int32) (v5_7 : Int32) (v6_7 : Int32) (t0_7 : Int32) (t1_7 : Int32) : Option (Int32 × jm) := (jgd t1_7 8 (jb2 (f_X6_isRow (ju M_7 16 2 (Int32.toNatClampNeg t1_7) t0_7) v1_4 v2_4) fun r8 M_8 => (if r8 = 0 then (K40_7 M_8 (v5_7 ||| 0) (v6_7 + 1)) else (K40_7 M_8 (v5_7 ||| ((1 : Int32) <<< (v6_7 &&& 31))) (v6_7 + 1)))))
def f_X6_whatKind_j76 (M_6 : jm) (K40_6 : jm → Int32 → Int32 → Option (Int32 × jm)) (v1_4 : Int32) (v2_4 : Int32) (v3_4 : Int32) (v5_6 : Int32) (v6_6 : Int32) (t0_6 : Int32) (t1_6 : Int32) : Option (Int32 × jm) := (jgd t1_6 8 (if v3_4 = 1 then (f_X6_whatKind_j98 (ju M_6 16 1 (Int32.toNatClampNeg t1_6) t0_6) K40_6 v1_4 v2_4 v3_4 v5_6 v6_6 v6_6 v2_4) else (jgd v2_4 8 (f_X6_whatKind_j98 (ju M_6 16 1 (Int32.toNatClampNeg t1_6) t0_6) K40_6 v1_4 v2_4 v3_4 v5_6 v6_6 ((ju M_6 16 1 (Int32.toNatClampNeg t1_6) t0_6) 16 2 (Int32.toNatClampNeg v2_4)) v2_4))))
def f_X6_whatKind_j53 (M_5 : jm) (K40_5 : jm → Int32 → Int32 → Option (Int32 × jm)) (v1_4 : Int32) (v2_4 : Int32) (v3_4 : Int32) (v5_5 : Int32) (v6_5 : Int32) (t0_5 : Int32) (t1_5 : Int32) : Option (Int32 × jm) := (if t0_5 ≤ t1_5 then (some (v5_5, M_5)) else (if v3_4 = 0 then (f_X6_whatKind_j76 M_5 K40_5 v1_4 v2_4 v3_4 v5_5 v6_5 v6_5 v2_4) else (jgd v2_4 8 (f_X6_whatKind_j76 M_5 K40_5 v1_4 v2_4 v3_4 v5_5 v6_5 (M_5 16 1 (Int32.toNatClampNeg v2_4)) v2_4))))
def f_X6_whatKind_l40 (v1_4 : Int32) (v2_4 : Int32) (v3_4 : Int32) : Nat → jm → Int32 → Int32 → Option (Int32 × jm)
  | 0, _, _, _ => none
  | k_4 + 1, M_4, v5_4, v6_4 => (if v3_4 = 0 then (f_X6_whatKind_j53 M_4 (f_X6_whatKind_l40 v1_4 v2_4 v3_4 k_4) v1_4 v2_4 v3_4 v5_4 v6_4 6 v6_4) else (f_X6_whatKind_j53 M_4 (f_X6_whatKind_l40 v1_4 v2_4 v3_4 k_4) v1_4 v2_4 v3_4 v5_4 v6_4 10 v6_4))
def f_X6_whatKind (M : jm) (v1 : Int32) (v2 : Int32) (v3 : Int32) : Option (Int32 × jm) := (if 0 ≤ (f_X6_wrongBit (f_X6_wrongBoth (ju M 16 11 0 0) v1 v2) v3 1) then (jb (f_X6_think (ju M 16 11 0 0)) fun M_3 => (f_X6_whatKind_l40 v1 v2 v3 10000 M_3 0 0)) else (jb2 (f_X6_refuse (ju M 16 11 0 0) (f_X6_wrongBit (f_X6_wrongBoth (ju M 16 11 0 0) v1 v2) v3 1)) fun r9 M_9 => (some (r9, M_9))))
set_option maxRecDepth 100000 in
theorem m_X6_whatKind (l : Launch) (X : jX) (A : Nat → Prop) (hs : jst X A) (M : jm) (v1 : Int32) (v2 : Int32) (v3 : Int32) (r : Int32) (N : jm) (h : f_X6_whatKind M v1 v2 v3 = some (r, N)) : Met l yX6_whatKind (jws yX6_whatKind cX6_whatKind 7 (some .int)) (jrm 6 139) (va_Pc [.ref (jO X 16), .int v1, .int v2, .int v3] (jB X M)) (jQm X A (some (.int r)) N) 0 0 A := by
  refine jm_of (by decide) (Nat.le_of_ble_eq_true rfl) ?_
  intro p e s m args below meth c ls S hr hlocks hB hl
  have S : CallFix p m c cX6_whatKind 7 s args jtb RX6 := S
  obtain ⟨hx, hb, hml, hown, hts⟩ := id S
  obtain ⟨hP, hK⟩ := hB
  have hN := hK.2
  have hS : va_S A s.heap s.heap [] := va_S.rf
  have hl : lv_has ls 7 [(0, .ref (jO X 16)), (1, .int v1), (2, .int v2), (3, .int v3)] := hl
  refine lv_aload_n hx hb dX6_whatKind_0 rfl (lv_at hl 0 rfl) ?_
  refine lv_iconst (v := 0) hx hb dX6_whatKind_1 jci_0 ?_
  refine jr_put (k := 11) (z := 0) hx hb hts hown hK hP hs hS jb_16 (Nat.le_of_ble_eq_true rfl) jlX6_79 rfl (Or.inl rfl) rfl rfl rfl dX6_whatKind_2 (fun H locs hP hS => ?_)
  refine lv_aload_n hx hb dX6_whatKind_5 rfl (lv_at hl 0 rfl) ?_
  refine lv_iload_n hx hb dX6_whatKind_6 rfl (lv_at hl 1 rfl) ?_
  refine lv_iload_n hx hb dX6_whatKind_7 rfl (lv_at hl 2 rfl) ?_
  refine jr_kp (jr_rv (As := [.int v1, .int v2]) (rest := []) S hK hP jb_16 rfl (m_X6_wrongBoth l X (ju M 16 11 0 0) v1 v2 _ rfl) jw_X6_wrongBoth ji_X6_wrongBoth jmX6_237 rfl rfl ⟨(Nat.le_of_ble_eq_true rfl), (Nat.le_of_ble_eq_true rfl)⟩ rfl hl.1 rfl (Nat.le_of_ble_eq_true rfl) dX6_whatKind_8 ⟨Nat.zero_le _, Nat.zero_le _⟩) ?_
  refine lv_iload_n hx hb dX6_whatKind_11 rfl (lv_at hl 3 rfl) ?_
  refine lv_iconst (v := 1) hx hb dX6_whatKind_12 jci_1 ?_
  refine jr_kp (jr_rs (As := [.int (f_X6_wrongBoth (ju M 16 11 0 0) v1 v2), .int v3, .int 1]) (rest := []) S hN (m_X6_wrongBit l (f_X6_wrongBoth (ju M 16 11 0 0) v1 v2) v3 1 _ rfl) jw_X6_wrongBit js_X6_wrongBit jmX6_250 rfl rfl ⟨(Nat.le_of_ble_eq_true rfl), (Nat.le_of_ble_eq_true rfl)⟩ rfl hl.1 rfl (Nat.le_of_ble_eq_true rfl) dX6_whatKind_13 ⟨Nat.zero_le _, Nat.zero_le _⟩) ?_
  refine lv_istore (lv' := [(4, .int (f_X6_wrongBit (f_X6_wrongBoth (ju M 16 11 0 0) v1 v2) v3 1)), (0, .ref (jO X 16)), (1, .int v1), (2, .int v2), (3, .int v3)]) hx hb dX6_whatKind_16 hl (Nat.le_of_ble_eq_true rfl) rfl (fun ls hl => ?_)
  refine lv_iload hx hb dX6_whatKind_18 (lv_at hl 0 rfl) ?_
  refine lv_if_ge (tgt := 30) hx hb dX6_whatKind_20 rfl (fun c20 => ?_) (fun c20 => ?_)
  · replace h := jh_t h c20
    refine lv_iconst (v := 0) hx hb dX6_whatKind_30 jci_0 ?_
    refine lv_istore (lv' := [(5, .int 0), (4, .int (f_X6_wrongBit (f_X6_wrongBoth (ju M 16 11 0 0) v1 v2) v3 1)), (0, .ref (jO X 16)), (1, .int v1), (2, .int v2), (3, .int v3)]) hx hb dX6_whatKind_31 hl (Nat.le_of_ble_eq_true rfl) rfl (fun ls hl => ?_)
    refine lv_aload_n hx hb dX6_whatKind_33 rfl (lv_at hl 2 rfl) ?_
    obtain ⟨M_3, e3, h⟩ := jh_b h
    refine jr_kv (jr_rv (As := []) (rest := []) S hK hP jb_16 rfl (m_X6_think l X A hs (ju M 16 11 0 0)  M_3 e3) jw_X6_think ji_X6_think jmX6_196 rfl rfl ⟨(Nat.le_of_ble_eq_true rfl), (Nat.le_of_ble_eq_true rfl)⟩ rfl hl.1 rfl (Nat.le_of_ble_eq_true rfl) dX6_whatKind_34 ⟨Nat.zero_le _, Nat.zero_le _⟩) hS (fun H locs hP hS => ?_)
    refine lv_iconst (v := 0) hx hb dX6_whatKind_37 jci_0 ?_
    refine lv_istore (lv' := [(6, .int 0), (5, .int 0), (4, .int (f_X6_wrongBit (f_X6_wrongBoth (ju M 16 11 0 0) v1 v2) v3 1)), (0, .ref (jO X 16)), (1, .int v1), (2, .int v2), (3, .int v3)]) hx hb dX6_whatKind_38 hl (Nat.le_of_ble_eq_true rfl) rfl (fun ls hl => ?_)
    have L40 : ∀ (v1_4 : Int32) (v2_4 : Int32) (v3_4 : Int32) (k_4 : Nat) (M_4 : jm) (H : Heap) (locs : List Loc) (v5_4 : Int32) (v6_4 : Int32) (ls : Array Slot), f_X6_whatKind_l40 v1_4 v2_4 v3_4 k_4 M_4 v5_4 v6_4 = some (r, N) → jrp X M_4 H → va_S A s.heap H locs → lv_has ls 7 [(0, .ref (jO X 16)), (1, .int v1_4), (2, .int v2_4), (3, .int v3_4), (5, .int v5_4), (6, .int v6_4)] → W p l e (jrm 6 139) s m args below meth c H locs 0 0 (MQ below (jQm X A (some (.int r)) N) args s 0 0 A) (F0 m 40 ls []) := by
      intro v1_4 v2_4 v3_4 k_4
      induction k_4 with
      | zero => intro M_4 H locs v5_4 v6_4 ls h; exact jh_0 h
      | succ k_4 ih40 =>
        intro M_4 H locs v5_4 v6_4 ls h hP hS hl
        refine lv_iload hx hb dX6_whatKind_40 (lv_at hl 5 rfl) ?_
        refine lv_iload_n hx hb dX6_whatKind_42 rfl (lv_at hl 3 rfl) ?_
        have J53 : ∀ (M_5 : jm) (H : Heap) (locs : List Loc) (v5_5 : Int32) (v6_5 : Int32) (t0_5 : Int32) (t1_5 : Int32) (ls : Array Slot), f_X6_whatKind_j53 M_5 (f_X6_whatKind_l40 v1_4 v2_4 v3_4 k_4) v1_4 v2_4 v3_4 v5_5 v6_5 t0_5 t1_5 = some (r, N) → jrp X M_5 H → va_S A s.heap H locs → lv_has ls 7 [(0, .ref (jO X 16)), (1, .int v1_4), (2, .int v2_4), (3, .int v3_4), (5, .int v5_5), (6, .int v6_5)] → W p l e (jrm 6 139) s m args below meth c H locs 0 0 (MQ below (jQm X A (some (.int r)) N) args s 0 0 A) (F0 m 53 ls [.int t0_5, .int t1_5]) := by
          intro M_5 H locs v5_5 v6_5 t0_5 t1_5 ls h hP hS hl
          refine lv_icmp_ge (tgt := 127) hx hb dX6_whatKind_53 rfl (fun c53 => ?_) (fun c53 => ?_)
          · replace h := jh_t h c53
            refine lv_iload hx hb dX6_whatKind_127 (lv_at hl 4 rfl) ?_
            exact je_mi hx hb hr hlocks hK hP hS h dX6_whatKind_129
          · replace h := jh_f h c53
            refine lv_aload_n hx hb dX6_whatKind_56 rfl (lv_at hl 0 rfl) ?_
            refine jr_get (k := 1) hx hb hts hown hK hP jb_16 (Nat.le_of_ble_eq_true rfl) jlX6_7 rfl dX6_whatKind_57 ?_
            refine lv_iload_n hx hb dX6_whatKind_60 rfl (lv_at hl 2 rfl) ?_
            refine lv_iload_n hx hb dX6_whatKind_61 rfl (lv_at hl 3 rfl) ?_
            have J76 : ∀ (M_6 : jm) (H : Heap) (locs : List Loc) (v5_6 : Int32) (v6_6 : Int32) (t0_6 : Int32) (t1_6 : Int32) (ls : Array Slot), f_X6_whatKind_j76 M_6 (f_X6_whatKind_l40 v1_4 v2_4 v3_4 k_4) v1_4 v2_4 v3_4 v5_6 v6_6 t0_6 t1_6 = some (r, N) → jrp X M_6 H → va_S A s.heap H locs → lv_has ls 7 [(0, .ref (jO X 16)), (1, .int v1_4), (2, .int v2_4), (3, .int v3_4), (5, .int v5_6), (6, .int v6_6)] → W p l e (jrm 6 139) s m args below meth c H locs 0 0 (MQ below (jQm X A (some (.int r)) N) args s 0 0 A) (F0 m 76 ls [.int t0_6, .int t1_6, .ref (jA X 16 1)]) := by
              intro M_6 H locs v5_6 v6_6 t0_6 t1_6 ls h hP hS hl
              obtain ⟨g76, h⟩ := jh_gd h
              refine jr_ast (n := 8) hx hb hK hP hs hS jb_16 rfl g76 dX6_whatKind_76 (fun H locs hP hS => ?_)
              refine lv_aload_n hx hb dX6_whatKind_77 rfl (lv_at hl 0 rfl) ?_
              refine jr_get (k := 2) hx hb hts hown hK hP jb_16 (Nat.le_of_ble_eq_true rfl) jlX6_13 rfl dX6_whatKind_78 ?_
              refine lv_iload_n hx hb dX6_whatKind_81 rfl (lv_at hl 2 rfl) ?_
              refine lv_iload_n hx hb dX6_whatKind_82 rfl (lv_at hl 3 rfl) ?_
              refine lv_iconst (v := 1) hx hb dX6_whatKind_83 jci_1 ?_
              have J98 : ∀ (M_7 : jm) (H : Heap) (locs : List Loc) (v5_7 : Int32) (v6_7 : Int32) (t0_7 : Int32) (t1_7 : Int32) (ls : Array Slot), f_X6_whatKind_j98 M_7 (f_X6_whatKind_l40 v1_4 v2_4 v3_4 k_4) v1_4 v2_4 v3_4 v5_7 v6_7 t0_7 t1_7 = some (r, N) → jrp X M_7 H → va_S A s.heap H locs → lv_has ls 7 [(0, .ref (jO X 16)), (1, .int v1_4), (2, .int v2_4), (3, .int v3_4), (5, .int v5_7), (6, .int v6_7)] → W p l e (jrm 6 139) s m args below meth c H locs 0 0 (MQ below (jQm X A (some (.int r)) N) args s 0 0 A) (F0 m 98 ls [.int t0_7, .int t1_7, .ref (jA X 16 2)]) := by
                intro M_7 H locs v5_7 v6_7 t0_7 t1_7 ls h hP hS hl
                obtain ⟨g98, h⟩ := jh_gd h
                refine jr_ast (n := 8) hx hb hK hP hs hS jb_16 rfl g98 dX6_whatKind_98 (fun H locs hP hS => ?_)
                refine lv_iload hx hb dX6_whatKind_99 (lv_at hl 4 rfl) ?_
                refine lv_aload_n hx hb dX6_whatKind_101 rfl (lv_at hl 0 rfl) ?_
                refine lv_iload_n hx hb dX6_whatKind_102 rfl (lv_at hl 1 rfl) ?_
                refine lv_iload_n hx hb dX6_whatKind_103 rfl (lv_at hl 2 rfl) ?_
                obtain ⟨r8, M_8, e8, h⟩ := jh_b2 h
                refine jr_km (jr_rv (As := [.int v1_4, .int v2_4]) (rest := [.int v5_7]) S hK hP jb_16 rfl (m_X6_isRow l X A hs (ju M_7 16 2 (Int32.toNatClampNeg t1_7) t0_7) v1_4 v2_4 r8 M_8 e8) jw_X6_isRow ji_X6_isRow jmX6_278 rfl rfl ⟨(Nat.le_of_ble_eq_true rfl), (Nat.le_of_ble_eq_true rfl)⟩ rfl hl.1 rfl (Nat.le_of_ble_eq_true rfl) dX6_whatKind_104 ⟨Nat.zero_le _, Nat.zero_le _⟩) hS (fun H locs hP hS => ?_)
                refine lv_if_eq (tgt := 117) hx hb dX6_whatKind_107 rfl (fun c107 => ?_) (fun c107 => ?_)
                · replace h := jh_t h c107
                  refine lv_iconst (v := 0) hx hb dX6_whatKind_117 jci_0 ?_
                  refine lv_ior hx hb dX6_whatKind_118 ?_
                  refine lv_istore (lv' := [(5, .int (v5_7 ||| 0)), (0, .ref (jO X 16)), (1, .int v1_4), (2, .int v2_4), (3, .int v3_4), (6, .int v6_7)]) hx hb dX6_whatKind_119 hl (Nat.le_of_ble_eq_true rfl) rfl (fun ls hl => ?_)
                  refine lv_iinc (v := (v6_7 + 1)) (lv' := [(6, .int (v6_7 + 1)), (5, .int (v5_7 ||| 0)), (0, .ref (jO X 16)), (1, .int v1_4), (2, .int v2_4), (3, .int v3_4)]) hx hb dX6_whatKind_121 hl (k := 5) rfl (congrArg _ jci_1) (Nat.le_of_ble_eq_true rfl) rfl (fun ls hl => ?_)
                  refine lv_goto (tgt := 40) hx hb dX6_whatKind_124 rfl ?_
                  exact ih40 M_8 _ _ (v5_7 ||| 0) (v6_7 + 1) _ h hP hS (lv_sub hl [2, 3, 4, 5, 1, 0] rfl)
                · replace h := jh_f h c107
                  refine lv_iconst (v := 1) hx hb dX6_whatKind_110 jci_1 ?_
                  refine lv_iload hx hb dX6_whatKind_111 (lv_at hl 5 rfl) ?_
                  refine lv_ishl hx hb dX6_whatKind_113 ?_
                  refine lv_goto (tgt := 118) hx hb dX6_whatKind_114 rfl ?_
                  refine lv_ior hx hb dX6_whatKind_118 ?_
                  refine lv_istore (lv' := [(5, .int (v5_7 ||| ((1 : Int32) <<< (v6_7 &&& 31)))), (0, .ref (jO X 16)), (1, .int v1_4), (2, .int v2_4), (3, .int v3_4), (6, .int v6_7)]) hx hb dX6_whatKind_119 hl (Nat.le_of_ble_eq_true rfl) rfl (fun ls hl => ?_)
                  refine lv_iinc (v := (v6_7 + 1)) (lv' := [(6, .int (v6_7 + 1)), (5, .int (v5_7 ||| ((1 : Int32) <<< (v6_7 &&& 31)))), (0, .ref (jO X 16)), (1, .int v1_4), (2, .int v2_4), (3, .int v3_4)]) hx hb dX6_whatKind_121 hl (k := 5) rfl (congrArg _ jci_1) (Nat.le_of_ble_eq_true rfl) rfl (fun ls hl => ?_)
                  refine lv_goto (tgt := 40) hx hb dX6_whatKind_124 rfl ?_
                  exact ih40 M_8 _ _ (v5_7 ||| ((1 : Int32) <<< (v6_7 &&& 31))) (v6_7 + 1) _ h hP hS (lv_sub hl [2, 3, 4, 5, 1, 0] rfl)
              refine lv_icmp_ne (tgt := 92) hx hb dX6_whatKind_84 rfl (fun c84 => ?_) (fun c84 => ?_)
              · replace h := jh_f h c84
                refine lv_aload_n hx hb dX6_whatKind_92 rfl (lv_at hl 0 rfl) ?_
                refine jr_get (k := 2) hx hb hts hown hK hP jb_16 (Nat.le_of_ble_eq_true rfl) jlX6_13 rfl dX6_whatKind_93 ?_
                refine lv_iload_n hx hb dX6_whatKind_96 rfl (lv_at hl 2 rfl) ?_
                obtain ⟨g97, h⟩ := jh_gd h
                refine jr_ald (n := 8) hx hb hK hP jb_16 rfl g97 dX6_whatKind_97 ?_
                exact J98 (ju M_6 16 1 (Int32.toNatClampNeg t1_6) t0_6) _ _ v5_6 v6_6 ((ju M_6 16 1 (Int32.toNatClampNeg t1_6) t0_6) 16 2 (Int32.toNatClampNeg v2_4)) v2_4 _ h hP hS hl
              · replace h := jh_t h c84
                refine lv_iload hx hb dX6_whatKind_87 (lv_at hl 5 rfl) ?_
                refine lv_goto (tgt := 98) hx hb dX6_whatKind_89 rfl ?_
                exact J98 (ju M_6 16 1 (Int32.toNatClampNeg t1_6) t0_6) _ _ v5_6 v6_6 v6_6 v2_4 _ h hP hS hl
            refine lv_if_ne (tgt := 70) hx hb dX6_whatKind_62 rfl (fun c62 => ?_) (fun c62 => ?_)
            · replace h := jh_f h c62
              refine lv_aload_n hx hb dX6_whatKind_70 rfl (lv_at hl 0 rfl) ?_
              refine jr_get (k := 1) hx hb hts hown hK hP jb_16 (Nat.le_of_ble_eq_true rfl) jlX6_7 rfl dX6_whatKind_71 ?_
              refine lv_iload_n hx hb dX6_whatKind_74 rfl (lv_at hl 2 rfl) ?_
              obtain ⟨g75, h⟩ := jh_gd h
              refine jr_ald (n := 8) hx hb hK hP jb_16 rfl g75 dX6_whatKind_75 ?_
              exact J76 M_5 _ _ v5_5 v6_5 (M_5 16 1 (Int32.toNatClampNeg v2_4)) v2_4 _ h hP hS hl
            · replace h := jh_t h c62
              refine lv_iload hx hb dX6_whatKind_65 (lv_at hl 5 rfl) ?_
              refine lv_goto (tgt := 76) hx hb dX6_whatKind_67 rfl ?_
              exact J76 M_5 _ _ v5_5 v6_5 v6_5 v2_4 _ h hP hS hl
        refine lv_if_ne (tgt := 51) hx hb dX6_whatKind_43 rfl (fun c43 => ?_) (fun c43 => ?_)
        · replace h := jh_f h c43
          refine lv_bipush (v := 10) hx hb dX6_whatKind_51 jcb_10 ?_
          exact J53 M_4 _ _ v5_4 v6_4 10 v6_4 _ h hP hS hl
        · replace h := jh_t h c43
          refine lv_bipush (v := 6) hx hb dX6_whatKind_46 jcb_6 ?_
          refine lv_goto (tgt := 53) hx hb dX6_whatKind_48 rfl ?_
          exact J53 M_4 _ _ v5_4 v6_4 6 v6_4 _ h hP hS hl
    exact L40 v1 v2 v3 10000 M_3 _ _ 0 0 _ h hP hS (lv_sub hl [3, 4, 5, 6, 1, 0] rfl)
  · replace h := jh_f h c20
    refine lv_aload_n hx hb dX6_whatKind_23 rfl (lv_at hl 1 rfl) ?_
    refine lv_iload hx hb dX6_whatKind_24 (lv_at hl 0 rfl) ?_
    obtain ⟨r9, M_9, e9, h⟩ := jh_b2 h
    refine jr_km (jr_rv (As := [.int (f_X6_wrongBit (f_X6_wrongBoth (ju M 16 11 0 0) v1 v2) v3 1)]) (rest := []) S hK hP jb_16 rfl (m_X6_refuse l X A hs (ju M 16 11 0 0) (f_X6_wrongBit (f_X6_wrongBoth (ju M 16 11 0 0) v1 v2) v3 1) r9 M_9 e9) jw_X6_refuse ji_X6_refuse jmX6_143 rfl rfl ⟨(Nat.le_of_ble_eq_true rfl), (Nat.le_of_ble_eq_true rfl)⟩ rfl hl.1 rfl (Nat.le_of_ble_eq_true rfl) dX6_whatKind_26 ⟨Nat.zero_le _, Nat.zero_le _⟩) hS (fun H locs hP hS => ?_)
    exact je_mi hx hb hr hlocks hK hP hS h dX6_whatKind_29
def f_X6_two_l156 : Nat → jm → Int32 → Option (Int32 × jm)
  | 0, _, _ => none
  | k_5 + 1, M_5, v5_5 => (if 4 ≤ v5_5 then (some ((-9), M_5)) else (jgd (2 * v5_5) 8 (jgd (2 * ((2 * (1 - (v5_5 / 2))) + (v5_5 - v5_5 / 2 * 2))) 8 (if (M_5 16 37 (Int32.toNatClampNeg (2 * v5_5))) < (M_5 16 37 (Int32.toNatClampNeg (2 * ((2 * (1 - (v5_5 / 2))) + (v5_5 - v5_5 / 2 * 2))))) then ((f_X6_two_l156 k_5) M_5 (v5_5 + 1)) else (jgd ((2 * v5_5) + 1) 8 (jgd ((2 * (((2 * (v5_5 / 2)) + 1) - (v5_5 - v5_5 / 2 * 2))) + 1) 8 (if (M_5 16 37 (Int32.toNatClampNeg ((2 * v5_5) + 1))) < (M_5 16 37 (Int32.toNatClampNeg ((2 * (((2 * (v5_5 / 2)) + 1) - (v5_5 - v5_5 / 2 * 2))) + 1))) then ((f_X6_two_l156 k_5) M_5 (v5_5 + 1)) else (some (((10 * (v5_5 / 2)) + (v5_5 - v5_5 / 2 * 2)), M_5)))))))))
def f_X6_two_l58 (v1_4 : Int32) (v2_4 : Int32) (v3_4 : Int32) : Nat → jm → Int32 → Option (Int32 × jm)
  | 0, _, _ => none
  | k_4 + 1, M_4, v5_4 => (if 4 ≤ v5_4 then (f_X6_two_l156 10000 M_4 0) else (jgd v1_4 8 (jgd v2_4 8 (jb (f_X6_goEvenings (ju (ju M_4 16 4 (Int32.toNatClampNeg v1_4) (1 - (v5_4 / 2))) 16 4 (Int32.toNatClampNeg v2_4) (1 - (v5_4 - v5_4 / 2 * 2))) v3_4) fun M_6 => (jb (f_X6_owersOf M_6 v1_4) fun r7 => (jb (f_X6_onesOf r7) fun r8 => (jgd (2 * v5_4) 8 (jb (f_X6_owersOf (ju M_6 16 37 (Int32.toNatClampNeg (2 * v5_4)) (r8 - (1 - (v5_4 / 2)))) v2_4) fun r9 => (jb (f_X6_onesOf r9) fun r10 => (jgd ((2 * v5_4) + 1) 8 (jb (f_X6_again (ju (ju M_6 16 37 (Int32.toNatClampNeg (2 * v5_4)) (r8 - (1 - (v5_4 / 2)))) 16 37 (Int32.toNatClampNeg ((2 * v5_4) + 1)) (r10 - (1 - (v5_4 - v5_4 / 2 * 2))))) fun M_11 => ((f_X6_two_l58 v1_4 v2_4 v3_4 k_4) M_11 (v5_4 + 1)))))))))))))
def f_X6_two_j37 (M_2 : jm) (v1_2 : Int32) (v2_2 : Int32) (v3_2 : Int32) (t0_2 : Int32) : Option (Int32 × jm) := (if 0 ≤ t0_2 then (jb (f_X6_think M_2) fun M_3 => (f_X6_two_l58 v1_2 v2_2 v3_2 10000 M_3 0)) else (jb2 (f_X6_refuse M_2 t0_2) fun r12 M_12 => (some (r12, M_12))))
def f_X6_two_j36 (M_13 : jm) (v1_13 : Int32) (v2_13 : Int32) (v3_13 : Int32) : Option (Int32 × jm) := (f_X6_two_j37 M_13 v1_13 v2_13 v3_13 (-1))
def f_X6_two (M : jm) (v1 : Int32) (v2 : Int32) (v3 : Int32) : Option (Int32 × jm) := (if (f_X6_isHouse (ju M 16 11 0 0) v1) = 0 then (f_X6_two_j36 (ju M 16 11 0 0) v1 v2 v3) else (if (f_X6_isHouse (ju M 16 11 0 0) v2) = 0 then (f_X6_two_j36 (ju M 16 11 0 0) v1 v2 v3) else (if v1 = v2 then (f_X6_two_j36 (ju M 16 11 0 0) v1 v2 v3) else (f_X6_two_j37 (ju M 16 11 0 0) v1 v2 v3 (f_X6_wrongNumber v3 0 60)))))
set_option maxRecDepth 100000 in
theorem m_X6_two (l : Launch) (X : jX) (A : Nat → Prop) (hs : jst X A) (M : jm) (v1 : Int32) (v2 : Int32) (v3 : Int32) (r : Int32) (N : jm) (h : f_X6_two M v1 v2 v3 = some (r, N)) : Met l yX6_two (jws yX6_two cX6_two 8 (some .int)) (jrm 6 136) (va_Pc [.ref (jO X 16), .int v1, .int v2, .int v3] (jB X M)) (jQm X A (some (.int r)) N) 0 0 A := by
  refine jm_of (by decide) (Nat.le_of_ble_eq_true rfl) ?_
  intro p e s m args below meth c ls S hr hlocks hB hl
  have S : CallFix p m c cX6_two 8 s args jtb RX6 := S
  obtain ⟨hx, hb, hml, hown, hts⟩ := id S
  obtain ⟨hP, hK⟩ := hB
  have hN := hK.2
  have hS : va_S A s.heap s.heap [] := va_S.rf
  have hl : lv_has ls 8 [(0, .ref (jO X 16)), (1, .int v1), (2, .int v2), (3, .int v3)] := hl
  refine lv_aload_n hx hb dX6_two_0 rfl (lv_at hl 0 rfl) ?_
  refine lv_iconst (v := 0) hx hb dX6_two_1 jci_0 ?_
  refine jr_put (k := 11) (z := 0) hx hb hts hown hK hP hs hS jb_16 (Nat.le_of_ble_eq_true rfl) jlX6_79 rfl (Or.inl rfl) rfl rfl rfl dX6_two_2 (fun H locs hP hS => ?_)
  refine lv_aload_n hx hb dX6_two_5 rfl (lv_at hl 0 rfl) ?_
  refine lv_iload_n hx hb dX6_two_6 rfl (lv_at hl 1 rfl) ?_
  refine jr_kp (jr_rv (As := [.int v1]) (rest := []) S hK hP jb_16 rfl (m_X6_isHouse l X (ju M 16 11 0 0) v1 _ rfl) jw_X6_isHouse ji_X6_isHouse jmX6_181 rfl rfl ⟨(Nat.le_of_ble_eq_true rfl), (Nat.le_of_ble_eq_true rfl)⟩ rfl hl.1 rfl (Nat.le_of_ble_eq_true rfl) dX6_two_7 ⟨Nat.zero_le _, Nat.zero_le _⟩) ?_
  have J37 : ∀ (M_2 : jm) (H : Heap) (locs : List Loc) (v1_2 : Int32) (v2_2 : Int32) (v3_2 : Int32) (t0_2 : Int32) (ls : Array Slot), f_X6_two_j37 M_2 v1_2 v2_2 v3_2 t0_2 = some (r, N) → jrp X M_2 H → va_S A s.heap H locs → lv_has ls 8 [(0, .ref (jO X 16)), (1, .int v1_2), (2, .int v2_2), (3, .int v3_2)] → W p l e (jrm 6 136) s m args below meth c H locs 0 0 (MQ below (jQm X A (some (.int r)) N) args s 0 0 A) (F0 m 37 ls [.int t0_2]) := by
    intro M_2 H locs v1_2 v2_2 v3_2 t0_2 ls h hP hS hl
    refine lv_istore (lv' := [(4, .int t0_2), (0, .ref (jO X 16)), (1, .int v1_2), (2, .int v2_2), (3, .int v3_2)]) hx hb dX6_two_37 hl (Nat.le_of_ble_eq_true rfl) rfl (fun ls hl => ?_)
    refine lv_iload hx hb dX6_two_39 (lv_at hl 0 rfl) ?_
    refine lv_if_ge (tgt := 51) hx hb dX6_two_41 rfl (fun c41 => ?_) (fun c41 => ?_)
    · replace h := jh_t h c41
      refine lv_aload_n hx hb dX6_two_51 rfl (lv_at hl 1 rfl) ?_
      obtain ⟨M_3, e3, h⟩ := jh_b h
      refine jr_kv (jr_rv (As := []) (rest := []) S hK hP jb_16 rfl (m_X6_think l X A hs M_2  M_3 e3) jw_X6_think ji_X6_think jmX6_196 rfl rfl ⟨(Nat.le_of_ble_eq_true rfl), (Nat.le_of_ble_eq_true rfl)⟩ rfl hl.1 rfl (Nat.le_of_ble_eq_true rfl) dX6_two_52 ⟨Nat.zero_le _, Nat.zero_le _⟩) hS (fun H locs hP hS => ?_)
      refine lv_iconst (v := 0) hx hb dX6_two_55 jci_0 ?_
      refine lv_istore (lv' := [(5, .int 0), (4, .int t0_2), (0, .ref (jO X 16)), (1, .int v1_2), (2, .int v2_2), (3, .int v3_2)]) hx hb dX6_two_56 hl (Nat.le_of_ble_eq_true rfl) rfl (fun ls hl => ?_)
      have L58 : ∀ (v1_4 : Int32) (v2_4 : Int32) (v3_4 : Int32) (k_4 : Nat) (M_4 : jm) (H : Heap) (locs : List Loc) (v5_4 : Int32) (ls : Array Slot), f_X6_two_l58 v1_4 v2_4 v3_4 k_4 M_4 v5_4 = some (r, N) → jrp X M_4 H → va_S A s.heap H locs → lv_has ls 8 [(0, .ref (jO X 16)), (1, .int v1_4), (2, .int v2_4), (3, .int v3_4), (5, .int v5_4)] → W p l e (jrm 6 136) s m args below meth c H locs 0 0 (MQ below (jQm X A (some (.int r)) N) args s 0 0 A) (F0 m 58 ls []) := by
        intro v1_4 v2_4 v3_4 k_4
        induction k_4 with
        | zero => intro M_4 H locs v5_4 ls h; exact jh_0 h
        | succ k_4 ih58 =>
          intro M_4 H locs v5_4 ls h hP hS hl
          refine lv_iload hx hb dX6_two_58 (lv_at hl 4 rfl) ?_
          refine lv_iconst (v := 4) hx hb dX6_two_60 jci_4 ?_
          refine lv_icmp_ge (tgt := 153) hx hb dX6_two_61 rfl (fun c61 => ?_) (fun c61 => ?_)
          · replace h := jh_t h c61
            refine lv_iconst (v := 0) hx hb dX6_two_153 jci_0 ?_
            refine lv_istore (lv' := [(5, .int 0), (0, .ref (jO X 16)), (1, .int v1_4), (2, .int v2_4), (3, .int v3_4)]) hx hb dX6_two_154 hl (Nat.le_of_ble_eq_true rfl) rfl (fun ls hl => ?_)
            have L156 : ∀ (k_5 : Nat) (M_5 : jm) (H : Heap) (locs : List Loc) (v5_5 : Int32) (ls : Array Slot), f_X6_two_l156 k_5 M_5 v5_5 = some (r, N) → jrp X M_5 H → va_S A s.heap H locs → lv_has ls 8 [(0, .ref (jO X 16)), (5, .int v5_5)] → W p l e (jrm 6 136) s m args below meth c H locs 0 0 (MQ below (jQm X A (some (.int r)) N) args s 0 0 A) (F0 m 156 ls []) := by
              intro k_5
              induction k_5 with
              | zero => intro M_5 H locs v5_5 ls h; exact jh_0 h
              | succ k_5 ih156 =>
                intro M_5 H locs v5_5 ls h hP hS hl
                refine lv_iload hx hb dX6_two_156 (lv_at hl 1 rfl) ?_
                refine lv_iconst (v := 4) hx hb dX6_two_158 jci_4 ?_
                refine lv_icmp_ge (tgt := 257) hx hb dX6_two_159 rfl (fun c159 => ?_) (fun c159 => ?_)
                · replace h := jh_t h c159
                  refine lv_bipush (v := (-9)) hx hb dX6_two_257 jcb_m9 ?_
                  exact je_mi hx hb hr hlocks hK hP hS h dX6_two_259
                · replace h := jh_f h c159
                  refine lv_iconst (v := 2) hx hb dX6_two_162 jci_2 ?_
                  refine lv_iconst (v := 1) hx hb dX6_two_163 jci_1 ?_
                  refine lv_iload hx hb dX6_two_164 (lv_at hl 1 rfl) ?_
                  refine lv_iconst (v := 2) hx hb dX6_two_166 jci_2 ?_
                  refine lv_idiv hx hb dX6_two_167 (by decide) ?_
                  refine lv_isub hx hb dX6_two_168 ?_
                  refine lv_imul hx hb dX6_two_169 ?_
                  refine lv_iload hx hb dX6_two_170 (lv_at hl 1 rfl) ?_
                  refine lv_iconst (v := 2) hx hb dX6_two_172 jci_2 ?_
                  refine lv_irem hx hb dX6_two_173 (by decide) ?_
                  refine lv_iadd hx hb dX6_two_174 ?_
                  refine lv_istore (lv' := [(6, .int ((2 * (1 - (v5_5 / 2))) + (v5_5 - v5_5 / 2 * 2))), (0, .ref (jO X 16)), (5, .int v5_5)]) hx hb dX6_two_175 hl (Nat.le_of_ble_eq_true rfl) rfl (fun ls hl => ?_)
                  refine lv_iconst (v := 2) hx hb dX6_two_177 jci_2 ?_
                  refine lv_iload hx hb dX6_two_178 (lv_at hl 2 rfl) ?_
                  refine lv_iconst (v := 2) hx hb dX6_two_180 jci_2 ?_
                  refine lv_idiv hx hb dX6_two_181 (by decide) ?_
                  refine lv_imul hx hb dX6_two_182 ?_
                  refine lv_iconst (v := 1) hx hb dX6_two_183 jci_1 ?_
                  refine lv_iadd hx hb dX6_two_184 ?_
                  refine lv_iload hx hb dX6_two_185 (lv_at hl 2 rfl) ?_
                  refine lv_iconst (v := 2) hx hb dX6_two_187 jci_2 ?_
                  refine lv_irem hx hb dX6_two_188 (by decide) ?_
                  refine lv_isub hx hb dX6_two_189 ?_
                  refine lv_istore (lv' := [(7, .int (((2 * (v5_5 / 2)) + 1) - (v5_5 - v5_5 / 2 * 2))), (6, .int ((2 * (1 - (v5_5 / 2))) + (v5_5 - v5_5 / 2 * 2))), (0, .ref (jO X 16)), (5, .int v5_5)]) hx hb dX6_two_190 hl (Nat.le_of_ble_eq_true rfl) rfl (fun ls hl => ?_)
                  refine lv_aload_n hx hb dX6_two_192 rfl (lv_at hl 2 rfl) ?_
                  refine jr_get (k := 37) hx hb hts hown hK hP jb_16 (Nat.le_of_ble_eq_true rfl) jlX6_76 rfl dX6_two_193 ?_
                  refine lv_iconst (v := 2) hx hb dX6_two_196 jci_2 ?_
                  refine lv_iload hx hb dX6_two_197 (lv_at hl 3 rfl) ?_
                  refine lv_imul hx hb dX6_two_199 ?_
                  obtain ⟨g200, h⟩ := jh_gd h
                  refine jr_ald (n := 8) hx hb hK hP jb_16 rfl g200 dX6_two_200 ?_
                  refine lv_aload_n hx hb dX6_two_201 rfl (lv_at hl 2 rfl) ?_
                  refine jr_get (k := 37) hx hb hts hown hK hP jb_16 (Nat.le_of_ble_eq_true rfl) jlX6_76 rfl dX6_two_202 ?_
                  refine lv_iconst (v := 2) hx hb dX6_two_205 jci_2 ?_
                  refine lv_iload hx hb dX6_two_206 (lv_at hl 1 rfl) ?_
                  refine lv_imul hx hb dX6_two_208 ?_
                  obtain ⟨g209, h⟩ := jh_gd h
                  refine jr_ald (n := 8) hx hb hK hP jb_16 rfl g209 dX6_two_209 ?_
                  refine lv_icmp_lt (tgt := 251) hx hb dX6_two_210 rfl (fun c210 => ?_) (fun c210 => ?_)
                  · replace h := jh_t h c210
                    refine lv_iinc (v := (v5_5 + 1)) (lv' := [(5, .int (v5_5 + 1)), (7, .int (((2 * (v5_5 / 2)) + 1) - (v5_5 - v5_5 / 2 * 2))), (6, .int ((2 * (1 - (v5_5 / 2))) + (v5_5 - v5_5 / 2 * 2))), (0, .ref (jO X 16))]) hx hb dX6_two_251 hl (k := 3) rfl (congrArg _ jci_1) (Nat.le_of_ble_eq_true rfl) rfl (fun ls hl => ?_)
                    refine lv_goto (tgt := 156) hx hb dX6_two_254 rfl ?_
                    exact ih156 M_5 _ _ (v5_5 + 1) _ h hP hS (lv_sub hl [3, 0] rfl)
                  · replace h := jh_f h c210
                    refine lv_aload_n hx hb dX6_two_213 rfl (lv_at hl 2 rfl) ?_
                    refine jr_get (k := 37) hx hb hts hown hK hP jb_16 (Nat.le_of_ble_eq_true rfl) jlX6_76 rfl dX6_two_214 ?_
                    refine lv_iconst (v := 2) hx hb dX6_two_217 jci_2 ?_
                    refine lv_iload hx hb dX6_two_218 (lv_at hl 3 rfl) ?_
                    refine lv_imul hx hb dX6_two_220 ?_
                    refine lv_iconst (v := 1) hx hb dX6_two_221 jci_1 ?_
                    refine lv_iadd hx hb dX6_two_222 ?_
                    obtain ⟨g223, h⟩ := jh_gd h
                    refine jr_ald (n := 8) hx hb hK hP jb_16 rfl g223 dX6_two_223 ?_
                    refine lv_aload_n hx hb dX6_two_224 rfl (lv_at hl 2 rfl) ?_
                    refine jr_get (k := 37) hx hb hts hown hK hP jb_16 (Nat.le_of_ble_eq_true rfl) jlX6_76 rfl dX6_two_225 ?_
                    refine lv_iconst (v := 2) hx hb dX6_two_228 jci_2 ?_
                    refine lv_iload hx hb dX6_two_229 (lv_at hl 0 rfl) ?_
                    refine lv_imul hx hb dX6_two_231 ?_
                    refine lv_iconst (v := 1) hx hb dX6_two_232 jci_1 ?_
                    refine lv_iadd hx hb dX6_two_233 ?_
                    obtain ⟨g234, h⟩ := jh_gd h
                    refine jr_ald (n := 8) hx hb hK hP jb_16 rfl g234 dX6_two_234 ?_
                    refine lv_icmp_lt (tgt := 251) hx hb dX6_two_235 rfl (fun c235 => ?_) (fun c235 => ?_)
                    · replace h := jh_t h c235
                      refine lv_iinc (v := (v5_5 + 1)) (lv' := [(5, .int (v5_5 + 1)), (7, .int (((2 * (v5_5 / 2)) + 1) - (v5_5 - v5_5 / 2 * 2))), (6, .int ((2 * (1 - (v5_5 / 2))) + (v5_5 - v5_5 / 2 * 2))), (0, .ref (jO X 16))]) hx hb dX6_two_251 hl (k := 3) rfl (congrArg _ jci_1) (Nat.le_of_ble_eq_true rfl) rfl (fun ls hl => ?_)
                      refine lv_goto (tgt := 156) hx hb dX6_two_254 rfl ?_
                      exact ih156 M_5 _ _ (v5_5 + 1) _ h hP hS (lv_sub hl [3, 0] rfl)
                    · replace h := jh_f h c235
                      refine lv_bipush (v := 10) hx hb dX6_two_238 jcb_10 ?_
                      refine lv_iload hx hb dX6_two_240 (lv_at hl 3 rfl) ?_
                      refine lv_iconst (v := 2) hx hb dX6_two_242 jci_2 ?_
                      refine lv_idiv hx hb dX6_two_243 (by decide) ?_
                      refine lv_imul hx hb dX6_two_244 ?_
                      refine lv_iload hx hb dX6_two_245 (lv_at hl 3 rfl) ?_
                      refine lv_iconst (v := 2) hx hb dX6_two_247 jci_2 ?_
                      refine lv_irem hx hb dX6_two_248 (by decide) ?_
                      refine lv_iadd hx hb dX6_two_249 ?_
                      exact je_mi hx hb hr hlocks hK hP hS h dX6_two_250
            exact L156 10000 M_4 _ _ 0 _ h hP hS (lv_sub hl [1, 0] rfl)
          · replace h := jh_f h c61
            refine lv_aload_n hx hb dX6_two_64 rfl (lv_at hl 0 rfl) ?_
            refine jr_get (k := 4) hx hb hts hown hK hP jb_16 (Nat.le_of_ble_eq_true rfl) jlX6_19 rfl dX6_two_65 ?_
            refine lv_iload_n hx hb dX6_two_68 rfl (lv_at hl 1 rfl) ?_
            refine lv_iconst (v := 1) hx hb dX6_two_69 jci_1 ?_
            refine lv_iload hx hb dX6_two_70 (lv_at hl 4 rfl) ?_
            refine lv_iconst (v := 2) hx hb dX6_two_72 jci_2 ?_
            refine lv_idiv hx hb dX6_two_73 (by decide) ?_
            refine lv_isub hx hb dX6_two_74 ?_
            obtain ⟨g75, h⟩ := jh_gd h
            refine jr_ast (n := 8) hx hb hK hP hs hS jb_16 rfl g75 dX6_two_75 (fun H locs hP hS => ?_)
            refine lv_aload_n hx hb dX6_two_76 rfl (lv_at hl 0 rfl) ?_
            refine jr_get (k := 4) hx hb hts hown hK hP jb_16 (Nat.le_of_ble_eq_true rfl) jlX6_19 rfl dX6_two_77 ?_
            refine lv_iload_n hx hb dX6_two_80 rfl (lv_at hl 2 rfl) ?_
            refine lv_iconst (v := 1) hx hb dX6_two_81 jci_1 ?_
            refine lv_iload hx hb dX6_two_82 (lv_at hl 4 rfl) ?_
            refine lv_iconst (v := 2) hx hb dX6_two_84 jci_2 ?_
            refine lv_irem hx hb dX6_two_85 (by decide) ?_
            refine lv_isub hx hb dX6_two_86 ?_
            obtain ⟨g87, h⟩ := jh_gd h
            refine jr_ast (n := 8) hx hb hK hP hs hS jb_16 rfl g87 dX6_two_87 (fun H locs hP hS => ?_)
            refine lv_aload_n hx hb dX6_two_88 rfl (lv_at hl 0 rfl) ?_
            refine lv_iload_n hx hb dX6_two_89 rfl (lv_at hl 3 rfl) ?_
            obtain ⟨M_6, e6, h⟩ := jh_b h
            refine jr_kv (jr_rv (As := [.int v3_4]) (rest := []) S hK hP jb_16 rfl (m_X6_goEvenings l X A hs (ju (ju M_4 16 4 (Int32.toNatClampNeg v1_4) (1 - (v5_4 / 2))) 16 4 (Int32.toNatClampNeg v2_4) (1 - (v5_4 - v5_4 / 2 * 2))) v3_4 M_6 e6) jw_X6_goEvenings ji_X6_goEvenings jmX6_189 rfl rfl ⟨(Nat.le_of_ble_eq_true rfl), (Nat.le_of_ble_eq_true rfl)⟩ rfl hl.1 rfl (Nat.le_of_ble_eq_true rfl) dX6_two_90 ⟨Nat.zero_le _, Nat.zero_le _⟩) hS (fun H locs hP hS => ?_)
            refine lv_aload_n hx hb dX6_two_93 rfl (lv_at hl 0 rfl) ?_
            refine jr_get (k := 37) hx hb hts hown hK hP jb_16 (Nat.le_of_ble_eq_true rfl) jlX6_76 rfl dX6_two_94 ?_
            refine lv_iconst (v := 2) hx hb dX6_two_97 jci_2 ?_
            refine lv_iload hx hb dX6_two_98 (lv_at hl 4 rfl) ?_
            refine lv_imul hx hb dX6_two_100 ?_
            refine lv_aload_n hx hb dX6_two_101 rfl (lv_at hl 0 rfl) ?_
            refine lv_iload_n hx hb dX6_two_102 rfl (lv_at hl 1 rfl) ?_
            obtain ⟨r7, e7, h⟩ := jh_b h
            refine jr_kp (jr_rv (As := [.int v1_4]) (rest := [.int (2 * v5_4), .ref (jA X 16 37)]) S hK hP jb_16 rfl (m_X6_owersOf l X M_6 v1_4 r7 e7) jw_X6_owersOf ji_X6_owersOf jmX6_229 rfl rfl ⟨(Nat.le_of_ble_eq_true rfl), (Nat.le_of_ble_eq_true rfl)⟩ rfl hl.1 rfl (Nat.le_of_ble_eq_true rfl) dX6_two_103 ⟨Nat.zero_le _, Nat.zero_le _⟩) ?_
            obtain ⟨r8, e8, h⟩ := jh_b h
            refine jr_kp (jr_rs (As := [.int r7]) (rest := [.int (2 * v5_4), .ref (jA X 16 37)]) S hN (m_X6_onesOf l r7 r8 e8) jw_X6_onesOf js_X6_onesOf jmX6_119 rfl rfl ⟨(Nat.le_of_ble_eq_true rfl), (Nat.le_of_ble_eq_true rfl)⟩ rfl hl.1 rfl (Nat.le_of_ble_eq_true rfl) dX6_two_106 ⟨Nat.zero_le _, Nat.zero_le _⟩) ?_
            refine lv_iconst (v := 1) hx hb dX6_two_109 jci_1 ?_
            refine lv_iload hx hb dX6_two_110 (lv_at hl 4 rfl) ?_
            refine lv_iconst (v := 2) hx hb dX6_two_112 jci_2 ?_
            refine lv_idiv hx hb dX6_two_113 (by decide) ?_
            refine lv_isub hx hb dX6_two_114 ?_
            refine lv_isub hx hb dX6_two_115 ?_
            obtain ⟨g116, h⟩ := jh_gd h
            refine jr_ast (n := 8) hx hb hK hP hs hS jb_16 rfl g116 dX6_two_116 (fun H locs hP hS => ?_)
            refine lv_aload_n hx hb dX6_two_117 rfl (lv_at hl 0 rfl) ?_
            refine jr_get (k := 37) hx hb hts hown hK hP jb_16 (Nat.le_of_ble_eq_true rfl) jlX6_76 rfl dX6_two_118 ?_
            refine lv_iconst (v := 2) hx hb dX6_two_121 jci_2 ?_
            refine lv_iload hx hb dX6_two_122 (lv_at hl 4 rfl) ?_
            refine lv_imul hx hb dX6_two_124 ?_
            refine lv_iconst (v := 1) hx hb dX6_two_125 jci_1 ?_
            refine lv_iadd hx hb dX6_two_126 ?_
            refine lv_aload_n hx hb dX6_two_127 rfl (lv_at hl 0 rfl) ?_
            refine lv_iload_n hx hb dX6_two_128 rfl (lv_at hl 2 rfl) ?_
            obtain ⟨r9, e9, h⟩ := jh_b h
            refine jr_kp (jr_rv (As := [.int v2_4]) (rest := [.int ((2 * v5_4) + 1), .ref (jA X 16 37)]) S hK hP jb_16 rfl (m_X6_owersOf l X (ju M_6 16 37 (Int32.toNatClampNeg (2 * v5_4)) (r8 - (1 - (v5_4 / 2)))) v2_4 r9 e9) jw_X6_owersOf ji_X6_owersOf jmX6_229 rfl rfl ⟨(Nat.le_of_ble_eq_true rfl), (Nat.le_of_ble_eq_true rfl)⟩ rfl hl.1 rfl (Nat.le_of_ble_eq_true rfl) dX6_two_129 ⟨Nat.zero_le _, Nat.zero_le _⟩) ?_
            obtain ⟨r10, e10, h⟩ := jh_b h
            refine jr_kp (jr_rs (As := [.int r9]) (rest := [.int ((2 * v5_4) + 1), .ref (jA X 16 37)]) S hN (m_X6_onesOf l r9 r10 e10) jw_X6_onesOf js_X6_onesOf jmX6_119 rfl rfl ⟨(Nat.le_of_ble_eq_true rfl), (Nat.le_of_ble_eq_true rfl)⟩ rfl hl.1 rfl (Nat.le_of_ble_eq_true rfl) dX6_two_132 ⟨Nat.zero_le _, Nat.zero_le _⟩) ?_
            refine lv_iconst (v := 1) hx hb dX6_two_135 jci_1 ?_
            refine lv_iload hx hb dX6_two_136 (lv_at hl 4 rfl) ?_
            refine lv_iconst (v := 2) hx hb dX6_two_138 jci_2 ?_
            refine lv_irem hx hb dX6_two_139 (by decide) ?_
            refine lv_isub hx hb dX6_two_140 ?_
            refine lv_isub hx hb dX6_two_141 ?_
            obtain ⟨g142, h⟩ := jh_gd h
            refine jr_ast (n := 8) hx hb hK hP hs hS jb_16 rfl g142 dX6_two_142 (fun H locs hP hS => ?_)
            refine lv_aload_n hx hb dX6_two_143 rfl (lv_at hl 0 rfl) ?_
            obtain ⟨M_11, e11, h⟩ := jh_b h
            refine jr_kv (jr_rv (As := []) (rest := []) S hK hP jb_16 rfl (m_X6_again l X A hs (ju (ju M_6 16 37 (Int32.toNatClampNeg (2 * v5_4)) (r8 - (1 - (v5_4 / 2)))) 16 37 (Int32.toNatClampNeg ((2 * v5_4) + 1)) (r10 - (1 - (v5_4 - v5_4 / 2 * 2))))  M_11 e11) jw_X6_again ji_X6_again jmX6_202 rfl rfl ⟨(Nat.le_of_ble_eq_true rfl), (Nat.le_of_ble_eq_true rfl)⟩ rfl hl.1 rfl (Nat.le_of_ble_eq_true rfl) dX6_two_144 ⟨Nat.zero_le _, Nat.zero_le _⟩) hS (fun H locs hP hS => ?_)
            refine lv_iinc (v := (v5_4 + 1)) (lv' := [(5, .int (v5_4 + 1)), (0, .ref (jO X 16)), (1, .int v1_4), (2, .int v2_4), (3, .int v3_4)]) hx hb dX6_two_147 hl (k := 4) rfl (congrArg _ jci_1) (Nat.le_of_ble_eq_true rfl) rfl (fun ls hl => ?_)
            refine lv_goto (tgt := 58) hx hb dX6_two_150 rfl ?_
            exact ih58 M_11 _ _ (v5_4 + 1) _ h hP hS (lv_sub hl [1, 2, 3, 4, 0] rfl)
      exact L58 v1_2 v2_2 v3_2 10000 M_3 _ _ 0 _ h hP hS (lv_sub hl [2, 3, 4, 5, 0] rfl)
    · replace h := jh_f h c41
      refine lv_aload_n hx hb dX6_two_44 rfl (lv_at hl 1 rfl) ?_
      refine lv_iload hx hb dX6_two_45 (lv_at hl 0 rfl) ?_
      obtain ⟨r12, M_12, e12, h⟩ := jh_b2 h
      refine jr_km (jr_rv (As := [.int t0_2]) (rest := []) S hK hP jb_16 rfl (m_X6_refuse l X A hs M_2 t0_2 r12 M_12 e12) jw_X6_refuse ji_X6_refuse jmX6_143 rfl rfl ⟨(Nat.le_of_ble_eq_true rfl), (Nat.le_of_ble_eq_true rfl)⟩ rfl hl.1 rfl (Nat.le_of_ble_eq_true rfl) dX6_two_47 ⟨Nat.zero_le _, Nat.zero_le _⟩) hS (fun H locs hP hS => ?_)
      exact je_mi hx hb hr hlocks hK hP hS h dX6_two_50
  have J36 : ∀ (M_13 : jm) (H : Heap) (locs : List Loc) (v1_13 : Int32) (v2_13 : Int32) (v3_13 : Int32) (ls : Array Slot), f_X6_two_j36 M_13 v1_13 v2_13 v3_13 = some (r, N) → jrp X M_13 H → va_S A s.heap H locs → lv_has ls 8 [(0, .ref (jO X 16)), (1, .int v1_13), (2, .int v2_13), (3, .int v3_13)] → W p l e (jrm 6 136) s m args below meth c H locs 0 0 (MQ below (jQm X A (some (.int r)) N) args s 0 0 A) (F0 m 36 ls []) := by
    intro M_13 H locs v1_13 v2_13 v3_13 ls h hP hS hl
    refine lv_iconst (v := (-1)) hx hb dX6_two_36 jci_m1 ?_
    exact J37 M_13 _ _ v1_13 v2_13 v3_13 (-1) _ h hP hS hl
  refine lv_if_eq (tgt := 36) hx hb dX6_two_10 rfl (fun c10 => ?_) (fun c10 => ?_)
  · replace h := jh_t h c10
    exact J36 (ju M 16 11 0 0) _ _ v1 v2 v3 _ h hP hS hl
  · replace h := jh_f h c10
    refine lv_aload_n hx hb dX6_two_13 rfl (lv_at hl 0 rfl) ?_
    refine lv_iload_n hx hb dX6_two_14 rfl (lv_at hl 2 rfl) ?_
    refine jr_kp (jr_rv (As := [.int v2]) (rest := []) S hK hP jb_16 rfl (m_X6_isHouse l X (ju M 16 11 0 0) v2 _ rfl) jw_X6_isHouse ji_X6_isHouse jmX6_181 rfl rfl ⟨(Nat.le_of_ble_eq_true rfl), (Nat.le_of_ble_eq_true rfl)⟩ rfl hl.1 rfl (Nat.le_of_ble_eq_true rfl) dX6_two_15 ⟨Nat.zero_le _, Nat.zero_le _⟩) ?_
    refine lv_if_eq (tgt := 36) hx hb dX6_two_18 rfl (fun c18 => ?_) (fun c18 => ?_)
    · replace h := jh_t h c18
      exact J36 (ju M 16 11 0 0) _ _ v1 v2 v3 _ h hP hS hl
    · replace h := jh_f h c18
      refine lv_iload_n hx hb dX6_two_21 rfl (lv_at hl 1 rfl) ?_
      refine lv_iload_n hx hb dX6_two_22 rfl (lv_at hl 2 rfl) ?_
      refine lv_icmp_eq (tgt := 36) hx hb dX6_two_23 rfl (fun c23 => ?_) (fun c23 => ?_)
      · replace h := jh_t h c23
        exact J36 (ju M 16 11 0 0) _ _ v1 v2 v3 _ h hP hS hl
      · replace h := jh_f h c23
        refine lv_iload_n hx hb dX6_two_26 rfl (lv_at hl 3 rfl) ?_
        refine lv_iconst (v := 0) hx hb dX6_two_27 jci_0 ?_
        refine lv_bipush (v := 60) hx hb dX6_two_28 jcb_60 ?_
        refine jr_kp (jr_rs (As := [.int v3, .int 0, .int 60]) (rest := []) S hN (m_X6_wrongNumber l v3 0 60 _ rfl) jw_X6_wrongNumber js_X6_wrongNumber jmX6_240 rfl rfl ⟨(Nat.le_of_ble_eq_true rfl), (Nat.le_of_ble_eq_true rfl)⟩ rfl hl.1 rfl (Nat.le_of_ble_eq_true rfl) dX6_two_30 ⟨Nat.zero_le _, Nat.zero_le _⟩) ?_
        refine lv_goto (tgt := 37) hx hb dX6_two_33 rfl ?_
        exact J37 (ju M 16 11 0 0) _ _ v1 v2 v3 (f_X6_wrongNumber v3 0 60) _ h hP hS hl
def f_X6_divisor_l6 : Nat → Int64 → Int64 → Option Int64
  | 0, _, _ => none
  | k_1 + 1, v4_1, v6_1 => (if (lg_cmp v6_1 0) = 0 then (some v4_1) else (jgl v6_1 ((f_X6_divisor_l6 k_1) v6_1 (v4_1 - v4_1 / v6_1 * v6_1))))
def f_X6_divisor (v0 : Int64) (v2 : Int64) : Option Int64 := (f_X6_divisor_l6 10000 v0 v2)
set_option maxRecDepth 100000 in
theorem m_X6_divisor (l : Launch) (v0 : Int64) (v2 : Int64) (r : Int64) (h : f_X6_divisor v0 v2 = some r) : Met l yX6_divisor (jws yX6_divisor cX6_divisor 10 (some .long)) (jrm 0 0) (va_Pc [.long v0, .long v2] jN) (jQ (.long r)) 0 0 (fun _ => False) := by
  refine jm_of (by decide) (Nat.le_of_ble_eq_true rfl) ?_
  intro p e s m args below meth c ls S hr hlocks hB hl
  have S : CallFix p m c cX6_divisor 10 s args jtb RX6 := S
  obtain ⟨hx, hb, hml, hown, hts⟩ := id S
  have hN := hB
  have hl : lv_has ls 10 [(0, .long v0), (2, .long v2)] := hl
  refine lv_lload_n hx hb dX6_divisor_0 rfl (lv_at hl 0 rfl) ?_
  refine lv_lstore (lv' := [(4, .long v0), (0, .long v0), (2, .long v2)]) hx hb dX6_divisor_1 hl (Nat.le_of_ble_eq_true rfl) rfl (fun ls hl => ?_)
  refine lv_lload_n hx hb dX6_divisor_3 rfl (lv_at hl 2 rfl) ?_
  refine lv_lstore (lv' := [(6, .long v2), (4, .long v0), (0, .long v0), (2, .long v2)]) hx hb dX6_divisor_4 hl (Nat.le_of_ble_eq_true rfl) rfl (fun ls hl => ?_)
  have L6 : ∀ (k_1 : Nat) (v4_1 : Int64) (v6_1 : Int64) (ls : Array Slot), f_X6_divisor_l6 k_1 v4_1 v6_1 = some r → lv_has ls 10 [(4, .long v4_1), (6, .long v6_1)] → W p l e (jrm 0 0) s m args below meth c s.heap [] 0 0 (MQ below (jQ (.long r)) args s 0 0 (fun _ => False)) (F0 m 6 ls []) := by
    intro k_1
    induction k_1 with
    | zero => intro v4_1 v6_1 ls h; exact jh_0 h
    | succ k_1 ih6 =>
      intro v4_1 v6_1 ls h hl
      refine lv_lload hx hb dX6_divisor_6 (lv_at hl 1 rfl) ?_
      refine lv_lconst (v := 0) hx hb dX6_divisor_8 rfl ?_
      refine W.lcmp hx hb dX6_divisor_9 ?_
      refine lv_if_eq (tgt := 31) hx hb dX6_divisor_10 rfl (fun c10 => ?_) (fun c10 => ?_)
      · replace h := jh_t h c10
        refine lv_lload hx hb dX6_divisor_31 (lv_at hl 0 rfl) ?_
        exact je_l hx hb hr hlocks (Option.some.inj h) dX6_divisor_33
      · replace h := jh_f h c10
        refine lv_lload hx hb dX6_divisor_13 (lv_at hl 0 rfl) ?_
        refine lv_lload hx hb dX6_divisor_15 (lv_at hl 1 rfl) ?_
        obtain ⟨gz17, h⟩ := jh_gl h
        refine lv_lrem hx hb dX6_divisor_17 gz17 ?_
        refine lv_lstore (lv' := [(8, .long (v4_1 - v4_1 / v6_1 * v6_1)), (4, .long v4_1), (6, .long v6_1)]) hx hb dX6_divisor_18 hl (Nat.le_of_ble_eq_true rfl) rfl (fun ls hl => ?_)
        refine lv_lload hx hb dX6_divisor_20 (lv_at hl 2 rfl) ?_
        refine lv_lstore (lv' := [(4, .long v6_1), (8, .long (v4_1 - v4_1 / v6_1 * v6_1)), (6, .long v6_1)]) hx hb dX6_divisor_22 hl (Nat.le_of_ble_eq_true rfl) rfl (fun ls hl => ?_)
        refine lv_lload hx hb dX6_divisor_24 (lv_at hl 1 rfl) ?_
        refine lv_lstore (lv' := [(6, .long (v4_1 - v4_1 / v6_1 * v6_1)), (4, .long v6_1), (8, .long (v4_1 - v4_1 / v6_1 * v6_1))]) hx hb dX6_divisor_26 hl (Nat.le_of_ble_eq_true rfl) rfl (fun ls hl => ?_)
        refine lv_goto (tgt := 6) hx hb dX6_divisor_28 rfl ?_
        exact ih6 v6_1 (v4_1 - v4_1 / v6_1 * v6_1) _ h (lv_sub hl [1, 0] rfl)
  exact L6 10000 v0 v2 _ h (lv_sub hl [1, 0] rfl)
def f_X6_partOf (v0 : Int64) (v2 : Int64) (v4 : Int32) : Option Int64 := (if (lg_cmp v0 0) = 0 then (some (Int32.toInt64 v4)) else (jb (f_X6_divisor v0 v2) fun r1 => (if v4 = 0 then (jgl r1 (some (v0 / r1))) else (jgl r1 (some (v2 / r1))))))
set_option maxRecDepth 100000 in
theorem m_X6_partOf (l : Launch) (v0 : Int64) (v2 : Int64) (v4 : Int32) (r : Int64) (h : f_X6_partOf v0 v2 v4 = some r) : Met l yX6_partOf (jws yX6_partOf cX6_partOf 7 (some .long)) (jrm 1 29) (va_Pc [.long v0, .long v2, .int v4] jN) (jQ (.long r)) 0 0 (fun _ => False) := by
  refine jm_of (by decide) (Nat.le_of_ble_eq_true rfl) ?_
  intro p e s m args below meth c ls S hr hlocks hB hl
  have S : CallFix p m c cX6_partOf 7 s args jtb RX6 := S
  obtain ⟨hx, hb, hml, hown, hts⟩ := id S
  have hN := hB
  have hl : lv_has ls 7 [(0, .long v0), (2, .long v2), (4, .int v4)] := hl
  refine lv_lload_n hx hb dX6_partOf_0 rfl (lv_at hl 0 rfl) ?_
  refine lv_lconst (v := 0) hx hb dX6_partOf_1 rfl ?_
  refine W.lcmp hx hb dX6_partOf_2 ?_
  refine lv_if_ne (tgt := 10) hx hb dX6_partOf_3 rfl (fun c3 => ?_) (fun c3 => ?_)
  · replace h := jh_f h c3
    refine lv_lload_n hx hb dX6_partOf_10 rfl (lv_at hl 0 rfl) ?_
    refine lv_lload_n hx hb dX6_partOf_11 rfl (lv_at hl 1 rfl) ?_
    obtain ⟨r1, e1, h⟩ := jh_b h
    refine jr_kp (jr_rs (As := [.long v0, .long v2]) (rest := []) S hN (m_X6_divisor l v0 v2 r1 e1) jw_X6_divisor js_X6_divisor jmX6_281 rfl rfl ⟨(Nat.le_of_ble_eq_true rfl), (Nat.le_of_ble_eq_true rfl)⟩ rfl hl.1 rfl (Nat.le_of_ble_eq_true rfl) dX6_partOf_12 ⟨Nat.zero_le _, Nat.zero_le _⟩) ?_
    refine lv_lstore (lv' := [(5, .long r1), (0, .long v0), (2, .long v2), (4, .int v4)]) hx hb dX6_partOf_15 hl (Nat.le_of_ble_eq_true rfl) rfl (fun ls hl => ?_)
    refine lv_iload hx hb dX6_partOf_17 (lv_at hl 3 rfl) ?_
    refine lv_if_ne (tgt := 29) hx hb dX6_partOf_19 rfl (fun c19 => ?_) (fun c19 => ?_)
    · replace h := jh_f h c19
      refine lv_lload_n hx hb dX6_partOf_29 rfl (lv_at hl 2 rfl) ?_
      refine lv_lload hx hb dX6_partOf_30 (lv_at hl 0 rfl) ?_
      obtain ⟨gz32, h⟩ := jh_gl h
      refine lv_ldiv hx hb dX6_partOf_32 gz32 ?_
      exact je_l hx hb hr hlocks (Option.some.inj h) dX6_partOf_33
    · replace h := jh_t h c19
      refine lv_lload_n hx hb dX6_partOf_22 rfl (lv_at hl 1 rfl) ?_
      refine lv_lload hx hb dX6_partOf_23 (lv_at hl 0 rfl) ?_
      obtain ⟨gz25, h⟩ := jh_gl h
      refine lv_ldiv hx hb dX6_partOf_25 gz25 ?_
      refine lv_goto (tgt := 33) hx hb dX6_partOf_26 rfl ?_
      exact je_l hx hb hr hlocks (Option.some.inj h) dX6_partOf_33
  · replace h := jh_t h c3
    refine lv_iload hx hb dX6_partOf_6 (lv_at hl 2 rfl) ?_
    refine lv_i2l hx hb dX6_partOf_8 rfl ?_
    exact je_l hx hb hr hlocks (Option.some.inj h) dX6_partOf_9
def f_X6_mist_j203 (M_9 : jm) (K120_9 : jm → Int64 → Int32 → Option (Int64 × jm)) (v1_6 : Int32) (v2_6 : Int32) (v3_6 : Int32) (v4_6 : Int32) (v5_6 : Int32) (v9_6 : Int64) (v11_9 : Int32) (t0_9 : Int64) (t1_9 : Int64) : Option (Int64 × jm) := (jb (f_X6_again M_9) fun M_10 => (K120_9 M_10 (t1_9 + t0_9) (v11_9 + 1)))
def f_X6_mist_j161 (M_12 : jm) (K120_12 : jm → Int64 → Int32 → Option (Int64 × jm)) (K134_12 : jm → Int64 → Int32 → Option (Int64 × jm)) (v1_6 : Int32) (v2_6 : Int32) (v3_6 : Int32) (v4_6 : Int32) (v5_6 : Int32) (v7_8 : Int64) (v9_6 : Int64) (v11_8 : Int32) (v14_12 : Int32) (t0_12 : Int64) (t1_12 : Int64) : Option (Int64 × jm) := (jb (f_X6_eveningBy M_12 (f_X6_hasBit v11_8 v14_12)) fun M_14 => (K134_12 M_14 (t1_12 * t0_12) (v14_12 + 1)))
def f_X6_mist_l134 (K120_8 : jm → Int64 → Int32 → Option (Int64 × jm)) (v1_6 : Int32) (v2_6 : Int32) (v3_6 : Int32) (v4_6 : Int32) (v5_6 : Int32) (v7_8 : Int64) (v9_6 : Int64) (v11_8 : Int32) : Nat → jm → Int64 → Int32 → Option (Int64 × jm)
  | 0, _, _, _ => none
  | k_8 + 1, M_8, v12_8, v14_8 => (if v3_6 ≤ v14_8 then (jgd ((7 * v1_6) + v2_6) 42 (if (M_8 16 9 (Int32.toNatClampNeg ((7 * v1_6) + v2_6))) ≤ 0 then (f_X6_mist_j203 M_8 K120_8 v1_6 v2_6 v3_6 v4_6 v5_6 v9_6 v11_8 0 v7_8) else (f_X6_mist_j203 M_8 K120_8 v1_6 v2_6 v3_6 v4_6 v5_6 v9_6 v11_8 v12_8 v7_8))) else (if (f_X6_hasBit v11_8 v14_8) = 0 then (f_X6_mist_j161 M_8 K120_8 (f_X6_mist_l134 K120_8 v1_6 v2_6 v3_6 v4_6 v5_6 v7_8 v9_6 v11_8 k_8) v1_6 v2_6 v3_6 v4_6 v5_6 v7_8 v9_6 v11_8 v14_8 (Int32.toInt64 (v4_6 - 1)) v12_8) else (f_X6_mist_j161 M_8 K120_8 (f_X6_mist_l134 K120_8 v1_6 v2_6 v3_6 v4_6 v5_6 v7_8 v9_6 v11_8 k_8) v1_6 v2_6 v3_6 v4_6 v5_6 v7_8 v9_6 v11_8 v14_8 1 v12_8)))
def f_X6_mist_l120 (v1_6 : Int32) (v2_6 : Int32) (v3_6 : Int32) (v4_6 : Int32) (v5_6 : Int32) (v9_6 : Int64) : Nat → jm → Int64 → Int32 → Option (Int64 × jm)
  | 0, _, _, _ => none
  | k_6 + 1, M_6, v7_6, v11_6 => (if ((1 : Int32) <<< (v3_6 &&& 31)) ≤ v11_6 then (jb (f_X6_partOf v7_6 v9_6 v5_6) fun r7 => (some (r7, M_6))) else (f_X6_mist_l134 (f_X6_mist_l120 v1_6 v2_6 v3_6 v4_6 v5_6 v9_6 k_6) v1_6 v2_6 v3_6 v4_6 v5_6 v7_6 v9_6 v11_6 10000 M_6 1 0))
def f_X6_mist_l93 (v1_4 : Int32) (v2_4 : Int32) (v3_4 : Int32) (v4_4 : Int32) (v5_4 : Int32) (v7_4 : Int64) : Nat → jm → Int64 → Int32 → Option (Int64 × jm)
  | 0, _, _, _ => none
  | k_4 + 1, M_4, v9_4, v11_4 => (if v3_4 ≤ v11_4 then (jb (f_X6_think M_4) fun M_5 => (f_X6_mist_l120 v1_4 v2_4 v3_4 v4_4 v5_4 v9_4 10000 M_5 v7_4 0)) else ((f_X6_mist_l93 v1_4 v2_4 v3_4 v4_4 v5_4 v7_4 k_4) M_4 (v9_4 * (Int32.toInt64 v4_4)) (v11_4 + 1)))
def f_X6_mist_j57 (M_2 : jm) (v1_2 : Int32) (v2_2 : Int32) (v3_2 : Int32) (v4_2 : Int32) (v5_2 : Int32) (v6_2 : Int32) : Option (Int64 × jm) := (if 0 ≤ (f_X6_wrongBit v6_2 v5_2 1) then (f_X6_mist_l93 v1_2 v2_2 v3_2 v4_2 v5_2 0 10000 M_2 1 0) else (jb2 (f_X6_refuse M_2 (f_X6_wrongBit v6_2 v5_2 1)) fun r15 M_15 => (some ((4000000000000000000 - (Int32.toInt64 r15)), M_15))))
def f_X6_mist_j33 (M_16 : jm) (v1_16 : Int32) (v2_16 : Int32) (v3_16 : Int32) (v4_16 : Int32) (v5_16 : Int32) : Option (Int64 × jm) := (f_X6_mist_j57 M_16 v1_16 v2_16 v3_16 v4_16 v5_16 (-4))
def f_X6_mist_j53 (M_17 : jm) (v1_17 : Int32) (v2_17 : Int32) (v3_17 : Int32) (v4_17 : Int32) (v5_17 : Int32) : Option (Int64 × jm) := (f_X6_mist_j57 M_17 v1_17 v2_17 v3_17 v4_17 v5_17 (-6))
def f_X6_mist (M : jm) (v1 : Int32) (v2 : Int32) (v3 : Int32) (v4 : Int32) (v5 : Int32) : Option (Int64 × jm) := (if 0 ≤ (f_X6_wrongBoth (ju M 16 11 0 0) v1 v2) then (if v3 < 0 then (f_X6_mist_j33 (ju M 16 11 0 0) v1 v2 v3 v4 v5) else (if 2 ≤ v4 then (if 7 < v3 then (f_X6_mist_j53 (ju M 16 11 0 0) v1 v2 v3 v4 v5) else (if v4 ≤ 20 then (f_X6_mist_j57 (ju M 16 11 0 0) v1 v2 v3 v4 v5 0) else (f_X6_mist_j53 (ju M 16 11 0 0) v1 v2 v3 v4 v5))) else (f_X6_mist_j33 (ju M 16 11 0 0) v1 v2 v3 v4 v5))) else (f_X6_mist_j57 (ju M 16 11 0 0) v1 v2 v3 v4 v5 (-1)))
set_option maxRecDepth 100000 in
theorem m_X6_mist (l : Launch) (X : jX) (A : Nat → Prop) (hs : jst X A) (M : jm) (v1 : Int32) (v2 : Int32) (v3 : Int32) (v4 : Int32) (v5 : Int32) (r : Int64) (N : jm) (h : f_X6_mist M v1 v2 v3 v4 v5 = some (r, N)) : Met l yX6_mist (jws yX6_mist cX6_mist 15 (some .long)) (jrm 5 114) (va_Pc [.ref (jO X 16), .int v1, .int v2, .int v3, .int v4, .int v5] (jB X M)) (jQm X A (some (.long r)) N) 0 0 A := by
  refine jm_of (by decide) (Nat.le_of_ble_eq_true rfl) ?_
  intro p e s m args below meth c ls S hr hlocks hB hl
  have S : CallFix p m c cX6_mist 15 s args jtb RX6 := S
  obtain ⟨hx, hb, hml, hown, hts⟩ := id S
  obtain ⟨hP, hK⟩ := hB
  have hN := hK.2
  have hS : va_S A s.heap s.heap [] := va_S.rf
  have hl : lv_has ls 15 [(0, .ref (jO X 16)), (1, .int v1), (2, .int v2), (3, .int v3), (4, .int v4), (5, .int v5)] := hl
  refine lv_aload_n hx hb dX6_mist_0 rfl (lv_at hl 0 rfl) ?_
  refine lv_iconst (v := 0) hx hb dX6_mist_1 jci_0 ?_
  refine jr_put (k := 11) (z := 0) hx hb hts hown hK hP hs hS jb_16 (Nat.le_of_ble_eq_true rfl) jlX6_79 rfl (Or.inl rfl) rfl rfl rfl dX6_mist_2 (fun H locs hP hS => ?_)
  refine lv_iconst (v := 0) hx hb dX6_mist_5 jci_0 ?_
  refine lv_istore (lv' := [(6, .int 0), (0, .ref (jO X 16)), (1, .int v1), (2, .int v2), (3, .int v3), (4, .int v4), (5, .int v5)]) hx hb dX6_mist_6 hl (Nat.le_of_ble_eq_true rfl) rfl (fun ls hl => ?_)
  refine lv_aload_n hx hb dX6_mist_8 rfl (lv_at hl 1 rfl) ?_
  refine lv_iload_n hx hb dX6_mist_9 rfl (lv_at hl 2 rfl) ?_
  refine lv_iload_n hx hb dX6_mist_10 rfl (lv_at hl 3 rfl) ?_
  refine jr_kp (jr_rv (As := [.int v1, .int v2]) (rest := []) S hK hP jb_16 rfl (m_X6_wrongBoth l X (ju M 16 11 0 0) v1 v2 _ rfl) jw_X6_wrongBoth ji_X6_wrongBoth jmX6_237 rfl rfl ⟨(Nat.le_of_ble_eq_true rfl), (Nat.le_of_ble_eq_true rfl)⟩ rfl hl.1 rfl (Nat.le_of_ble_eq_true rfl) dX6_mist_11 ⟨Nat.zero_le _, Nat.zero_le _⟩) ?_
  have J57 : ∀ (M_2 : jm) (H : Heap) (locs : List Loc) (v1_2 : Int32) (v2_2 : Int32) (v3_2 : Int32) (v4_2 : Int32) (v5_2 : Int32) (v6_2 : Int32) (ls : Array Slot), f_X6_mist_j57 M_2 v1_2 v2_2 v3_2 v4_2 v5_2 v6_2 = some (r, N) → jrp X M_2 H → va_S A s.heap H locs → lv_has ls 15 [(0, .ref (jO X 16)), (1, .int v1_2), (2, .int v2_2), (3, .int v3_2), (4, .int v4_2), (5, .int v5_2), (6, .int v6_2)] → W p l e (jrm 5 114) s m args below meth c H locs 0 0 (MQ below (jQm X A (some (.long r)) N) args s 0 0 A) (F0 m 57 ls []) := by
    intro M_2 H locs v1_2 v2_2 v3_2 v4_2 v5_2 v6_2 ls h hP hS hl
    refine lv_iload hx hb dX6_mist_57 (lv_at hl 6 rfl) ?_
    refine lv_iload hx hb dX6_mist_59 (lv_at hl 5 rfl) ?_
    refine lv_iconst (v := 1) hx hb dX6_mist_61 jci_1 ?_
    refine jr_kp (jr_rs (As := [.int v6_2, .int v5_2, .int 1]) (rest := []) S hN (m_X6_wrongBit l v6_2 v5_2 1 _ rfl) jw_X6_wrongBit js_X6_wrongBit jmX6_250 rfl rfl ⟨(Nat.le_of_ble_eq_true rfl), (Nat.le_of_ble_eq_true rfl)⟩ rfl hl.1 rfl (Nat.le_of_ble_eq_true rfl) dX6_mist_62 ⟨Nat.zero_le _, Nat.zero_le _⟩) ?_
    refine lv_istore (lv' := [(6, .int (f_X6_wrongBit v6_2 v5_2 1)), (0, .ref (jO X 16)), (1, .int v1_2), (2, .int v2_2), (3, .int v3_2), (4, .int v4_2), (5, .int v5_2)]) hx hb dX6_mist_65 hl (Nat.le_of_ble_eq_true rfl) rfl (fun ls hl => ?_)
    refine lv_iload hx hb dX6_mist_67 (lv_at hl 0 rfl) ?_
    refine lv_if_ge (tgt := 84) hx hb dX6_mist_69 rfl (fun c69 => ?_) (fun c69 => ?_)
    · replace h := jh_t h c69
      refine lv_lconst (v := 0) hx hb dX6_mist_84 rfl ?_
      refine lv_lstore (lv' := [(7, .long 0), (6, .int (f_X6_wrongBit v6_2 v5_2 1)), (0, .ref (jO X 16)), (1, .int v1_2), (2, .int v2_2), (3, .int v3_2), (4, .int v4_2), (5, .int v5_2)]) hx hb dX6_mist_85 hl (Nat.le_of_ble_eq_true rfl) rfl (fun ls hl => ?_)
      refine lv_lconst (v := 1) hx hb dX6_mist_87 rfl ?_
      refine lv_lstore (lv' := [(9, .long 1), (7, .long 0), (6, .int (f_X6_wrongBit v6_2 v5_2 1)), (0, .ref (jO X 16)), (1, .int v1_2), (2, .int v2_2), (3, .int v3_2), (4, .int v4_2), (5, .int v5_2)]) hx hb dX6_mist_88 hl (Nat.le_of_ble_eq_true rfl) rfl (fun ls hl => ?_)
      refine lv_iconst (v := 0) hx hb dX6_mist_90 jci_0 ?_
      refine lv_istore (lv' := [(11, .int 0), (9, .long 1), (7, .long 0), (6, .int (f_X6_wrongBit v6_2 v5_2 1)), (0, .ref (jO X 16)), (1, .int v1_2), (2, .int v2_2), (3, .int v3_2), (4, .int v4_2), (5, .int v5_2)]) hx hb dX6_mist_91 hl (Nat.le_of_ble_eq_true rfl) rfl (fun ls hl => ?_)
      have L93 : ∀ (v1_4 : Int32) (v2_4 : Int32) (v3_4 : Int32) (v4_4 : Int32) (v5_4 : Int32) (v7_4 : Int64) (k_4 : Nat) (M_4 : jm) (H : Heap) (locs : List Loc) (v9_4 : Int64) (v11_4 : Int32) (ls : Array Slot), f_X6_mist_l93 v1_4 v2_4 v3_4 v4_4 v5_4 v7_4 k_4 M_4 v9_4 v11_4 = some (r, N) → jrp X M_4 H → va_S A s.heap H locs → lv_has ls 15 [(0, .ref (jO X 16)), (1, .int v1_4), (2, .int v2_4), (3, .int v3_4), (4, .int v4_4), (5, .int v5_4), (7, .long v7_4), (9, .long v9_4), (11, .int v11_4)] → W p l e (jrm 5 114) s m args below meth c H locs 0 0 (MQ below (jQm X A (some (.long r)) N) args s 0 0 A) (F0 m 93 ls []) := by
        intro v1_4 v2_4 v3_4 v4_4 v5_4 v7_4 k_4
        induction k_4 with
        | zero => intro M_4 H locs v9_4 v11_4 ls h; exact jh_0 h
        | succ k_4 ih93 =>
          intro M_4 H locs v9_4 v11_4 ls h hP hS hl
          refine lv_iload hx hb dX6_mist_93 (lv_at hl 8 rfl) ?_
          refine lv_iload_n hx hb dX6_mist_95 rfl (lv_at hl 3 rfl) ?_
          refine lv_icmp_ge (tgt := 113) hx hb dX6_mist_96 rfl (fun c96 => ?_) (fun c96 => ?_)
          · replace h := jh_t h c96
            refine lv_aload_n hx hb dX6_mist_113 rfl (lv_at hl 0 rfl) ?_
            obtain ⟨M_5, e5, h⟩ := jh_b h
            refine jr_kv (jr_rv (As := []) (rest := []) S hK hP jb_16 rfl (m_X6_think l X A hs M_4  M_5 e5) jw_X6_think ji_X6_think jmX6_196 rfl rfl ⟨(Nat.le_of_ble_eq_true rfl), (Nat.le_of_ble_eq_true rfl)⟩ rfl hl.1 rfl (Nat.le_of_ble_eq_true rfl) dX6_mist_114 ⟨Nat.zero_le _, Nat.zero_le _⟩) hS (fun H locs hP hS => ?_)
            refine lv_iconst (v := 0) hx hb dX6_mist_117 jci_0 ?_
            refine lv_istore (lv' := [(11, .int 0), (0, .ref (jO X 16)), (1, .int v1_4), (2, .int v2_4), (3, .int v3_4), (4, .int v4_4), (5, .int v5_4), (7, .long v7_4), (9, .long v9_4)]) hx hb dX6_mist_118 hl (Nat.le_of_ble_eq_true rfl) rfl (fun ls hl => ?_)
            have L120 : ∀ (v1_6 : Int32) (v2_6 : Int32) (v3_6 : Int32) (v4_6 : Int32) (v5_6 : Int32) (v9_6 : Int64) (k_6 : Nat) (M_6 : jm) (H : Heap) (locs : List Loc) (v7_6 : Int64) (v11_6 : Int32) (ls : Array Slot), f_X6_mist_l120 v1_6 v2_6 v3_6 v4_6 v5_6 v9_6 k_6 M_6 v7_6 v11_6 = some (r, N) → jrp X M_6 H → va_S A s.heap H locs → lv_has ls 15 [(0, .ref (jO X 16)), (1, .int v1_6), (2, .int v2_6), (3, .int v3_6), (4, .int v4_6), (5, .int v5_6), (7, .long v7_6), (9, .long v9_6), (11, .int v11_6)] → W p l e (jrm 5 114) s m args below meth c H locs 0 0 (MQ below (jQm X A (some (.long r)) N) args s 0 0 A) (F0 m 120 ls []) := by
              intro v1_6 v2_6 v3_6 v4_6 v5_6 v9_6 k_6
              induction k_6 with
              | zero => intro M_6 H locs v7_6 v11_6 ls h; exact jh_0 h
              | succ k_6 ih120 =>
                intro M_6 H locs v7_6 v11_6 ls h hP hS hl
                refine lv_iload hx hb dX6_mist_120 (lv_at hl 8 rfl) ?_
                refine lv_iconst (v := 1) hx hb dX6_mist_122 jci_1 ?_
                refine lv_iload_n hx hb dX6_mist_123 rfl (lv_at hl 3 rfl) ?_
                refine lv_ishl hx hb dX6_mist_124 ?_
                refine lv_icmp_ge (tgt := 216) hx hb dX6_mist_125 rfl (fun c125 => ?_) (fun c125 => ?_)
                · replace h := jh_t h c125
                  refine lv_lload hx hb dX6_mist_216 (lv_at hl 6 rfl) ?_
                  refine lv_lload hx hb dX6_mist_218 (lv_at hl 7 rfl) ?_
                  refine lv_iload hx hb dX6_mist_220 (lv_at hl 5 rfl) ?_
                  obtain ⟨r7, e7, h⟩ := jh_b h
                  refine jr_kp (jr_rs (As := [.long v7_6, .long v9_6, .int v5_6]) (rest := []) S hN (m_X6_partOf l v7_6 v9_6 v5_6 r7 e7) jw_X6_partOf js_X6_partOf jmX6_287 rfl rfl ⟨(Nat.le_of_ble_eq_true rfl), (Nat.le_of_ble_eq_true rfl)⟩ rfl hl.1 rfl (Nat.le_of_ble_eq_true rfl) dX6_mist_222 ⟨Nat.zero_le _, Nat.zero_le _⟩) ?_
                  exact je_ml hx hb hr hlocks hK hP hS h dX6_mist_225
                · replace h := jh_f h c125
                  refine lv_lconst (v := 1) hx hb dX6_mist_128 rfl ?_
                  refine lv_lstore (lv' := [(12, .long 1), (0, .ref (jO X 16)), (1, .int v1_6), (2, .int v2_6), (3, .int v3_6), (4, .int v4_6), (5, .int v5_6), (7, .long v7_6), (9, .long v9_6), (11, .int v11_6)]) hx hb dX6_mist_129 hl (Nat.le_of_ble_eq_true rfl) rfl (fun ls hl => ?_)
                  refine lv_iconst (v := 0) hx hb dX6_mist_131 jci_0 ?_
                  refine lv_istore (lv' := [(14, .int 0), (12, .long 1), (0, .ref (jO X 16)), (1, .int v1_6), (2, .int v2_6), (3, .int v3_6), (4, .int v4_6), (5, .int v5_6), (7, .long v7_6), (9, .long v9_6), (11, .int v11_6)]) hx hb dX6_mist_132 hl (Nat.le_of_ble_eq_true rfl) rfl (fun ls hl => ?_)
                  have L134 : ∀ (v7_8 : Int64) (v11_8 : Int32) (k_8 : Nat) (M_8 : jm) (H : Heap) (locs : List Loc) (v12_8 : Int64) (v14_8 : Int32) (ls : Array Slot), f_X6_mist_l134 (f_X6_mist_l120 v1_6 v2_6 v3_6 v4_6 v5_6 v9_6 k_6) v1_6 v2_6 v3_6 v4_6 v5_6 v7_8 v9_6 v11_8 k_8 M_8 v12_8 v14_8 = some (r, N) → jrp X M_8 H → va_S A s.heap H locs → lv_has ls 15 [(0, .ref (jO X 16)), (1, .int v1_6), (2, .int v2_6), (3, .int v3_6), (4, .int v4_6), (5, .int v5_6), (7, .long v7_8), (9, .long v9_6), (11, .int v11_8), (12, .long v12_8), (14, .int v14_8)] → W p l e (jrm 5 114) s m args below meth c H locs 0 0 (MQ below (jQm X A (some (.long r)) N) args s 0 0 A) (F0 m 134 ls []) := by
                    intro v7_8 v11_8 k_8
                    induction k_8 with
                    | zero => intro M_8 H locs v12_8 v14_8 ls h; exact jh_0 h
                    | succ k_8 ih134 =>
                      intro M_8 H locs v12_8 v14_8 ls h hP hS hl
                      refine lv_iload hx hb dX6_mist_134 (lv_at hl 10 rfl) ?_
                      refine lv_iload_n hx hb dX6_mist_136 rfl (lv_at hl 3 rfl) ?_
                      refine lv_icmp_ge (tgt := 181) hx hb dX6_mist_137 rfl (fun c137 => ?_) (fun c137 => ?_)
                      · replace h := jh_t h c137
                        refine lv_lload hx hb dX6_mist_181 (lv_at hl 6 rfl) ?_
                        refine lv_aload_n hx hb dX6_mist_183 rfl (lv_at hl 0 rfl) ?_
                        refine jr_get (k := 9) hx hb hts hown hK hP jb_16 (Nat.le_of_ble_eq_true rfl) jlX6_31 rfl dX6_mist_184 ?_
                        refine lv_bipush (v := 7) hx hb dX6_mist_187 jcb_7 ?_
                        refine lv_iload_n hx hb dX6_mist_189 rfl (lv_at hl 1 rfl) ?_
                        refine lv_imul hx hb dX6_mist_190 ?_
                        refine lv_iload_n hx hb dX6_mist_191 rfl (lv_at hl 2 rfl) ?_
                        refine lv_iadd hx hb dX6_mist_192 ?_
                        obtain ⟨g193, h⟩ := jh_gd h
                        refine jr_ald (n := 42) hx hb hK hP jb_16 rfl g193 dX6_mist_193 ?_
                        have J203 : ∀ (M_9 : jm) (H : Heap) (locs : List Loc) (v11_9 : Int32) (t0_9 : Int64) (t1_9 : Int64) (ls : Array Slot), f_X6_mist_j203 M_9 (f_X6_mist_l120 v1_6 v2_6 v3_6 v4_6 v5_6 v9_6 k_6) v1_6 v2_6 v3_6 v4_6 v5_6 v9_6 v11_9 t0_9 t1_9 = some (r, N) → jrp X M_9 H → va_S A s.heap H locs → lv_has ls 15 [(0, .ref (jO X 16)), (1, .int v1_6), (2, .int v2_6), (3, .int v3_6), (4, .int v4_6), (5, .int v5_6), (9, .long v9_6), (11, .int v11_9)] → W p l e (jrm 5 114) s m args below meth c H locs 0 0 (MQ below (jQm X A (some (.long r)) N) args s 0 0 A) (F0 m 203 ls [.long t0_9, .long t1_9]) := by
                          intro M_9 H locs v11_9 t0_9 t1_9 ls h hP hS hl
                          refine lv_ladd hx hb dX6_mist_203 ?_
                          refine lv_lstore (lv' := [(7, .long (t1_9 + t0_9)), (0, .ref (jO X 16)), (1, .int v1_6), (2, .int v2_6), (3, .int v3_6), (4, .int v4_6), (5, .int v5_6), (9, .long v9_6), (11, .int v11_9)]) hx hb dX6_mist_204 hl (Nat.le_of_ble_eq_true rfl) rfl (fun ls hl => ?_)
                          refine lv_aload_n hx hb dX6_mist_206 rfl (lv_at hl 1 rfl) ?_
                          obtain ⟨M_10, e10, h⟩ := jh_b h
                          refine jr_kv (jr_rv (As := []) (rest := []) S hK hP jb_16 rfl (m_X6_again l X A hs M_9  M_10 e10) jw_X6_again ji_X6_again jmX6_202 rfl rfl ⟨(Nat.le_of_ble_eq_true rfl), (Nat.le_of_ble_eq_true rfl)⟩ rfl hl.1 rfl (Nat.le_of_ble_eq_true rfl) dX6_mist_207 ⟨Nat.zero_le _, Nat.zero_le _⟩) hS (fun H locs hP hS => ?_)
                          refine lv_iinc (v := (v11_9 + 1)) (lv' := [(11, .int (v11_9 + 1)), (7, .long (t1_9 + t0_9)), (0, .ref (jO X 16)), (1, .int v1_6), (2, .int v2_6), (3, .int v3_6), (4, .int v4_6), (5, .int v5_6), (9, .long v9_6)]) hx hb dX6_mist_210 hl (k := 8) rfl (congrArg _ jci_1) (Nat.le_of_ble_eq_true rfl) rfl (fun ls hl => ?_)
                          refine lv_goto (tgt := 120) hx hb dX6_mist_213 rfl ?_
                          exact ih120 M_10 _ _ (t1_9 + t0_9) (v11_9 + 1) _ h hP hS (lv_sub hl [2, 3, 4, 5, 6, 7, 1, 8, 0] rfl)
                        refine lv_if_le (tgt := 202) hx hb dX6_mist_194 rfl (fun c194 => ?_) (fun c194 => ?_)
                        · replace h := jh_t h c194
                          refine lv_lconst (v := 0) hx hb dX6_mist_202 rfl ?_
                          exact J203 M_8 _ _ v11_8 0 v7_8 _ h hP hS (lv_sub hl [0, 1, 2, 3, 4, 5, 7, 8] rfl)
                        · replace h := jh_f h c194
                          refine lv_lload hx hb dX6_mist_197 (lv_at hl 9 rfl) ?_
                          refine lv_goto (tgt := 203) hx hb dX6_mist_199 rfl ?_
                          exact J203 M_8 _ _ v11_8 v12_8 v7_8 _ h hP hS (lv_sub hl [0, 1, 2, 3, 4, 5, 7, 8] rfl)
                      · replace h := jh_f h c137
                        refine lv_lload hx hb dX6_mist_140 (lv_at hl 9 rfl) ?_
                        refine lv_iload hx hb dX6_mist_142 (lv_at hl 8 rfl) ?_
                        refine lv_iload hx hb dX6_mist_144 (lv_at hl 10 rfl) ?_
                        refine jr_kp (jr_rs (As := [.int v11_8, .int v14_8]) (rest := [.long v12_8]) S hN (m_X6_hasBit l v11_8 v14_8 _ rfl) jw_X6_hasBit js_X6_hasBit jmX6_131 rfl rfl ⟨(Nat.le_of_ble_eq_true rfl), (Nat.le_of_ble_eq_true rfl)⟩ rfl hl.1 rfl (Nat.le_of_ble_eq_true rfl) dX6_mist_146 ⟨Nat.zero_le _, Nat.zero_le _⟩) ?_
                        have J161 : ∀ (M_12 : jm) (H : Heap) (locs : List Loc) (v14_12 : Int32) (t0_12 : Int64) (t1_12 : Int64) (ls : Array Slot), f_X6_mist_j161 M_12 (f_X6_mist_l120 v1_6 v2_6 v3_6 v4_6 v5_6 v9_6 k_6) (f_X6_mist_l134 (f_X6_mist_l120 v1_6 v2_6 v3_6 v4_6 v5_6 v9_6 k_6) v1_6 v2_6 v3_6 v4_6 v5_6 v7_8 v9_6 v11_8 k_8) v1_6 v2_6 v3_6 v4_6 v5_6 v7_8 v9_6 v11_8 v14_12 t0_12 t1_12 = some (r, N) → jrp X M_12 H → va_S A s.heap H locs → lv_has ls 15 [(0, .ref (jO X 16)), (1, .int v1_6), (2, .int v2_6), (3, .int v3_6), (4, .int v4_6), (5, .int v5_6), (7, .long v7_8), (9, .long v9_6), (11, .int v11_8), (14, .int v14_12)] → W p l e (jrm 5 114) s m args below meth c H locs 0 0 (MQ below (jQm X A (some (.long r)) N) args s 0 0 A) (F0 m 161 ls [.long t0_12, .long t1_12]) := by
                          intro M_12 H locs v14_12 t0_12 t1_12 ls h hP hS hl
                          refine lv_lmul hx hb dX6_mist_161 ?_
                          refine lv_lstore (lv' := [(12, .long (t1_12 * t0_12)), (0, .ref (jO X 16)), (1, .int v1_6), (2, .int v2_6), (3, .int v3_6), (4, .int v4_6), (5, .int v5_6), (7, .long v7_8), (9, .long v9_6), (11, .int v11_8), (14, .int v14_12)]) hx hb dX6_mist_162 hl (Nat.le_of_ble_eq_true rfl) rfl (fun ls hl => ?_)
                          refine lv_aload_n hx hb dX6_mist_164 rfl (lv_at hl 1 rfl) ?_
                          refine lv_iload hx hb dX6_mist_165 (lv_at hl 9 rfl) ?_
                          refine lv_iload hx hb dX6_mist_167 (lv_at hl 10 rfl) ?_
                          refine jr_kp (jr_rs (As := [.int v11_8, .int v14_12]) (rest := [.ref (jO X 16)]) S hN (m_X6_hasBit l v11_8 v14_12 _ rfl) jw_X6_hasBit js_X6_hasBit jmX6_131 rfl rfl ⟨(Nat.le_of_ble_eq_true rfl), (Nat.le_of_ble_eq_true rfl)⟩ rfl hl.1 rfl (Nat.le_of_ble_eq_true rfl) dX6_mist_169 ⟨Nat.zero_le _, Nat.zero_le _⟩) ?_
                          obtain ⟨M_14, e14, h⟩ := jh_b h
                          refine jr_kv (jr_rv (As := [.int (f_X6_hasBit v11_8 v14_12)]) (rest := []) S hK hP jb_16 rfl (m_X6_eveningBy l X A hs M_12 (f_X6_hasBit v11_8 v14_12) M_14 e14) jw_X6_eveningBy ji_X6_eveningBy jmX6_135 rfl rfl ⟨(Nat.le_of_ble_eq_true rfl), (Nat.le_of_ble_eq_true rfl)⟩ rfl hl.1 rfl (Nat.le_of_ble_eq_true rfl) dX6_mist_172 ⟨Nat.zero_le _, Nat.zero_le _⟩) hS (fun H locs hP hS => ?_)
                          refine lv_iinc (v := (v14_12 + 1)) (lv' := [(14, .int (v14_12 + 1)), (12, .long (t1_12 * t0_12)), (0, .ref (jO X 16)), (1, .int v1_6), (2, .int v2_6), (3, .int v3_6), (4, .int v4_6), (5, .int v5_6), (7, .long v7_8), (9, .long v9_6), (11, .int v11_8)]) hx hb dX6_mist_175 hl (k := 10) rfl (congrArg _ jci_1) (Nat.le_of_ble_eq_true rfl) rfl (fun ls hl => ?_)
                          refine lv_goto (tgt := 134) hx hb dX6_mist_178 rfl ?_
                          exact ih134 M_14 _ _ (t1_12 * t0_12) (v14_12 + 1) _ h hP hS (lv_sub hl [2, 3, 4, 5, 6, 7, 8, 9, 10, 1, 0] rfl)
                        refine lv_if_eq (tgt := 156) hx hb dX6_mist_149 rfl (fun c149 => ?_) (fun c149 => ?_)
                        · replace h := jh_t h c149
                          refine lv_iload hx hb dX6_mist_156 (lv_at hl 4 rfl) ?_
                          refine lv_iconst (v := 1) hx hb dX6_mist_158 jci_1 ?_
                          refine lv_isub hx hb dX6_mist_159 ?_
                          refine lv_i2l hx hb dX6_mist_160 rfl ?_
                          exact J161 M_8 _ _ v14_8 (Int32.toInt64 (v4_6 - 1)) v12_8 _ h hP hS (lv_sub hl [0, 1, 2, 3, 4, 5, 6, 7, 8, 10] rfl)
                        · replace h := jh_f h c149
                          refine lv_lconst (v := 1) hx hb dX6_mist_152 rfl ?_
                          refine lv_goto (tgt := 161) hx hb dX6_mist_153 rfl ?_
                          exact J161 M_8 _ _ v14_8 1 v12_8 _ h hP hS (lv_sub hl [0, 1, 2, 3, 4, 5, 6, 7, 8, 10] rfl)
                  exact L134 v7_6 v11_6 10000 M_6 _ _ 1 0 _ h hP hS (lv_sub hl [2, 3, 4, 5, 6, 7, 8, 9, 10, 1, 0] rfl)
            exact L120 v1_4 v2_4 v3_4 v4_4 v5_4 v9_4 10000 M_5 _ _ v7_4 0 _ h hP hS (lv_sub hl [1, 2, 3, 4, 5, 6, 7, 8, 0] rfl)
          · replace h := jh_f h c96
            refine lv_lload hx hb dX6_mist_99 (lv_at hl 7 rfl) ?_
            refine lv_iload hx hb dX6_mist_101 (lv_at hl 4 rfl) ?_
            refine lv_i2l hx hb dX6_mist_103 rfl ?_
            refine lv_lmul hx hb dX6_mist_104 ?_
            refine lv_lstore (lv' := [(9, .long (v9_4 * (Int32.toInt64 v4_4))), (0, .ref (jO X 16)), (1, .int v1_4), (2, .int v2_4), (3, .int v3_4), (4, .int v4_4), (5, .int v5_4), (7, .long v7_4), (11, .int v11_4)]) hx hb dX6_mist_105 hl (Nat.le_of_ble_eq_true rfl) rfl (fun ls hl => ?_)
            refine lv_iinc (v := (v11_4 + 1)) (lv' := [(11, .int (v11_4 + 1)), (9, .long (v9_4 * (Int32.toInt64 v4_4))), (0, .ref (jO X 16)), (1, .int v1_4), (2, .int v2_4), (3, .int v3_4), (4, .int v4_4), (5, .int v5_4), (7, .long v7_4)]) hx hb dX6_mist_107 hl (k := 8) rfl (congrArg _ jci_1) (Nat.le_of_ble_eq_true rfl) rfl (fun ls hl => ?_)
            refine lv_goto (tgt := 93) hx hb dX6_mist_110 rfl ?_
            exact ih93 M_4 _ _ (v9_4 * (Int32.toInt64 v4_4)) (v11_4 + 1) _ h hP hS (lv_sub hl [2, 3, 4, 5, 6, 7, 8, 1, 0] rfl)
      exact L93 v1_2 v2_2 v3_2 v4_2 v5_2 0 10000 M_2 _ _ 1 0 _ h hP hS (lv_sub hl [4, 5, 6, 7, 8, 9, 2, 1, 0] rfl)
    · replace h := jh_f h c69
      refine lv_ldc2 hx hb hown (hts _ jkX6_285) dX6_mist_72 ?_
      refine lv_aload_n hx hb dX6_mist_75 rfl (lv_at hl 1 rfl) ?_
      refine lv_iload hx hb dX6_mist_76 (lv_at hl 0 rfl) ?_
      obtain ⟨r15, M_15, e15, h⟩ := jh_b2 h
      refine jr_km (jr_rv (As := [.int (f_X6_wrongBit v6_2 v5_2 1)]) (rest := [.long 4000000000000000000]) S hK hP jb_16 rfl (m_X6_refuse l X A hs M_2 (f_X6_wrongBit v6_2 v5_2 1) r15 M_15 e15) jw_X6_refuse ji_X6_refuse jmX6_143 rfl rfl ⟨(Nat.le_of_ble_eq_true rfl), (Nat.le_of_ble_eq_true rfl)⟩ rfl hl.1 rfl (Nat.le_of_ble_eq_true rfl) dX6_mist_78 ⟨Nat.zero_le _, Nat.zero_le _⟩) hS (fun H locs hP hS => ?_)
      refine lv_i2l hx hb dX6_mist_81 rfl ?_
      refine lv_lsub hx hb dX6_mist_82 ?_
      exact je_ml hx hb hr hlocks hK hP hS h dX6_mist_83
  refine lv_if_ge (tgt := 23) hx hb dX6_mist_14 rfl (fun c14 => ?_) (fun c14 => ?_)
  · replace h := jh_t h c14
    refine lv_iload_n hx hb dX6_mist_23 rfl (lv_at hl 4 rfl) ?_
    have J33 : ∀ (M_16 : jm) (H : Heap) (locs : List Loc) (v1_16 : Int32) (v2_16 : Int32) (v3_16 : Int32) (v4_16 : Int32) (v5_16 : Int32) (ls : Array Slot), f_X6_mist_j33 M_16 v1_16 v2_16 v3_16 v4_16 v5_16 = some (r, N) → jrp X M_16 H → va_S A s.heap H locs → lv_has ls 15 [(0, .ref (jO X 16)), (1, .int v1_16), (2, .int v2_16), (3, .int v3_16), (4, .int v4_16), (5, .int v5_16)] → W p l e (jrm 5 114) s m args below meth c H locs 0 0 (MQ below (jQm X A (some (.long r)) N) args s 0 0 A) (F0 m 33 ls []) := by
      intro M_16 H locs v1_16 v2_16 v3_16 v4_16 v5_16 ls h hP hS hl
      refine lv_bipush (v := (-4)) hx hb dX6_mist_33 jcb_m4 ?_
      refine lv_istore (lv' := [(6, .int (-4)), (0, .ref (jO X 16)), (1, .int v1_16), (2, .int v2_16), (3, .int v3_16), (4, .int v4_16), (5, .int v5_16)]) hx hb dX6_mist_35 hl (Nat.le_of_ble_eq_true rfl) rfl (fun ls hl => ?_)
      refine lv_goto (tgt := 57) hx hb dX6_mist_37 rfl ?_
      exact J57 M_16 _ _ v1_16 v2_16 v3_16 v4_16 v5_16 (-4) _ h hP hS (lv_sub hl [1, 2, 3, 4, 5, 6, 0] rfl)
    refine lv_if_lt (tgt := 33) hx hb dX6_mist_24 rfl (fun c24 => ?_) (fun c24 => ?_)
    · replace h := jh_t h c24
      exact J33 (ju M 16 11 0 0) _ _ v1 v2 v3 v4 v5 _ h hP hS (lv_sub hl [1, 2, 3, 4, 5, 6] rfl)
    · replace h := jh_f h c24
      refine lv_iload hx hb dX6_mist_27 (lv_at hl 5 rfl) ?_
      refine lv_iconst (v := 2) hx hb dX6_mist_29 jci_2 ?_
      refine lv_icmp_ge (tgt := 40) hx hb dX6_mist_30 rfl (fun c30 => ?_) (fun c30 => ?_)
      · replace h := jh_t h c30
        refine lv_iload_n hx hb dX6_mist_40 rfl (lv_at hl 4 rfl) ?_
        refine lv_bipush (v := 7) hx hb dX6_mist_41 jcb_7 ?_
        have J53 : ∀ (M_17 : jm) (H : Heap) (locs : List Loc) (v1_17 : Int32) (v2_17 : Int32) (v3_17 : Int32) (v4_17 : Int32) (v5_17 : Int32) (ls : Array Slot), f_X6_mist_j53 M_17 v1_17 v2_17 v3_17 v4_17 v5_17 = some (r, N) → jrp X M_17 H → va_S A s.heap H locs → lv_has ls 15 [(0, .ref (jO X 16)), (1, .int v1_17), (2, .int v2_17), (3, .int v3_17), (4, .int v4_17), (5, .int v5_17)] → W p l e (jrm 5 114) s m args below meth c H locs 0 0 (MQ below (jQm X A (some (.long r)) N) args s 0 0 A) (F0 m 53 ls []) := by
          intro M_17 H locs v1_17 v2_17 v3_17 v4_17 v5_17 ls h hP hS hl
          refine lv_bipush (v := (-6)) hx hb dX6_mist_53 jcb_m6 ?_
          refine lv_istore (lv' := [(6, .int (-6)), (0, .ref (jO X 16)), (1, .int v1_17), (2, .int v2_17), (3, .int v3_17), (4, .int v4_17), (5, .int v5_17)]) hx hb dX6_mist_55 hl (Nat.le_of_ble_eq_true rfl) rfl (fun ls hl => ?_)
          exact J57 M_17 _ _ v1_17 v2_17 v3_17 v4_17 v5_17 (-6) _ h hP hS (lv_sub hl [1, 2, 3, 4, 5, 6, 0] rfl)
        refine lv_icmp_gt (tgt := 53) hx hb dX6_mist_43 rfl (fun c43 => ?_) (fun c43 => ?_)
        · replace h := jh_t h c43
          exact J53 (ju M 16 11 0 0) _ _ v1 v2 v3 v4 v5 _ h hP hS (lv_sub hl [1, 2, 3, 4, 5, 6] rfl)
        · replace h := jh_f h c43
          refine lv_iload hx hb dX6_mist_46 (lv_at hl 5 rfl) ?_
          refine lv_bipush (v := 20) hx hb dX6_mist_48 jcb_20 ?_
          refine lv_icmp_le (tgt := 57) hx hb dX6_mist_50 rfl (fun c50 => ?_) (fun c50 => ?_)
          · replace h := jh_t h c50
            exact J57 (ju M 16 11 0 0) _ _ v1 v2 v3 v4 v5 0 _ h hP hS (lv_sub hl [1, 2, 3, 4, 5, 6, 0] rfl)
          · replace h := jh_f h c50
            exact J53 (ju M 16 11 0 0) _ _ v1 v2 v3 v4 v5 _ h hP hS (lv_sub hl [1, 2, 3, 4, 5, 6] rfl)
      · replace h := jh_f h c30
        exact J33 (ju M 16 11 0 0) _ _ v1 v2 v3 v4 v5 _ h hP hS (lv_sub hl [1, 2, 3, 4, 5, 6] rfl)
  · replace h := jh_f h c14
    refine lv_iconst (v := (-1)) hx hb dX6_mist_17 jci_m1 ?_
    refine lv_istore (lv' := [(6, .int (-1)), (0, .ref (jO X 16)), (1, .int v1), (2, .int v2), (3, .int v3), (4, .int v4), (5, .int v5)]) hx hb dX6_mist_18 hl (Nat.le_of_ble_eq_true rfl) rfl (fun ls hl => ?_)
    refine lv_goto (tgt := 57) hx hb dX6_mist_20 rfl ?_
    exact J57 (ju M 16 11 0 0) _ _ v1 v2 v3 v4 v5 (-1) _ h hP hS (lv_sub hl [1, 2, 3, 4, 5, 6, 0] rfl)
def f_X6_oldestAge_l14 (M : jm) (K4_2 : Int32 → Int32 → Option Int32) (v2_2 : Int32) : Nat → Int32 → Int32 → Option Int32
  | 0, _, _ => none
  | k_2 + 1, v1_2, v3_2 => (if (M 16 0 0) ≤ v3_2 then (K4_2 v1_2 (v2_2 + 1)) else (jgd ((7 * v2_2) + v3_2) 42 (if (M 16 9 (Int32.toNatClampNeg ((7 * v2_2) + v3_2))) ≤ v1_2 then ((f_X6_oldestAge_l14 M K4_2 v2_2 k_2) v1_2 (v3_2 + 1)) else (jgd ((7 * v2_2) + v3_2) 42 ((f_X6_oldestAge_l14 M K4_2 v2_2 k_2) (M 16 9 (Int32.toNatClampNeg ((7 * v2_2) + v3_2))) (v3_2 + 1))))))
def f_X6_oldestAge_l4 (M : jm) : Nat → Int32 → Int32 → Option Int32
  | 0, _, _ => none
  | k_1 + 1, v1_1, v2_1 => (if (M 16 5 0) ≤ v2_1 then (some v1_1) else (f_X6_oldestAge_l14 M (f_X6_oldestAge_l4 M k_1) v2_1 10000 v1_1 0))
def f_X6_oldestAge (M : jm) : Option Int32 := (f_X6_oldestAge_l4 M 10000 0 0)
set_option maxRecDepth 100000 in
theorem m_X6_oldestAge (l : Launch) (X : jX) (M : jm) (r : Int32) (h : f_X6_oldestAge M = some r) : Met l yX6_oldestAge (jws yX6_oldestAge cX6_oldestAge 4 (some .int)) (jrm 0 0) (va_Pc [.ref (jO X 16)] (jB X M)) (jQ (.int r)) 0 0 (fun _ => False) := by
  refine jm_of (by decide) (Nat.le_of_ble_eq_true rfl) ?_
  intro p e s m args below meth c ls S hr hlocks hB hl
  have S : CallFix p m c cX6_oldestAge 4 s args jtb RX6 := S
  obtain ⟨hx, hb, hml, hown, hts⟩ := id S
  obtain ⟨hP, hK⟩ := hB
  have hN := hK.2
  have hl : lv_has ls 4 [(0, .ref (jO X 16))] := hl
  refine lv_iconst (v := 0) hx hb dX6_oldestAge_0 jci_0 ?_
  refine lv_istore_n (lv' := [(1, .int 0), (0, .ref (jO X 16))]) hx hb dX6_oldestAge_1 rfl hl (Nat.le_of_ble_eq_true rfl) rfl (fun ls hl => ?_)
  refine lv_iconst (v := 0) hx hb dX6_oldestAge_2 jci_0 ?_
  refine lv_istore_n (lv' := [(2, .int 0), (1, .int 0), (0, .ref (jO X 16))]) hx hb dX6_oldestAge_3 rfl hl (Nat.le_of_ble_eq_true rfl) rfl (fun ls hl => ?_)
  have L4 : ∀ (k_1 : Nat) (v1_1 : Int32) (v2_1 : Int32) (ls : Array Slot), f_X6_oldestAge_l4 M k_1 v1_1 v2_1 = some r → lv_has ls 4 [(0, .ref (jO X 16)), (1, .int v1_1), (2, .int v2_1)] → W p l e (jrm 0 0) s m args below meth c s.heap [] 0 0 (MQ below (jQ (.int r)) args s 0 0 (fun _ => False)) (F0 m 4 ls []) := by
    intro k_1
    induction k_1 with
    | zero => intro v1_1 v2_1 ls h; exact jh_0 h
    | succ k_1 ih4 =>
      intro v1_1 v2_1 ls h hl
      refine lv_iload_n hx hb dX6_oldestAge_4 rfl (lv_at hl 2 rfl) ?_
      refine lv_aload_n hx hb dX6_oldestAge_5 rfl (lv_at hl 0 rfl) ?_
      refine jr_get (k := 5) hx hb hts hown hK hP jb_16 (Nat.le_of_ble_eq_true rfl) jlX6_92 rfl dX6_oldestAge_6 ?_
      refine lv_icmp_ge (tgt := 65) hx hb dX6_oldestAge_9 rfl (fun c9 => ?_) (fun c9 => ?_)
      · replace h := jh_t h c9
        refine lv_iload_n hx hb dX6_oldestAge_65 rfl (lv_at hl 1 rfl) ?_
        exact je_i hx hb hr hlocks (Option.some.inj h) dX6_oldestAge_66
      · replace h := jh_f h c9
        refine lv_iconst (v := 0) hx hb dX6_oldestAge_12 jci_0 ?_
        refine lv_istore_n (lv' := [(3, .int 0), (0, .ref (jO X 16)), (1, .int v1_1), (2, .int v2_1)]) hx hb dX6_oldestAge_13 rfl hl (Nat.le_of_ble_eq_true rfl) rfl (fun ls hl => ?_)
        have L14 : ∀ (v2_2 : Int32) (k_2 : Nat) (v1_2 : Int32) (v3_2 : Int32) (ls : Array Slot), f_X6_oldestAge_l14 M (f_X6_oldestAge_l4 M k_1) v2_2 k_2 v1_2 v3_2 = some r → lv_has ls 4 [(0, .ref (jO X 16)), (1, .int v1_2), (2, .int v2_2), (3, .int v3_2)] → W p l e (jrm 0 0) s m args below meth c s.heap [] 0 0 (MQ below (jQ (.int r)) args s 0 0 (fun _ => False)) (F0 m 14 ls []) := by
          intro v2_2 k_2
          induction k_2 with
          | zero => intro v1_2 v3_2 ls h; exact jh_0 h
          | succ k_2 ih14 =>
            intro v1_2 v3_2 ls h hl
            refine lv_iload_n hx hb dX6_oldestAge_14 rfl (lv_at hl 3 rfl) ?_
            refine lv_aload_n hx hb dX6_oldestAge_15 rfl (lv_at hl 0 rfl) ?_
            refine jr_get (k := 0) hx hb hts hown hK hP jb_16 (Nat.le_of_ble_eq_true rfl) jlX6_89 rfl dX6_oldestAge_16 ?_
            refine lv_icmp_ge (tgt := 59) hx hb dX6_oldestAge_19 rfl (fun c19 => ?_) (fun c19 => ?_)
            · replace h := jh_t h c19
              refine lv_iinc (v := (v2_2 + 1)) (lv' := [(2, .int (v2_2 + 1)), (0, .ref (jO X 16)), (1, .int v1_2), (3, .int v3_2)]) hx hb dX6_oldestAge_59 hl (k := 2) rfl (congrArg _ jci_1) (Nat.le_of_ble_eq_true rfl) rfl (fun ls hl => ?_)
              refine lv_goto (tgt := 4) hx hb dX6_oldestAge_62 rfl ?_
              exact ih4 v1_2 (v2_2 + 1) _ h (lv_sub hl [1, 2, 0] rfl)
            · replace h := jh_f h c19
              refine lv_aload_n hx hb dX6_oldestAge_22 rfl (lv_at hl 0 rfl) ?_
              refine jr_get (k := 9) hx hb hts hown hK hP jb_16 (Nat.le_of_ble_eq_true rfl) jlX6_31 rfl dX6_oldestAge_23 ?_
              refine lv_bipush (v := 7) hx hb dX6_oldestAge_26 jcb_7 ?_
              refine lv_iload_n hx hb dX6_oldestAge_28 rfl (lv_at hl 2 rfl) ?_
              refine lv_imul hx hb dX6_oldestAge_29 ?_
              refine lv_iload_n hx hb dX6_oldestAge_30 rfl (lv_at hl 3 rfl) ?_
              refine lv_iadd hx hb dX6_oldestAge_31 ?_
              obtain ⟨g32, h⟩ := jh_gd h
              refine jr_ald (n := 42) hx hb hK hP jb_16 rfl g32 dX6_oldestAge_32 ?_
              refine lv_iload_n hx hb dX6_oldestAge_33 rfl (lv_at hl 1 rfl) ?_
              refine lv_icmp_le (tgt := 51) hx hb dX6_oldestAge_34 rfl (fun c34 => ?_) (fun c34 => ?_)
              · replace h := jh_t h c34
                refine lv_iload_n hx hb dX6_oldestAge_51 rfl (lv_at hl 1 rfl) ?_
                refine lv_istore_n (lv' := [(1, .int v1_2), (0, .ref (jO X 16)), (2, .int v2_2), (3, .int v3_2)]) hx hb dX6_oldestAge_52 rfl hl (Nat.le_of_ble_eq_true rfl) rfl (fun ls hl => ?_)
                refine lv_iinc (v := (v3_2 + 1)) (lv' := [(3, .int (v3_2 + 1)), (1, .int v1_2), (0, .ref (jO X 16)), (2, .int v2_2)]) hx hb dX6_oldestAge_53 hl (k := 3) rfl (congrArg _ jci_1) (Nat.le_of_ble_eq_true rfl) rfl (fun ls hl => ?_)
                refine lv_goto (tgt := 14) hx hb dX6_oldestAge_56 rfl ?_
                exact ih14 v1_2 (v3_2 + 1) _ h (lv_sub hl [2, 1, 3, 0] rfl)
              · replace h := jh_f h c34
                refine lv_aload_n hx hb dX6_oldestAge_37 rfl (lv_at hl 0 rfl) ?_
                refine jr_get (k := 9) hx hb hts hown hK hP jb_16 (Nat.le_of_ble_eq_true rfl) jlX6_31 rfl dX6_oldestAge_38 ?_
                refine lv_bipush (v := 7) hx hb dX6_oldestAge_41 jcb_7 ?_
                refine lv_iload_n hx hb dX6_oldestAge_43 rfl (lv_at hl 2 rfl) ?_
                refine lv_imul hx hb dX6_oldestAge_44 ?_
                refine lv_iload_n hx hb dX6_oldestAge_45 rfl (lv_at hl 3 rfl) ?_
                refine lv_iadd hx hb dX6_oldestAge_46 ?_
                obtain ⟨g47, h⟩ := jh_gd h
                refine jr_ald (n := 42) hx hb hK hP jb_16 rfl g47 dX6_oldestAge_47 ?_
                refine lv_goto (tgt := 52) hx hb dX6_oldestAge_48 rfl ?_
                refine lv_istore_n (lv' := [(1, .int (M 16 9 (Int32.toNatClampNeg ((7 * v2_2) + v3_2)))), (0, .ref (jO X 16)), (2, .int v2_2), (3, .int v3_2)]) hx hb dX6_oldestAge_52 rfl hl (Nat.le_of_ble_eq_true rfl) rfl (fun ls hl => ?_)
                refine lv_iinc (v := (v3_2 + 1)) (lv' := [(3, .int (v3_2 + 1)), (1, .int (M 16 9 (Int32.toNatClampNeg ((7 * v2_2) + v3_2)))), (0, .ref (jO X 16)), (2, .int v2_2)]) hx hb dX6_oldestAge_53 hl (k := 3) rfl (congrArg _ jci_1) (Nat.le_of_ble_eq_true rfl) rfl (fun ls hl => ?_)
                refine lv_goto (tgt := 14) hx hb dX6_oldestAge_56 rfl ?_
                exact ih14 (M 16 9 (Int32.toNatClampNeg ((7 * v2_2) + v3_2))) (v3_2 + 1) _ h (lv_sub hl [2, 1, 3, 0] rfl)
        exact L14 v2_1 10000 v1_1 0 _ h (lv_sub hl [1, 2, 3, 0] rfl)
  exact L4 10000 0 0 _ h (lv_sub hl [2, 1, 0] rfl)
def f_X6_oldestBy_l21 (M : jm) (K7_3 : Int32 → Option Int32) (v1_2 : Int32) (v2_3 : Int32) : Nat → Int32 → Option Int32
  | 0, _ => none
  | k_3 + 1, v3_3 => (if (M 16 0 0) ≤ v3_3 then (K7_3 (v2_3 + 1)) else (jgd ((7 * v2_3) + v3_3) 42 (if (M 16 9 (Int32.toNatClampNeg ((7 * v2_3) + v3_3))) = v1_2 then (some v2_3) else ((f_X6_oldestBy_l21 M K7_3 v1_2 v2_3 k_3) (v3_3 + 1)))))
def f_X6_oldestBy_l7 (M : jm) (v1_2 : Int32) : Nat → Int32 → Option Int32
  | 0, _ => none
  | k_2 + 1, v2_2 => (if (M 16 5 0) ≤ v2_2 then (some (-9)) else (if v1_2 ≤ 0 then (some (-9)) else (f_X6_oldestBy_l21 M (f_X6_oldestBy_l7 M v1_2 k_2) v1_2 v2_2 10000 0)))
def f_X6_oldestBy (M : jm) : Option Int32 := (jb (f_X6_oldestAge M) fun r1 => (f_X6_oldestBy_l7 M r1 10000 0))
set_option maxRecDepth 100000 in
theorem m_X6_oldestBy (l : Launch) (X : jX) (M : jm) (r : Int32) (h : f_X6_oldestBy M = some r) : Met l yX6_oldestBy (jws yX6_oldestBy cX6_oldestBy 4 (some .int)) (jrm 1 23) (va_Pc [.ref (jO X 16)] (jB X M)) (jQ (.int r)) 0 0 (fun _ => False) := by
  refine jm_of (by decide) (Nat.le_of_ble_eq_true rfl) ?_
  intro p e s m args below meth c ls S hr hlocks hB hl
  have S : CallFix p m c cX6_oldestBy 4 s args jtb RX6 := S
  obtain ⟨hx, hb, hml, hown, hts⟩ := id S
  obtain ⟨hP, hK⟩ := hB
  have hN := hK.2
  have hl : lv_has ls 4 [(0, .ref (jO X 16))] := hl
  refine lv_aload_n hx hb dX6_oldestBy_0 rfl (lv_at hl 0 rfl) ?_
  obtain ⟨r1, e1, h⟩ := jh_b h
  refine jr_kp (jr_rv (As := []) (rest := []) S hK hP jb_16 rfl (m_X6_oldestAge l X M  r1 e1) jw_X6_oldestAge ji_X6_oldestAge jmX6_291 rfl rfl ⟨(Nat.le_of_ble_eq_true rfl), (Nat.le_of_ble_eq_true rfl)⟩ rfl hl.1 rfl (Nat.le_of_ble_eq_true rfl) dX6_oldestBy_1 ⟨Nat.zero_le _, Nat.zero_le _⟩) ?_
  refine lv_istore_n (lv' := [(1, .int r1), (0, .ref (jO X 16))]) hx hb dX6_oldestBy_4 rfl hl (Nat.le_of_ble_eq_true rfl) rfl (fun ls hl => ?_)
  refine lv_iconst (v := 0) hx hb dX6_oldestBy_5 jci_0 ?_
  refine lv_istore_n (lv' := [(2, .int 0), (1, .int r1), (0, .ref (jO X 16))]) hx hb dX6_oldestBy_6 rfl hl (Nat.le_of_ble_eq_true rfl) rfl (fun ls hl => ?_)
  have L7 : ∀ (v1_2 : Int32) (k_2 : Nat) (v2_2 : Int32) (ls : Array Slot), f_X6_oldestBy_l7 M v1_2 k_2 v2_2 = some r → lv_has ls 4 [(0, .ref (jO X 16)), (1, .int v1_2), (2, .int v2_2)] → W p l e (jrm 1 23) s m args below meth c s.heap [] 0 0 (MQ below (jQ (.int r)) args s 0 0 (fun _ => False)) (F0 m 7 ls []) := by
    intro v1_2 k_2
    induction k_2 with
    | zero => intro v2_2 ls h; exact jh_0 h
    | succ k_2 ih7 =>
      intro v2_2 ls h hl
      refine lv_iload_n hx hb dX6_oldestBy_7 rfl (lv_at hl 2 rfl) ?_
      refine lv_aload_n hx hb dX6_oldestBy_8 rfl (lv_at hl 0 rfl) ?_
      refine jr_get (k := 5) hx hb hts hown hK hP jb_16 (Nat.le_of_ble_eq_true rfl) jlX6_92 rfl dX6_oldestBy_9 ?_
      refine lv_icmp_ge (tgt := 58) hx hb dX6_oldestBy_12 rfl (fun c12 => ?_) (fun c12 => ?_)
      · replace h := jh_t h c12
        refine lv_bipush (v := (-9)) hx hb dX6_oldestBy_58 jcb_m9 ?_
        exact je_i hx hb hr hlocks (Option.some.inj h) dX6_oldestBy_60
      · replace h := jh_f h c12
        refine lv_iload_n hx hb dX6_oldestBy_15 rfl (lv_at hl 1 rfl) ?_
        refine lv_if_le (tgt := 58) hx hb dX6_oldestBy_16 rfl (fun c16 => ?_) (fun c16 => ?_)
        · replace h := jh_t h c16
          refine lv_bipush (v := (-9)) hx hb dX6_oldestBy_58 jcb_m9 ?_
          exact je_i hx hb hr hlocks (Option.some.inj h) dX6_oldestBy_60
        · replace h := jh_f h c16
          refine lv_iconst (v := 0) hx hb dX6_oldestBy_19 jci_0 ?_
          refine lv_istore_n (lv' := [(3, .int 0), (0, .ref (jO X 16)), (1, .int v1_2), (2, .int v2_2)]) hx hb dX6_oldestBy_20 rfl hl (Nat.le_of_ble_eq_true rfl) rfl (fun ls hl => ?_)
          have L21 : ∀ (v2_3 : Int32) (k_3 : Nat) (v3_3 : Int32) (ls : Array Slot), f_X6_oldestBy_l21 M (f_X6_oldestBy_l7 M v1_2 k_2) v1_2 v2_3 k_3 v3_3 = some r → lv_has ls 4 [(0, .ref (jO X 16)), (1, .int v1_2), (2, .int v2_3), (3, .int v3_3)] → W p l e (jrm 1 23) s m args below meth c s.heap [] 0 0 (MQ below (jQ (.int r)) args s 0 0 (fun _ => False)) (F0 m 21 ls []) := by
            intro v2_3 k_3
            induction k_3 with
            | zero => intro v3_3 ls h; exact jh_0 h
            | succ k_3 ih21 =>
              intro v3_3 ls h hl
              refine lv_iload_n hx hb dX6_oldestBy_21 rfl (lv_at hl 3 rfl) ?_
              refine lv_aload_n hx hb dX6_oldestBy_22 rfl (lv_at hl 0 rfl) ?_
              refine jr_get (k := 0) hx hb hts hown hK hP jb_16 (Nat.le_of_ble_eq_true rfl) jlX6_89 rfl dX6_oldestBy_23 ?_
              refine lv_icmp_ge (tgt := 52) hx hb dX6_oldestBy_26 rfl (fun c26 => ?_) (fun c26 => ?_)
              · replace h := jh_t h c26
                refine lv_iinc (v := (v2_3 + 1)) (lv' := [(2, .int (v2_3 + 1)), (0, .ref (jO X 16)), (1, .int v1_2), (3, .int v3_3)]) hx hb dX6_oldestBy_52 hl (k := 2) rfl (congrArg _ jci_1) (Nat.le_of_ble_eq_true rfl) rfl (fun ls hl => ?_)
                refine lv_goto (tgt := 7) hx hb dX6_oldestBy_55 rfl ?_
                exact ih7 (v2_3 + 1) _ h (lv_sub hl [1, 2, 0] rfl)
              · replace h := jh_f h c26
                refine lv_aload_n hx hb dX6_oldestBy_29 rfl (lv_at hl 0 rfl) ?_
                refine jr_get (k := 9) hx hb hts hown hK hP jb_16 (Nat.le_of_ble_eq_true rfl) jlX6_31 rfl dX6_oldestBy_30 ?_
                refine lv_bipush (v := 7) hx hb dX6_oldestBy_33 jcb_7 ?_
                refine lv_iload_n hx hb dX6_oldestBy_35 rfl (lv_at hl 2 rfl) ?_
                refine lv_imul hx hb dX6_oldestBy_36 ?_
                refine lv_iload_n hx hb dX6_oldestBy_37 rfl (lv_at hl 3 rfl) ?_
                refine lv_iadd hx hb dX6_oldestBy_38 ?_
                obtain ⟨g39, h⟩ := jh_gd h
                refine jr_ald (n := 42) hx hb hK hP jb_16 rfl g39 dX6_oldestBy_39 ?_
                refine lv_iload_n hx hb dX6_oldestBy_40 rfl (lv_at hl 1 rfl) ?_
                refine lv_icmp_ne (tgt := 46) hx hb dX6_oldestBy_41 rfl (fun c41 => ?_) (fun c41 => ?_)
                · replace h := jh_f h c41
                  refine lv_iinc (v := (v3_3 + 1)) (lv' := [(3, .int (v3_3 + 1)), (0, .ref (jO X 16)), (1, .int v1_2), (2, .int v2_3)]) hx hb dX6_oldestBy_46 hl (k := 3) rfl (congrArg _ jci_1) (Nat.le_of_ble_eq_true rfl) rfl (fun ls hl => ?_)
                  refine lv_goto (tgt := 21) hx hb dX6_oldestBy_49 rfl ?_
                  exact ih21 (v3_3 + 1) _ h (lv_sub hl [1, 2, 3, 0] rfl)
                · replace h := jh_t h c41
                  refine lv_iload_n hx hb dX6_oldestBy_44 rfl (lv_at hl 2 rfl) ?_
                  exact je_i hx hb hr hlocks (Option.some.inj h) dX6_oldestBy_45
          exact L21 v2_2 10000 0 _ h (lv_sub hl [1, 2, 3, 0] rfl)
  exact L7 r1 10000 0 _ h (lv_sub hl [2, 1, 0] rfl)
def f_X6_laneTwos_l16 (M : jm) (K4_2 : Int32 → Int32 → Option Int32) (v2_2 : Int32) : Nat → Int32 → Int32 → Option Int32
  | 0, _, _ => none
  | k_2 + 1, v1_2, v3_2 => (if (M 16 0 0) ≤ v3_2 then (K4_2 v1_2 (v2_2 + 1)) else (jgd v2_2 8 (jgd v3_2 8 (if ((M 16 4 (Int32.toNatClampNeg v2_2)) + (M 16 4 (Int32.toNatClampNeg v3_2))) = 2 then (jgd v2_2 8 (jgd v3_2 8 (if 2 < (f_X6_stepsOf (M 16 3 (Int32.toNatClampNeg v2_2)) (M 16 3 (Int32.toNatClampNeg v3_2))) then ((f_X6_laneTwos_l16 M K4_2 v2_2 k_2) (v1_2 + 0) (v3_2 + 1)) else ((f_X6_laneTwos_l16 M K4_2 v2_2 k_2) (v1_2 + 1) (v3_2 + 1))))) else ((f_X6_laneTwos_l16 M K4_2 v2_2 k_2) (v1_2 + 0) (v3_2 + 1))))))
def f_X6_laneTwos_l4 (M : jm) : Nat → Int32 → Int32 → Option Int32
  | 0, _, _ => none
  | k_1 + 1, v1_1, v2_1 => (if (M 16 0 0) ≤ v2_1 then (some v1_1) else (f_X6_laneTwos_l16 M (f_X6_laneTwos_l4 M k_1) v2_1 10000 v1_1 (v2_1 + 1)))
def f_X6_laneTwos (M : jm) : Option Int32 := (f_X6_laneTwos_l4 M 10000 0 0)
set_option maxRecDepth 100000 in
theorem m_X6_laneTwos (l : Launch) (X : jX) (M : jm) (r : Int32) (h : f_X6_laneTwos M = some r) : Met l yX6_laneTwos (jws yX6_laneTwos cX6_laneTwos 4 (some .int)) (jrm 2 42) (va_Pc [.ref (jO X 16)] (jB X M)) (jQ (.int r)) 0 0 (fun _ => False) := by
  refine jm_of (by decide) (Nat.le_of_ble_eq_true rfl) ?_
  intro p e s m args below meth c ls S hr hlocks hB hl
  have S : CallFix p m c cX6_laneTwos 4 s args jtb RX6 := S
  obtain ⟨hx, hb, hml, hown, hts⟩ := id S
  obtain ⟨hP, hK⟩ := hB
  have hN := hK.2
  have hl : lv_has ls 4 [(0, .ref (jO X 16))] := hl
  refine lv_iconst (v := 0) hx hb dX6_laneTwos_0 jci_0 ?_
  refine lv_istore_n (lv' := [(1, .int 0), (0, .ref (jO X 16))]) hx hb dX6_laneTwos_1 rfl hl (Nat.le_of_ble_eq_true rfl) rfl (fun ls hl => ?_)
  refine lv_iconst (v := 0) hx hb dX6_laneTwos_2 jci_0 ?_
  refine lv_istore_n (lv' := [(2, .int 0), (1, .int 0), (0, .ref (jO X 16))]) hx hb dX6_laneTwos_3 rfl hl (Nat.le_of_ble_eq_true rfl) rfl (fun ls hl => ?_)
  have L4 : ∀ (k_1 : Nat) (v1_1 : Int32) (v2_1 : Int32) (ls : Array Slot), f_X6_laneTwos_l4 M k_1 v1_1 v2_1 = some r → lv_has ls 4 [(0, .ref (jO X 16)), (1, .int v1_1), (2, .int v2_1)] → W p l e (jrm 2 42) s m args below meth c s.heap [] 0 0 (MQ below (jQ (.int r)) args s 0 0 (fun _ => False)) (F0 m 4 ls []) := by
    intro k_1
    induction k_1 with
    | zero => intro v1_1 v2_1 ls h; exact jh_0 h
    | succ k_1 ih4 =>
      intro v1_1 v2_1 ls h hl
      refine lv_iload_n hx hb dX6_laneTwos_4 rfl (lv_at hl 2 rfl) ?_
      refine lv_aload_n hx hb dX6_laneTwos_5 rfl (lv_at hl 0 rfl) ?_
      refine jr_get (k := 0) hx hb hts hown hK hP jb_16 (Nat.le_of_ble_eq_true rfl) jlX6_89 rfl dX6_laneTwos_6 ?_
      refine lv_icmp_ge (tgt := 80) hx hb dX6_laneTwos_9 rfl (fun c9 => ?_) (fun c9 => ?_)
      · replace h := jh_t h c9
        refine lv_iload_n hx hb dX6_laneTwos_80 rfl (lv_at hl 1 rfl) ?_
        exact je_i hx hb hr hlocks (Option.some.inj h) dX6_laneTwos_81
      · replace h := jh_f h c9
        refine lv_iload_n hx hb dX6_laneTwos_12 rfl (lv_at hl 2 rfl) ?_
        refine lv_iconst (v := 1) hx hb dX6_laneTwos_13 jci_1 ?_
        refine lv_iadd hx hb dX6_laneTwos_14 ?_
        refine lv_istore_n (lv' := [(3, .int (v2_1 + 1)), (0, .ref (jO X 16)), (1, .int v1_1), (2, .int v2_1)]) hx hb dX6_laneTwos_15 rfl hl (Nat.le_of_ble_eq_true rfl) rfl (fun ls hl => ?_)
        have L16 : ∀ (v2_2 : Int32) (k_2 : Nat) (v1_2 : Int32) (v3_2 : Int32) (ls : Array Slot), f_X6_laneTwos_l16 M (f_X6_laneTwos_l4 M k_1) v2_2 k_2 v1_2 v3_2 = some r → lv_has ls 4 [(0, .ref (jO X 16)), (1, .int v1_2), (2, .int v2_2), (3, .int v3_2)] → W p l e (jrm 2 42) s m args below meth c s.heap [] 0 0 (MQ below (jQ (.int r)) args s 0 0 (fun _ => False)) (F0 m 16 ls []) := by
          intro v2_2 k_2
          induction k_2 with
          | zero => intro v1_2 v3_2 ls h; exact jh_0 h
          | succ k_2 ih16 =>
            intro v1_2 v3_2 ls h hl
            refine lv_iload_n hx hb dX6_laneTwos_16 rfl (lv_at hl 3 rfl) ?_
            refine lv_aload_n hx hb dX6_laneTwos_17 rfl (lv_at hl 0 rfl) ?_
            refine jr_get (k := 0) hx hb hts hown hK hP jb_16 (Nat.le_of_ble_eq_true rfl) jlX6_89 rfl dX6_laneTwos_18 ?_
            refine lv_icmp_ge (tgt := 74) hx hb dX6_laneTwos_21 rfl (fun c21 => ?_) (fun c21 => ?_)
            · replace h := jh_t h c21
              refine lv_iinc (v := (v2_2 + 1)) (lv' := [(2, .int (v2_2 + 1)), (0, .ref (jO X 16)), (1, .int v1_2), (3, .int v3_2)]) hx hb dX6_laneTwos_74 hl (k := 2) rfl (congrArg _ jci_1) (Nat.le_of_ble_eq_true rfl) rfl (fun ls hl => ?_)
              refine lv_goto (tgt := 4) hx hb dX6_laneTwos_77 rfl ?_
              exact ih4 v1_2 (v2_2 + 1) _ h (lv_sub hl [1, 2, 0] rfl)
            · replace h := jh_f h c21
              refine lv_iload_n hx hb dX6_laneTwos_24 rfl (lv_at hl 1 rfl) ?_
              refine lv_aload_n hx hb dX6_laneTwos_25 rfl (lv_at hl 0 rfl) ?_
              refine jr_get (k := 4) hx hb hts hown hK hP jb_16 (Nat.le_of_ble_eq_true rfl) jlX6_19 rfl dX6_laneTwos_26 ?_
              refine lv_iload_n hx hb dX6_laneTwos_29 rfl (lv_at hl 2 rfl) ?_
              obtain ⟨g30, h⟩ := jh_gd h
              refine jr_ald (n := 8) hx hb hK hP jb_16 rfl g30 dX6_laneTwos_30 ?_
              refine lv_aload_n hx hb dX6_laneTwos_31 rfl (lv_at hl 0 rfl) ?_
              refine jr_get (k := 4) hx hb hts hown hK hP jb_16 (Nat.le_of_ble_eq_true rfl) jlX6_19 rfl dX6_laneTwos_32 ?_
              refine lv_iload_n hx hb dX6_laneTwos_35 rfl (lv_at hl 3 rfl) ?_
              obtain ⟨g36, h⟩ := jh_gd h
              refine jr_ald (n := 8) hx hb hK hP jb_16 rfl g36 dX6_laneTwos_36 ?_
              refine lv_iadd hx hb dX6_laneTwos_37 ?_
              refine lv_iconst (v := 2) hx hb dX6_laneTwos_38 jci_2 ?_
              refine lv_icmp_ne (tgt := 65) hx hb dX6_laneTwos_39 rfl (fun c39 => ?_) (fun c39 => ?_)
              · replace h := jh_f h c39
                refine lv_iconst (v := 0) hx hb dX6_laneTwos_65 jci_0 ?_
                refine lv_iadd hx hb dX6_laneTwos_66 ?_
                refine lv_istore_n (lv' := [(1, .int (v1_2 + 0)), (0, .ref (jO X 16)), (2, .int v2_2), (3, .int v3_2)]) hx hb dX6_laneTwos_67 rfl hl (Nat.le_of_ble_eq_true rfl) rfl (fun ls hl => ?_)
                refine lv_iinc (v := (v3_2 + 1)) (lv' := [(3, .int (v3_2 + 1)), (1, .int (v1_2 + 0)), (0, .ref (jO X 16)), (2, .int v2_2)]) hx hb dX6_laneTwos_68 hl (k := 3) rfl (congrArg _ jci_1) (Nat.le_of_ble_eq_true rfl) rfl (fun ls hl => ?_)
                refine lv_goto (tgt := 16) hx hb dX6_laneTwos_71 rfl ?_
                exact ih16 (v1_2 + 0) (v3_2 + 1) _ h (lv_sub hl [2, 1, 3, 0] rfl)
              · replace h := jh_t h c39
                refine lv_aload_n hx hb dX6_laneTwos_42 rfl (lv_at hl 0 rfl) ?_
                refine jr_get (k := 3) hx hb hts hown hK hP jb_16 (Nat.le_of_ble_eq_true rfl) jlX6_16 rfl dX6_laneTwos_43 ?_
                refine lv_iload_n hx hb dX6_laneTwos_46 rfl (lv_at hl 2 rfl) ?_
                obtain ⟨g47, h⟩ := jh_gd h
                refine jr_ald (n := 8) hx hb hK hP jb_16 rfl g47 dX6_laneTwos_47 ?_
                refine lv_aload_n hx hb dX6_laneTwos_48 rfl (lv_at hl 0 rfl) ?_
                refine jr_get (k := 3) hx hb hts hown hK hP jb_16 (Nat.le_of_ble_eq_true rfl) jlX6_16 rfl dX6_laneTwos_49 ?_
                refine lv_iload_n hx hb dX6_laneTwos_52 rfl (lv_at hl 3 rfl) ?_
                obtain ⟨g53, h⟩ := jh_gd h
                refine jr_ald (n := 8) hx hb hK hP jb_16 rfl g53 dX6_laneTwos_53 ?_
                refine jr_kp (jr_rs (As := [.int (M 16 3 (Int32.toNatClampNeg v2_2)), .int (M 16 3 (Int32.toNatClampNeg v3_2))]) (rest := [.int v1_2]) S hN (m_X6_stepsOf l (M 16 3 (Int32.toNatClampNeg v2_2)) (M 16 3 (Int32.toNatClampNeg v3_2)) _ rfl) jw_X6_stepsOf js_X6_stepsOf jmX6_103 rfl rfl ⟨(Nat.le_of_ble_eq_true rfl), (Nat.le_of_ble_eq_true rfl)⟩ rfl hl.1 rfl (Nat.le_of_ble_eq_true rfl) dX6_laneTwos_54 ⟨Nat.zero_le _, Nat.zero_le _⟩) ?_
                refine lv_iconst (v := 2) hx hb dX6_laneTwos_57 jci_2 ?_
                refine lv_icmp_gt (tgt := 65) hx hb dX6_laneTwos_58 rfl (fun c58 => ?_) (fun c58 => ?_)
                · replace h := jh_t h c58
                  refine lv_iconst (v := 0) hx hb dX6_laneTwos_65 jci_0 ?_
                  refine lv_iadd hx hb dX6_laneTwos_66 ?_
                  refine lv_istore_n (lv' := [(1, .int (v1_2 + 0)), (0, .ref (jO X 16)), (2, .int v2_2), (3, .int v3_2)]) hx hb dX6_laneTwos_67 rfl hl (Nat.le_of_ble_eq_true rfl) rfl (fun ls hl => ?_)
                  refine lv_iinc (v := (v3_2 + 1)) (lv' := [(3, .int (v3_2 + 1)), (1, .int (v1_2 + 0)), (0, .ref (jO X 16)), (2, .int v2_2)]) hx hb dX6_laneTwos_68 hl (k := 3) rfl (congrArg _ jci_1) (Nat.le_of_ble_eq_true rfl) rfl (fun ls hl => ?_)
                  refine lv_goto (tgt := 16) hx hb dX6_laneTwos_71 rfl ?_
                  exact ih16 (v1_2 + 0) (v3_2 + 1) _ h (lv_sub hl [2, 1, 3, 0] rfl)
                · replace h := jh_f h c58
                  refine lv_iconst (v := 1) hx hb dX6_laneTwos_61 jci_1 ?_
                  refine lv_goto (tgt := 66) hx hb dX6_laneTwos_62 rfl ?_
                  refine lv_iadd hx hb dX6_laneTwos_66 ?_
                  refine lv_istore_n (lv' := [(1, .int (v1_2 + 1)), (0, .ref (jO X 16)), (2, .int v2_2), (3, .int v3_2)]) hx hb dX6_laneTwos_67 rfl hl (Nat.le_of_ble_eq_true rfl) rfl (fun ls hl => ?_)
                  refine lv_iinc (v := (v3_2 + 1)) (lv' := [(3, .int (v3_2 + 1)), (1, .int (v1_2 + 1)), (0, .ref (jO X 16)), (2, .int v2_2)]) hx hb dX6_laneTwos_68 hl (k := 3) rfl (congrArg _ jci_1) (Nat.le_of_ble_eq_true rfl) rfl (fun ls hl => ?_)
                  refine lv_goto (tgt := 16) hx hb dX6_laneTwos_71 rfl ?_
                  exact ih16 (v1_2 + 1) (v3_2 + 1) _ h (lv_sub hl [2, 1, 3, 0] rfl)
        exact L16 v2_1 10000 v1_1 (v2_1 + 1) _ h (lv_sub hl [1, 2, 3, 0] rfl)
  exact L4 10000 0 0 _ h (lv_sub hl [2, 1, 0] rfl)
def f_X6_darkBits_l4 (M : jm) : Nat → Int32 → Int32 → Option Int32
  | 0, _, _ => none
  | k_1 + 1, v1_1, v2_1 => (if (M 16 0 0) ≤ v2_1 then (some v1_1) else (jgd v2_1 8 (if (M 16 4 (Int32.toNatClampNeg v2_1)) = 0 then ((f_X6_darkBits_l4 M k_1) (v1_1 ||| ((1 : Int32) <<< (v2_1 &&& 31))) (v2_1 + 1)) else ((f_X6_darkBits_l4 M k_1) (v1_1 ||| 0) (v2_1 + 1)))))
def f_X6_darkBits (M : jm) : Option Int32 := (f_X6_darkBits_l4 M 10000 0 0)
set_option maxRecDepth 100000 in
theorem m_X6_darkBits (l : Launch) (X : jX) (M : jm) (r : Int32) (h : f_X6_darkBits M = some r) : Met l yX6_darkBits (jws yX6_darkBits cX6_darkBits 3 (some .int)) (jrm 0 0) (va_Pc [.ref (jO X 16)] (jB X M)) (jQ (.int r)) 0 0 (fun _ => False) := by
  refine jm_of (by decide) (Nat.le_of_ble_eq_true rfl) ?_
  intro p e s m args below meth c ls S hr hlocks hB hl
  have S : CallFix p m c cX6_darkBits 3 s args jtb RX6 := S
  obtain ⟨hx, hb, hml, hown, hts⟩ := id S
  obtain ⟨hP, hK⟩ := hB
  have hN := hK.2
  have hl : lv_has ls 3 [(0, .ref (jO X 16))] := hl
  refine lv_iconst (v := 0) hx hb dX6_darkBits_0 jci_0 ?_
  refine lv_istore_n (lv' := [(1, .int 0), (0, .ref (jO X 16))]) hx hb dX6_darkBits_1 rfl hl (Nat.le_of_ble_eq_true rfl) rfl (fun ls hl => ?_)
  refine lv_iconst (v := 0) hx hb dX6_darkBits_2 jci_0 ?_
  refine lv_istore_n (lv' := [(2, .int 0), (1, .int 0), (0, .ref (jO X 16))]) hx hb dX6_darkBits_3 rfl hl (Nat.le_of_ble_eq_true rfl) rfl (fun ls hl => ?_)
  have L4 : ∀ (k_1 : Nat) (v1_1 : Int32) (v2_1 : Int32) (ls : Array Slot), f_X6_darkBits_l4 M k_1 v1_1 v2_1 = some r → lv_has ls 3 [(0, .ref (jO X 16)), (1, .int v1_1), (2, .int v2_1)] → W p l e (jrm 0 0) s m args below meth c s.heap [] 0 0 (MQ below (jQ (.int r)) args s 0 0 (fun _ => False)) (F0 m 4 ls []) := by
    intro k_1
    induction k_1 with
    | zero => intro v1_1 v2_1 ls h; exact jh_0 h
    | succ k_1 ih4 =>
      intro v1_1 v2_1 ls h hl
      refine lv_iload_n hx hb dX6_darkBits_4 rfl (lv_at hl 2 rfl) ?_
      refine lv_aload_n hx hb dX6_darkBits_5 rfl (lv_at hl 0 rfl) ?_
      refine jr_get (k := 0) hx hb hts hown hK hP jb_16 (Nat.le_of_ble_eq_true rfl) jlX6_89 rfl dX6_darkBits_6 ?_
      refine lv_icmp_ge (tgt := 37) hx hb dX6_darkBits_9 rfl (fun c9 => ?_) (fun c9 => ?_)
      · replace h := jh_t h c9
        refine lv_iload_n hx hb dX6_darkBits_37 rfl (lv_at hl 1 rfl) ?_
        exact je_i hx hb hr hlocks (Option.some.inj h) dX6_darkBits_38
      · replace h := jh_f h c9
        refine lv_iload_n hx hb dX6_darkBits_12 rfl (lv_at hl 1 rfl) ?_
        refine lv_aload_n hx hb dX6_darkBits_13 rfl (lv_at hl 0 rfl) ?_
        refine jr_get (k := 4) hx hb hts hown hK hP jb_16 (Nat.le_of_ble_eq_true rfl) jlX6_19 rfl dX6_darkBits_14 ?_
        refine lv_iload_n hx hb dX6_darkBits_17 rfl (lv_at hl 2 rfl) ?_
        obtain ⟨g18, h⟩ := jh_gd h
        refine jr_ald (n := 8) hx hb hK hP jb_16 rfl g18 dX6_darkBits_18 ?_
        refine lv_if_ne (tgt := 28) hx hb dX6_darkBits_19 rfl (fun c19 => ?_) (fun c19 => ?_)
        · replace h := jh_f h c19
          refine lv_iconst (v := 0) hx hb dX6_darkBits_28 jci_0 ?_
          refine lv_ior hx hb dX6_darkBits_29 ?_
          refine lv_istore_n (lv' := [(1, .int (v1_1 ||| 0)), (0, .ref (jO X 16)), (2, .int v2_1)]) hx hb dX6_darkBits_30 rfl hl (Nat.le_of_ble_eq_true rfl) rfl (fun ls hl => ?_)
          refine lv_iinc (v := (v2_1 + 1)) (lv' := [(2, .int (v2_1 + 1)), (1, .int (v1_1 ||| 0)), (0, .ref (jO X 16))]) hx hb dX6_darkBits_31 hl (k := 2) rfl (congrArg _ jci_1) (Nat.le_of_ble_eq_true rfl) rfl (fun ls hl => ?_)
          refine lv_goto (tgt := 4) hx hb dX6_darkBits_34 rfl ?_
          exact ih4 (v1_1 ||| 0) (v2_1 + 1) _ h (lv_sub hl [2, 1, 0] rfl)
        · replace h := jh_t h c19
          refine lv_iconst (v := 1) hx hb dX6_darkBits_22 jci_1 ?_
          refine lv_iload_n hx hb dX6_darkBits_23 rfl (lv_at hl 2 rfl) ?_
          refine lv_ishl hx hb dX6_darkBits_24 ?_
          refine lv_goto (tgt := 29) hx hb dX6_darkBits_25 rfl ?_
          refine lv_ior hx hb dX6_darkBits_29 ?_
          refine lv_istore_n (lv' := [(1, .int (v1_1 ||| ((1 : Int32) <<< (v2_1 &&& 31)))), (0, .ref (jO X 16)), (2, .int v2_1)]) hx hb dX6_darkBits_30 rfl hl (Nat.le_of_ble_eq_true rfl) rfl (fun ls hl => ?_)
          refine lv_iinc (v := (v2_1 + 1)) (lv' := [(2, .int (v2_1 + 1)), (1, .int (v1_1 ||| ((1 : Int32) <<< (v2_1 &&& 31)))), (0, .ref (jO X 16))]) hx hb dX6_darkBits_31 hl (k := 2) rfl (congrArg _ jci_1) (Nat.le_of_ble_eq_true rfl) rfl (fun ls hl => ?_)
          refine lv_goto (tgt := 4) hx hb dX6_darkBits_34 rfl ?_
          exact ih4 (v1_1 ||| ((1 : Int32) <<< (v2_1 &&& 31))) (v2_1 + 1) _ h (lv_sub hl [2, 1, 0] rfl)
  exact L4 10000 0 0 _ h (lv_sub hl [2, 1, 0] rfl)
def f_X6_oldest (M : jm) (v1 : Int32) : Option (Int32 × jm) := (if v1 = 0 then (jb (f_X6_oldestAge (ju M 16 11 0 0)) fun r1 => (if r1 = 0 then (some (0, (ju M 16 11 0 0))) else (jb (f_X6_oldestAge (ju M 16 11 0 0)) fun r2 => (some ((r2 - 1), (ju M 16 11 0 0)))))) else (if v1 = 1 then (jb (f_X6_oldestBy (ju M 16 11 0 0)) fun r3 => (some (r3, (ju M 16 11 0 0)))) else (if v1 = 2 then (jb (f_X6_laneTwos (ju M 16 11 0 0)) fun r4 => (some (r4, (ju M 16 11 0 0)))) else (if v1 = 3 then (jb (f_X6_darkBits (ju M 16 11 0 0)) fun r5 => (some (r5, (ju M 16 11 0 0)))) else (jb2 (f_X6_refuse (ju M 16 11 0 0) (-2)) fun r6 M_6 => (some (r6, M_6)))))))
set_option maxRecDepth 100000 in
theorem m_X6_oldest (l : Launch) (X : jX) (A : Nat → Prop) (hs : jst X A) (M : jm) (v1 : Int32) (r : Int32) (N : jm) (h : f_X6_oldest M v1 = some (r, N)) : Met l yX6_oldest (jws yX6_oldest cX6_oldest 2 (some .int)) (jrm 3 65) (va_Pc [.ref (jO X 16), .int v1] (jB X M)) (jQm X A (some (.int r)) N) 0 0 A := by
  refine jm_of (by decide) (Nat.le_of_ble_eq_true rfl) ?_
  intro p e s m args below meth c ls S hr hlocks hB hl
  have S : CallFix p m c cX6_oldest 2 s args jtb RX6 := S
  obtain ⟨hx, hb, hml, hown, hts⟩ := id S
  obtain ⟨hP, hK⟩ := hB
  have hN := hK.2
  have hS : va_S A s.heap s.heap [] := va_S.rf
  have hl : lv_has ls 2 [(0, .ref (jO X 16)), (1, .int v1)] := hl
  refine lv_aload_n hx hb dX6_oldest_0 rfl (lv_at hl 0 rfl) ?_
  refine lv_iconst (v := 0) hx hb dX6_oldest_1 jci_0 ?_
  refine jr_put (k := 11) (z := 0) hx hb hts hown hK hP hs hS jb_16 (Nat.le_of_ble_eq_true rfl) jlX6_79 rfl (Or.inl rfl) rfl rfl rfl dX6_oldest_2 (fun H locs hP hS => ?_)
  refine lv_iload_n hx hb dX6_oldest_5 rfl (lv_at hl 1 rfl) ?_
  by_cases c6_0 : v1 = 0
  · replace h := jh_t h c6_0
    refine lv_tableIn (off := 30) (tgt := 36) hx hb dX6_oldest_6 (by rw [c6_0]; decide) (by rw [c6_0]; decide) (by rw [c6_0]; rfl) rfl ?_
    refine lv_aload_n hx hb dX6_oldest_36 rfl (lv_at hl 0 rfl) ?_
    obtain ⟨r1, e1, h⟩ := jh_b h
    refine jr_kp (jr_rv (As := []) (rest := []) S hK hP jb_16 rfl (m_X6_oldestAge l X (ju M 16 11 0 0)  r1 e1) jw_X6_oldestAge ji_X6_oldestAge jmX6_291 rfl rfl ⟨(Nat.le_of_ble_eq_true rfl), (Nat.le_of_ble_eq_true rfl)⟩ rfl hl.1 rfl (Nat.le_of_ble_eq_true rfl) dX6_oldest_37 ⟨Nat.zero_le _, Nat.zero_le _⟩) ?_
    refine lv_if_ne (tgt := 47) hx hb dX6_oldest_40 rfl (fun c40 => ?_) (fun c40 => ?_)
    · replace h := jh_f h c40
      refine lv_aload_n hx hb dX6_oldest_47 rfl (lv_at hl 0 rfl) ?_
      obtain ⟨r2, e2, h⟩ := jh_b h
      refine jr_kp (jr_rv (As := []) (rest := []) S hK hP jb_16 rfl (m_X6_oldestAge l X (ju M 16 11 0 0)  r2 e2) jw_X6_oldestAge ji_X6_oldestAge jmX6_291 rfl rfl ⟨(Nat.le_of_ble_eq_true rfl), (Nat.le_of_ble_eq_true rfl)⟩ rfl hl.1 rfl (Nat.le_of_ble_eq_true rfl) dX6_oldest_48 ⟨Nat.zero_le _, Nat.zero_le _⟩) ?_
      refine lv_iconst (v := 1) hx hb dX6_oldest_51 jci_1 ?_
      refine lv_isub hx hb dX6_oldest_52 ?_
      exact je_mi hx hb hr hlocks hK hP hS h dX6_oldest_53
    · replace h := jh_t h c40
      refine lv_iconst (v := 0) hx hb dX6_oldest_43 jci_0 ?_
      refine lv_goto (tgt := 53) hx hb dX6_oldest_44 rfl ?_
      exact je_mi hx hb hr hlocks hK hP hS h dX6_oldest_53
  replace h := jh_f h c6_0
  by_cases c6_1 : v1 = 1
  · replace h := jh_t h c6_1
    refine lv_tableIn (off := 48) (tgt := 54) hx hb dX6_oldest_6 (by rw [c6_1]; decide) (by rw [c6_1]; decide) (by rw [c6_1]; rfl) rfl ?_
    refine lv_aload_n hx hb dX6_oldest_54 rfl (lv_at hl 0 rfl) ?_
    obtain ⟨r3, e3, h⟩ := jh_b h
    refine jr_kp (jr_rv (As := []) (rest := []) S hK hP jb_16 rfl (m_X6_oldestBy l X (ju M 16 11 0 0)  r3 e3) jw_X6_oldestBy ji_X6_oldestBy jmX6_294 rfl rfl ⟨(Nat.le_of_ble_eq_true rfl), (Nat.le_of_ble_eq_true rfl)⟩ rfl hl.1 rfl (Nat.le_of_ble_eq_true rfl) dX6_oldest_55 ⟨Nat.zero_le _, Nat.zero_le _⟩) ?_
    exact je_mi hx hb hr hlocks hK hP hS h dX6_oldest_58
  replace h := jh_f h c6_1
  by_cases c6_2 : v1 = 2
  · replace h := jh_t h c6_2
    refine lv_tableIn (off := 53) (tgt := 59) hx hb dX6_oldest_6 (by rw [c6_2]; decide) (by rw [c6_2]; decide) (by rw [c6_2]; rfl) rfl ?_
    refine lv_aload_n hx hb dX6_oldest_59 rfl (lv_at hl 0 rfl) ?_
    obtain ⟨r4, e4, h⟩ := jh_b h
    refine jr_kp (jr_rv (As := []) (rest := []) S hK hP jb_16 rfl (m_X6_laneTwos l X (ju M 16 11 0 0)  r4 e4) jw_X6_laneTwos ji_X6_laneTwos jmX6_297 rfl rfl ⟨(Nat.le_of_ble_eq_true rfl), (Nat.le_of_ble_eq_true rfl)⟩ rfl hl.1 rfl (Nat.le_of_ble_eq_true rfl) dX6_oldest_60 ⟨Nat.zero_le _, Nat.zero_le _⟩) ?_
    exact je_mi hx hb hr hlocks hK hP hS h dX6_oldest_63
  replace h := jh_f h c6_2
  by_cases c6_3 : v1 = 3
  · replace h := jh_t h c6_3
    refine lv_tableIn (off := 58) (tgt := 64) hx hb dX6_oldest_6 (by rw [c6_3]; decide) (by rw [c6_3]; decide) (by rw [c6_3]; rfl) rfl ?_
    refine lv_aload_n hx hb dX6_oldest_64 rfl (lv_at hl 0 rfl) ?_
    obtain ⟨r5, e5, h⟩ := jh_b h
    refine jr_kp (jr_rv (As := []) (rest := []) S hK hP jb_16 rfl (m_X6_darkBits l X (ju M 16 11 0 0)  r5 e5) jw_X6_darkBits ji_X6_darkBits jmX6_300 rfl rfl ⟨(Nat.le_of_ble_eq_true rfl), (Nat.le_of_ble_eq_true rfl)⟩ rfl hl.1 rfl (Nat.le_of_ble_eq_true rfl) dX6_oldest_65 ⟨Nat.zero_le _, Nat.zero_le _⟩) ?_
    exact je_mi hx hb hr hlocks hK hP hS h dX6_oldest_68
  replace h := jh_f h c6_3
  refine jr_tdef (ks := [0, 1, 2, 3]) (tgt := 69) hx hb dX6_oldest_6 (jsw_cons (jsw_ne c6_0 rfl) (jsw_cons (jsw_ne c6_1 rfl) (jsw_cons (jsw_ne c6_2 rfl) (jsw_cons (jsw_ne c6_3 rfl) (jsw_nil))))) (by decide) rfl ?_
  refine lv_aload_n hx hb dX6_oldest_69 rfl (lv_at hl 0 rfl) ?_
  refine lv_bipush (v := (-2)) hx hb dX6_oldest_70 jcb_m2 ?_
  obtain ⟨r6, M_6, e6, h⟩ := jh_b2 h
  refine jr_km (jr_rv (As := [.int (-2)]) (rest := []) S hK hP jb_16 rfl (m_X6_refuse l X A hs (ju M 16 11 0 0) (-2) r6 M_6 e6) jw_X6_refuse ji_X6_refuse jmX6_143 rfl rfl ⟨(Nat.le_of_ble_eq_true rfl), (Nat.le_of_ble_eq_true rfl)⟩ rfl hl.1 rfl (Nat.le_of_ble_eq_true rfl) dX6_oldest_72 ⟨Nat.zero_le _, Nat.zero_le _⟩) hS (fun H locs hP hS => ?_)
  exact je_mi hx hb hr hlocks hK hP hS h dX6_oldest_75
def f_X6_mean (M : jm) (v1 : Int32) : Option (Int64 × jm) := (if (f_X6_in (Int32.toInt64 v1) 0 1) = 0 then (jb2 (f_X6_refuse (ju M 16 11 0 0) (-2)) fun r2 M_2 => (some ((4000000000000000000 - (Int32.toInt64 r2)), M_2))) else (jb (f_X6_allPrices (ju M 16 11 0 0)) fun r3 => (jb (f_X6_partOf (Int32.toInt64 r3) (Int32.toInt64 ((ju M 16 11 0 0) 16 5 0)) v1) fun r4 => (some (r4, (ju M 16 11 0 0))))))
set_option maxRecDepth 100000 in
theorem m_X6_mean (l : Launch) (X : jX) (A : Nat → Prop) (hs : jst X A) (M : jm) (v1 : Int32) (r : Int64) (N : jm) (h : f_X6_mean M v1 = some (r, N)) : Met l yX6_mean (jws yX6_mean cX6_mean 2 (some .long)) (jrm 3 69) (va_Pc [.ref (jO X 16), .int v1] (jB X M)) (jQm X A (some (.long r)) N) 0 0 A := by
  refine jm_of (by decide) (Nat.le_of_ble_eq_true rfl) ?_
  intro p e s m args below meth c ls S hr hlocks hB hl
  have S : CallFix p m c cX6_mean 2 s args jtb RX6 := S
  obtain ⟨hx, hb, hml, hown, hts⟩ := id S
  obtain ⟨hP, hK⟩ := hB
  have hN := hK.2
  have hS : va_S A s.heap s.heap [] := va_S.rf
  have hl : lv_has ls 2 [(0, .ref (jO X 16)), (1, .int v1)] := hl
  refine lv_aload_n hx hb dX6_mean_0 rfl (lv_at hl 0 rfl) ?_
  refine lv_iconst (v := 0) hx hb dX6_mean_1 jci_0 ?_
  refine jr_put (k := 11) (z := 0) hx hb hts hown hK hP hs hS jb_16 (Nat.le_of_ble_eq_true rfl) jlX6_79 rfl (Or.inl rfl) rfl rfl rfl dX6_mean_2 (fun H locs hP hS => ?_)
  refine lv_iload_n hx hb dX6_mean_5 rfl (lv_at hl 1 rfl) ?_
  refine lv_i2l hx hb dX6_mean_6 rfl ?_
  refine lv_lconst (v := 0) hx hb dX6_mean_7 rfl ?_
  refine lv_lconst (v := 1) hx hb dX6_mean_8 rfl ?_
  refine jr_kp (jr_rs (As := [.long (Int32.toInt64 v1), .long 0, .long 1]) (rest := []) S hN (m_X6_in l (Int32.toInt64 v1) 0 1 _ rfl) jw_X6_in js_X6_in jmX6_85 rfl rfl ⟨(Nat.le_of_ble_eq_true rfl), (Nat.le_of_ble_eq_true rfl)⟩ rfl hl.1 rfl (Nat.le_of_ble_eq_true rfl) dX6_mean_9 ⟨Nat.zero_le _, Nat.zero_le _⟩) ?_
  refine lv_if_eq (tgt := 32) hx hb dX6_mean_12 rfl (fun c12 => ?_) (fun c12 => ?_)
  · replace h := jh_t h c12
    refine lv_ldc2 hx hb hown (hts _ jkX6_285) dX6_mean_32 ?_
    refine lv_aload_n hx hb dX6_mean_35 rfl (lv_at hl 0 rfl) ?_
    refine lv_bipush (v := (-2)) hx hb dX6_mean_36 jcb_m2 ?_
    obtain ⟨r2, M_2, e2, h⟩ := jh_b2 h
    refine jr_km (jr_rv (As := [.int (-2)]) (rest := [.long 4000000000000000000]) S hK hP jb_16 rfl (m_X6_refuse l X A hs (ju M 16 11 0 0) (-2) r2 M_2 e2) jw_X6_refuse ji_X6_refuse jmX6_143 rfl rfl ⟨(Nat.le_of_ble_eq_true rfl), (Nat.le_of_ble_eq_true rfl)⟩ rfl hl.1 rfl (Nat.le_of_ble_eq_true rfl) dX6_mean_38 ⟨Nat.zero_le _, Nat.zero_le _⟩) hS (fun H locs hP hS => ?_)
    refine lv_i2l hx hb dX6_mean_41 rfl ?_
    refine lv_lsub hx hb dX6_mean_42 ?_
    exact je_ml hx hb hr hlocks hK hP hS h dX6_mean_43
  · replace h := jh_f h c12
    refine lv_aload_n hx hb dX6_mean_15 rfl (lv_at hl 0 rfl) ?_
    obtain ⟨r3, e3, h⟩ := jh_b h
    refine jr_kp (jr_rv (As := []) (rest := []) S hK hP jb_16 rfl (m_X6_allPrices l X (ju M 16 11 0 0)  r3 e3) jw_X6_allPrices ji_X6_allPrices jmX6_253 rfl rfl ⟨(Nat.le_of_ble_eq_true rfl), (Nat.le_of_ble_eq_true rfl)⟩ rfl hl.1 rfl (Nat.le_of_ble_eq_true rfl) dX6_mean_16 ⟨Nat.zero_le _, Nat.zero_le _⟩) ?_
    refine lv_i2l hx hb dX6_mean_19 rfl ?_
    refine lv_aload_n hx hb dX6_mean_20 rfl (lv_at hl 0 rfl) ?_
    refine jr_get (k := 5) hx hb hts hown hK hP jb_16 (Nat.le_of_ble_eq_true rfl) jlX6_92 rfl dX6_mean_21 ?_
    refine lv_i2l hx hb dX6_mean_24 rfl ?_
    refine lv_iload_n hx hb dX6_mean_25 rfl (lv_at hl 1 rfl) ?_
    obtain ⟨r4, e4, h⟩ := jh_b h
    refine jr_kp (jr_rs (As := [.long (Int32.toInt64 r3), .long (Int32.toInt64 ((ju M 16 11 0 0) 16 5 0)), .int v1]) (rest := []) S hN (m_X6_partOf l (Int32.toInt64 r3) (Int32.toInt64 ((ju M 16 11 0 0) 16 5 0)) v1 r4 e4) jw_X6_partOf js_X6_partOf jmX6_287 rfl rfl ⟨(Nat.le_of_ble_eq_true rfl), (Nat.le_of_ble_eq_true rfl)⟩ rfl hl.1 rfl (Nat.le_of_ble_eq_true rfl) dX6_mean_26 ⟨Nat.zero_le _, Nat.zero_le _⟩) ?_
    refine lv_goto (tgt := 43) hx hb dX6_mean_29 rfl ?_
    exact je_ml hx hb hr hlocks hK hP hS h dX6_mean_43
def f_X6_forgiven_l19 (K9_2 : jm → Int32 → Int32 → Option (Int32 × jm)) (v2_2 : Int32) : Nat → jm → Int32 → Int32 → Option (Int32 × jm)
  | 0, _, _, _ => none
  | k_2 + 1, M_2, v1_2, v3_2 => (if (M_2 16 0 0) ≤ v3_2 then (K9_2 M_2 v1_2 (v2_2 + 1)) else (jgd ((7 * v2_2) + v3_2) 42 (if (M_2 16 9 (Int32.toNatClampNeg ((7 * v2_2) + v3_2))) ≤ 0 then ((f_X6_forgiven_l19 K9_2 v2_2 k_2) M_2 (v1_2 + 0) (v3_2 + 1)) else (jb (f_X6_minutesOf M_2 v3_2 ((M_2 16 9 (Int32.toNatClampNeg ((7 * v2_2) + v3_2))) - 1)) fun r3 => (jb (f_X6_minutesOf M_2 v3_2 0) fun r4 => ((f_X6_forgiven_l19 K9_2 v2_2 k_2) M_2 (v1_2 + (r3 - r4)) (v3_2 + 1)))))))
def f_X6_forgiven_l9 : Nat → jm → Int32 → Int32 → Option (Int32 × jm)
  | 0, _, _, _ => none
  | k_1 + 1, M_1, v1_1, v2_1 => (if (M_1 16 5 0) ≤ v2_1 then (some (v1_1, M_1)) else (f_X6_forgiven_l19 (f_X6_forgiven_l9 k_1) v2_1 10000 M_1 v1_1 0))
def f_X6_forgiven (M : jm) : Option (Int32 × jm) := (f_X6_forgiven_l9 10000 (ju M 16 11 0 0) 0 0)
set_option maxRecDepth 100000 in
theorem m_X6_forgiven (l : Launch) (X : jX) (A : Nat → Prop) (hs : jst X A) (M : jm) (r : Int32) (N : jm) (h : f_X6_forgiven M = some (r, N)) : Met l yX6_forgiven (jws yX6_forgiven cX6_forgiven 5 (some .int)) (jrm 1 23) (va_Pc [.ref (jO X 16)] (jB X M)) (jQm X A (some (.int r)) N) 0 0 A := by
  refine jm_of (by decide) (Nat.le_of_ble_eq_true rfl) ?_
  intro p e s m args below meth c ls S hr hlocks hB hl
  have S : CallFix p m c cX6_forgiven 5 s args jtb RX6 := S
  obtain ⟨hx, hb, hml, hown, hts⟩ := id S
  obtain ⟨hP, hK⟩ := hB
  have hN := hK.2
  have hS : va_S A s.heap s.heap [] := va_S.rf
  have hl : lv_has ls 5 [(0, .ref (jO X 16))] := hl
  refine lv_aload_n hx hb dX6_forgiven_0 rfl (lv_at hl 0 rfl) ?_
  refine lv_iconst (v := 0) hx hb dX6_forgiven_1 jci_0 ?_
  refine jr_put (k := 11) (z := 0) hx hb hts hown hK hP hs hS jb_16 (Nat.le_of_ble_eq_true rfl) jlX6_79 rfl (Or.inl rfl) rfl rfl rfl dX6_forgiven_2 (fun H locs hP hS => ?_)
  refine lv_iconst (v := 0) hx hb dX6_forgiven_5 jci_0 ?_
  refine lv_istore_n (lv' := [(1, .int 0), (0, .ref (jO X 16))]) hx hb dX6_forgiven_6 rfl hl (Nat.le_of_ble_eq_true rfl) rfl (fun ls hl => ?_)
  refine lv_iconst (v := 0) hx hb dX6_forgiven_7 jci_0 ?_
  refine lv_istore_n (lv' := [(2, .int 0), (1, .int 0), (0, .ref (jO X 16))]) hx hb dX6_forgiven_8 rfl hl (Nat.le_of_ble_eq_true rfl) rfl (fun ls hl => ?_)
  have L9 : ∀ (k_1 : Nat) (M_1 : jm) (H : Heap) (locs : List Loc) (v1_1 : Int32) (v2_1 : Int32) (ls : Array Slot), f_X6_forgiven_l9 k_1 M_1 v1_1 v2_1 = some (r, N) → jrp X M_1 H → va_S A s.heap H locs → lv_has ls 5 [(0, .ref (jO X 16)), (1, .int v1_1), (2, .int v2_1)] → W p l e (jrm 1 23) s m args below meth c H locs 0 0 (MQ below (jQm X A (some (.int r)) N) args s 0 0 A) (F0 m 9 ls []) := by
    intro k_1
    induction k_1 with
    | zero => intro M_1 H locs v1_1 v2_1 ls h; exact jh_0 h
    | succ k_1 ih9 =>
      intro M_1 H locs v1_1 v2_1 ls h hP hS hl
      refine lv_iload_n hx hb dX6_forgiven_9 rfl (lv_at hl 2 rfl) ?_
      refine lv_aload_n hx hb dX6_forgiven_10 rfl (lv_at hl 0 rfl) ?_
      refine jr_get (k := 5) hx hb hts hown hK hP jb_16 (Nat.le_of_ble_eq_true rfl) jlX6_92 rfl dX6_forgiven_11 ?_
      refine lv_icmp_ge (tgt := 80) hx hb dX6_forgiven_14 rfl (fun c14 => ?_) (fun c14 => ?_)
      · replace h := jh_t h c14
        refine lv_iload_n hx hb dX6_forgiven_80 rfl (lv_at hl 1 rfl) ?_
        exact je_mi hx hb hr hlocks hK hP hS h dX6_forgiven_81
      · replace h := jh_f h c14
        refine lv_iconst (v := 0) hx hb dX6_forgiven_17 jci_0 ?_
        refine lv_istore_n (lv' := [(3, .int 0), (0, .ref (jO X 16)), (1, .int v1_1), (2, .int v2_1)]) hx hb dX6_forgiven_18 rfl hl (Nat.le_of_ble_eq_true rfl) rfl (fun ls hl => ?_)
        have L19 : ∀ (v2_2 : Int32) (k_2 : Nat) (M_2 : jm) (H : Heap) (locs : List Loc) (v1_2 : Int32) (v3_2 : Int32) (ls : Array Slot), f_X6_forgiven_l19 (f_X6_forgiven_l9 k_1) v2_2 k_2 M_2 v1_2 v3_2 = some (r, N) → jrp X M_2 H → va_S A s.heap H locs → lv_has ls 5 [(0, .ref (jO X 16)), (1, .int v1_2), (2, .int v2_2), (3, .int v3_2)] → W p l e (jrm 1 23) s m args below meth c H locs 0 0 (MQ below (jQm X A (some (.int r)) N) args s 0 0 A) (F0 m 19 ls []) := by
          intro v2_2 k_2
          induction k_2 with
          | zero => intro M_2 H locs v1_2 v3_2 ls h; exact jh_0 h
          | succ k_2 ih19 =>
            intro M_2 H locs v1_2 v3_2 ls h hP hS hl
            refine lv_iload_n hx hb dX6_forgiven_19 rfl (lv_at hl 3 rfl) ?_
            refine lv_aload_n hx hb dX6_forgiven_20 rfl (lv_at hl 0 rfl) ?_
            refine jr_get (k := 0) hx hb hts hown hK hP jb_16 (Nat.le_of_ble_eq_true rfl) jlX6_89 rfl dX6_forgiven_21 ?_
            refine lv_icmp_ge (tgt := 74) hx hb dX6_forgiven_24 rfl (fun c24 => ?_) (fun c24 => ?_)
            · replace h := jh_t h c24
              refine lv_iinc (v := (v2_2 + 1)) (lv' := [(2, .int (v2_2 + 1)), (0, .ref (jO X 16)), (1, .int v1_2), (3, .int v3_2)]) hx hb dX6_forgiven_74 hl (k := 2) rfl (congrArg _ jci_1) (Nat.le_of_ble_eq_true rfl) rfl (fun ls hl => ?_)
              refine lv_goto (tgt := 9) hx hb dX6_forgiven_77 rfl ?_
              exact ih9 M_2 _ _ v1_2 (v2_2 + 1) _ h hP hS (lv_sub hl [1, 2, 0] rfl)
            · replace h := jh_f h c24
              refine lv_aload_n hx hb dX6_forgiven_27 rfl (lv_at hl 0 rfl) ?_
              refine jr_get (k := 9) hx hb hts hown hK hP jb_16 (Nat.le_of_ble_eq_true rfl) jlX6_31 rfl dX6_forgiven_28 ?_
              refine lv_bipush (v := 7) hx hb dX6_forgiven_31 jcb_7 ?_
              refine lv_iload_n hx hb dX6_forgiven_33 rfl (lv_at hl 2 rfl) ?_
              refine lv_imul hx hb dX6_forgiven_34 ?_
              refine lv_iload_n hx hb dX6_forgiven_35 rfl (lv_at hl 3 rfl) ?_
              refine lv_iadd hx hb dX6_forgiven_36 ?_
              obtain ⟨g37, h⟩ := jh_gd h
              refine jr_ald (n := 42) hx hb hK hP jb_16 rfl g37 dX6_forgiven_37 ?_
              refine lv_istore (lv' := [(4, .int (M_2 16 9 (Int32.toNatClampNeg ((7 * v2_2) + v3_2)))), (0, .ref (jO X 16)), (1, .int v1_2), (2, .int v2_2), (3, .int v3_2)]) hx hb dX6_forgiven_38 hl (Nat.le_of_ble_eq_true rfl) rfl (fun ls hl => ?_)
              refine lv_iload_n hx hb dX6_forgiven_40 rfl (lv_at hl 2 rfl) ?_
              refine lv_iload hx hb dX6_forgiven_41 (lv_at hl 0 rfl) ?_
              refine lv_if_le (tgt := 65) hx hb dX6_forgiven_43 rfl (fun c43 => ?_) (fun c43 => ?_)
              · replace h := jh_t h c43
                refine lv_iconst (v := 0) hx hb dX6_forgiven_65 jci_0 ?_
                refine lv_iadd hx hb dX6_forgiven_66 ?_
                refine lv_istore_n (lv' := [(1, .int (v1_2 + 0)), (4, .int (M_2 16 9 (Int32.toNatClampNeg ((7 * v2_2) + v3_2)))), (0, .ref (jO X 16)), (2, .int v2_2), (3, .int v3_2)]) hx hb dX6_forgiven_67 rfl hl (Nat.le_of_ble_eq_true rfl) rfl (fun ls hl => ?_)
                refine lv_iinc (v := (v3_2 + 1)) (lv' := [(3, .int (v3_2 + 1)), (1, .int (v1_2 + 0)), (4, .int (M_2 16 9 (Int32.toNatClampNeg ((7 * v2_2) + v3_2)))), (0, .ref (jO X 16)), (2, .int v2_2)]) hx hb dX6_forgiven_68 hl (k := 4) rfl (congrArg _ jci_1) (Nat.le_of_ble_eq_true rfl) rfl (fun ls hl => ?_)
                refine lv_goto (tgt := 19) hx hb dX6_forgiven_71 rfl ?_
                exact ih19 M_2 _ _ (v1_2 + 0) (v3_2 + 1) _ h hP hS (lv_sub hl [3, 1, 4, 0] rfl)
              · replace h := jh_f h c43
                refine lv_aload_n hx hb dX6_forgiven_46 rfl (lv_at hl 1 rfl) ?_
                refine lv_iload_n hx hb dX6_forgiven_47 rfl (lv_at hl 4 rfl) ?_
                refine lv_iload hx hb dX6_forgiven_48 (lv_at hl 0 rfl) ?_
                refine lv_iconst (v := 1) hx hb dX6_forgiven_50 jci_1 ?_
                refine lv_isub hx hb dX6_forgiven_51 ?_
                obtain ⟨r3, e3, h⟩ := jh_b h
                refine jr_kp (jr_rv (As := [.int v3_2, .int ((M_2 16 9 (Int32.toNatClampNeg ((7 * v2_2) + v3_2))) - 1)]) (rest := [.int v1_2]) S hK hP jb_16 rfl (m_X6_minutesOf l X M_2 v3_2 ((M_2 16 9 (Int32.toNatClampNeg ((7 * v2_2) + v3_2))) - 1) r3 e3) jw_X6_minutesOf ji_X6_minutesOf jmX6_110 rfl rfl ⟨(Nat.le_of_ble_eq_true rfl), (Nat.le_of_ble_eq_true rfl)⟩ rfl hl.1 rfl (Nat.le_of_ble_eq_true rfl) dX6_forgiven_52 ⟨Nat.zero_le _, Nat.zero_le _⟩) ?_
                refine lv_aload_n hx hb dX6_forgiven_55 rfl (lv_at hl 1 rfl) ?_
                refine lv_iload_n hx hb dX6_forgiven_56 rfl (lv_at hl 4 rfl) ?_
                refine lv_iconst (v := 0) hx hb dX6_forgiven_57 jci_0 ?_
                obtain ⟨r4, e4, h⟩ := jh_b h
                refine jr_kp (jr_rv (As := [.int v3_2, .int 0]) (rest := [.int r3, .int v1_2]) S hK hP jb_16 rfl (m_X6_minutesOf l X M_2 v3_2 0 r4 e4) jw_X6_minutesOf ji_X6_minutesOf jmX6_110 rfl rfl ⟨(Nat.le_of_ble_eq_true rfl), (Nat.le_of_ble_eq_true rfl)⟩ rfl hl.1 rfl (Nat.le_of_ble_eq_true rfl) dX6_forgiven_58 ⟨Nat.zero_le _, Nat.zero_le _⟩) ?_
                refine lv_isub hx hb dX6_forgiven_61 ?_
                refine lv_goto (tgt := 66) hx hb dX6_forgiven_62 rfl ?_
                refine lv_iadd hx hb dX6_forgiven_66 ?_
                refine lv_istore_n (lv' := [(1, .int (v1_2 + (r3 - r4))), (4, .int (M_2 16 9 (Int32.toNatClampNeg ((7 * v2_2) + v3_2)))), (0, .ref (jO X 16)), (2, .int v2_2), (3, .int v3_2)]) hx hb dX6_forgiven_67 rfl hl (Nat.le_of_ble_eq_true rfl) rfl (fun ls hl => ?_)
                refine lv_iinc (v := (v3_2 + 1)) (lv' := [(3, .int (v3_2 + 1)), (1, .int (v1_2 + (r3 - r4))), (4, .int (M_2 16 9 (Int32.toNatClampNeg ((7 * v2_2) + v3_2)))), (0, .ref (jO X 16)), (2, .int v2_2)]) hx hb dX6_forgiven_68 hl (k := 4) rfl (congrArg _ jci_1) (Nat.le_of_ble_eq_true rfl) rfl (fun ls hl => ?_)
                refine lv_goto (tgt := 19) hx hb dX6_forgiven_71 rfl ?_
                exact ih19 M_2 _ _ (v1_2 + (r3 - r4)) (v3_2 + 1) _ h hP hS (lv_sub hl [3, 1, 4, 0] rfl)
        exact L19 v2_1 10000 M_1 _ _ v1_1 0 _ h hP hS (lv_sub hl [1, 2, 3, 0] rfl)
  exact L9 10000 (ju M 16 11 0 0) _ _ 0 0 _ h hP hS (lv_sub hl [2, 1, 0] rfl)
def f_X6_nearest_j87 (M_4 : jm) (K28_4 : jm → Int32 → Int32 → Int32 → Option (Int32 × jm)) (v1_2 : Int32) (v3_4 : Int32) (v4_4 : Int32) (v5_4 : Int32) (t0_4 : Int32) : Option (Int32 × jm) := (if v3_4 ≤ v5_4 then (K28_4 M_4 t0_4 v3_4 (v4_4 + 1)) else (K28_4 M_4 t0_4 v5_4 (v4_4 + 1)))
def f_X6_nearest_j73 (M_3 : jm) (K28_3 : jm → Int32 → Int32 → Int32 → Option (Int32 × jm)) (v1_2 : Int32) (v2_3 : Int32) (v3_3 : Int32) (v4_3 : Int32) (t0_3 : Int32) : Option (Int32 × jm) := (if v3_3 ≤ t0_3 then (f_X6_nearest_j87 M_3 K28_3 v1_2 v3_3 v4_3 t0_3 v2_3) else (f_X6_nearest_j87 M_3 K28_3 v1_2 v3_3 v4_3 t0_3 v4_3))
def f_X6_nearest_l28 (v1_2 : Int32) : Nat → jm → Int32 → Int32 → Int32 → Option (Int32 × jm)
  | 0, _, _, _, _ => none
  | k_2 + 1, M_2, v2_2, v3_2, v4_2 => (if (M_2 16 0 0) ≤ v4_2 then (some (v2_2, M_2)) else (jgd ((7 * v1_2) + v4_2) 42 (if (M_2 16 9 (Int32.toNatClampNeg ((7 * v1_2) + v4_2))) ≤ 0 then (f_X6_nearest_j73 M_2 (f_X6_nearest_l28 v1_2 k_2) v1_2 v2_2 v3_2 v4_2 99) else (jgd v1_2 6 (jgd v4_2 8 (f_X6_nearest_j73 M_2 (f_X6_nearest_l28 v1_2 k_2) v1_2 v2_2 v3_2 v4_2 (f_X6_stepsOf (M_2 16 6 (Int32.toNatClampNeg v1_2)) (M_2 16 3 (Int32.toNatClampNeg v4_2)))))))))
def f_X6_nearest (M : jm) (v1 : Int32) : Option (Int32 × jm) := (if (f_X6_isWalker (ju M 16 11 0 0) v1) = 0 then (jb2 (f_X6_refuse (ju M 16 11 0 0) (-1)) fun r6 M_6 => (some (r6, M_6))) else (f_X6_nearest_l28 v1 10000 (ju M 16 11 0 0) (-9) 99 0))
set_option maxRecDepth 100000 in
theorem m_X6_nearest (l : Launch) (X : jX) (A : Nat → Prop) (hs : jst X A) (M : jm) (v1 : Int32) (r : Int32) (N : jm) (h : f_X6_nearest M v1 = some (r, N)) : Met l yX6_nearest (jws yX6_nearest cX6_nearest 6 (some .int)) (jrm 2 46) (va_Pc [.ref (jO X 16), .int v1] (jB X M)) (jQm X A (some (.int r)) N) 0 0 A := by
  refine jm_of (by decide) (Nat.le_of_ble_eq_true rfl) ?_
  intro p e s m args below meth c ls S hr hlocks hB hl
  have S : CallFix p m c cX6_nearest 6 s args jtb RX6 := S
  obtain ⟨hx, hb, hml, hown, hts⟩ := id S
  obtain ⟨hP, hK⟩ := hB
  have hN := hK.2
  have hS : va_S A s.heap s.heap [] := va_S.rf
  have hl : lv_has ls 6 [(0, .ref (jO X 16)), (1, .int v1)] := hl
  refine lv_aload_n hx hb dX6_nearest_0 rfl (lv_at hl 0 rfl) ?_
  refine lv_iconst (v := 0) hx hb dX6_nearest_1 jci_0 ?_
  refine jr_put (k := 11) (z := 0) hx hb hts hown hK hP hs hS jb_16 (Nat.le_of_ble_eq_true rfl) jlX6_79 rfl (Or.inl rfl) rfl rfl rfl dX6_nearest_2 (fun H locs hP hS => ?_)
  refine lv_aload_n hx hb dX6_nearest_5 rfl (lv_at hl 0 rfl) ?_
  refine lv_iload_n hx hb dX6_nearest_6 rfl (lv_at hl 1 rfl) ?_
  refine jr_kp (jr_rv (As := [.int v1]) (rest := []) S hK hP jb_16 rfl (m_X6_isWalker l X (ju M 16 11 0 0) v1 _ rfl) jw_X6_isWalker ji_X6_isWalker jmX6_184 rfl rfl ⟨(Nat.le_of_ble_eq_true rfl), (Nat.le_of_ble_eq_true rfl)⟩ rfl hl.1 rfl (Nat.le_of_ble_eq_true rfl) dX6_nearest_7 ⟨Nat.zero_le _, Nat.zero_le _⟩) ?_
  refine lv_if_ne (tgt := 19) hx hb dX6_nearest_10 rfl (fun c10 => ?_) (fun c10 => ?_)
  · replace h := jh_f h c10
    refine lv_bipush (v := (-9)) hx hb dX6_nearest_19 jcb_m9 ?_
    refine lv_istore_n (lv' := [(2, .int (-9)), (0, .ref (jO X 16)), (1, .int v1)]) hx hb dX6_nearest_21 rfl hl (Nat.le_of_ble_eq_true rfl) rfl (fun ls hl => ?_)
    refine lv_bipush (v := 99) hx hb dX6_nearest_22 jcb_99 ?_
    refine lv_istore_n (lv' := [(3, .int 99), (2, .int (-9)), (0, .ref (jO X 16)), (1, .int v1)]) hx hb dX6_nearest_24 rfl hl (Nat.le_of_ble_eq_true rfl) rfl (fun ls hl => ?_)
    refine lv_iconst (v := 0) hx hb dX6_nearest_25 jci_0 ?_
    refine lv_istore (lv' := [(4, .int 0), (3, .int 99), (2, .int (-9)), (0, .ref (jO X 16)), (1, .int v1)]) hx hb dX6_nearest_26 hl (Nat.le_of_ble_eq_true rfl) rfl (fun ls hl => ?_)
    have L28 : ∀ (v1_2 : Int32) (k_2 : Nat) (M_2 : jm) (H : Heap) (locs : List Loc) (v2_2 : Int32) (v3_2 : Int32) (v4_2 : Int32) (ls : Array Slot), f_X6_nearest_l28 v1_2 k_2 M_2 v2_2 v3_2 v4_2 = some (r, N) → jrp X M_2 H → va_S A s.heap H locs → lv_has ls 6 [(0, .ref (jO X 16)), (1, .int v1_2), (2, .int v2_2), (3, .int v3_2), (4, .int v4_2)] → W p l e (jrm 2 46) s m args below meth c H locs 0 0 (MQ below (jQm X A (some (.int r)) N) args s 0 0 A) (F0 m 28 ls []) := by
      intro v1_2 k_2
      induction k_2 with
      | zero => intro M_2 H locs v2_2 v3_2 v4_2 ls h; exact jh_0 h
      | succ k_2 ih28 =>
        intro M_2 H locs v2_2 v3_2 v4_2 ls h hP hS hl
        refine lv_iload hx hb dX6_nearest_28 (lv_at hl 4 rfl) ?_
        refine lv_aload_n hx hb dX6_nearest_30 rfl (lv_at hl 0 rfl) ?_
        refine jr_get (k := 0) hx hb hts hown hK hP jb_16 (Nat.le_of_ble_eq_true rfl) jlX6_89 rfl dX6_nearest_31 ?_
        refine lv_icmp_ge (tgt := 107) hx hb dX6_nearest_34 rfl (fun c34 => ?_) (fun c34 => ?_)
        · replace h := jh_t h c34
          refine lv_iload_n hx hb dX6_nearest_107 rfl (lv_at hl 2 rfl) ?_
          exact je_mi hx hb hr hlocks hK hP hS h dX6_nearest_108
        · replace h := jh_f h c34
          refine lv_aload_n hx hb dX6_nearest_37 rfl (lv_at hl 0 rfl) ?_
          refine jr_get (k := 9) hx hb hts hown hK hP jb_16 (Nat.le_of_ble_eq_true rfl) jlX6_31 rfl dX6_nearest_38 ?_
          refine lv_bipush (v := 7) hx hb dX6_nearest_41 jcb_7 ?_
          refine lv_iload_n hx hb dX6_nearest_43 rfl (lv_at hl 1 rfl) ?_
          refine lv_imul hx hb dX6_nearest_44 ?_
          refine lv_iload hx hb dX6_nearest_45 (lv_at hl 4 rfl) ?_
          refine lv_iadd hx hb dX6_nearest_47 ?_
          obtain ⟨g48, h⟩ := jh_gd h
          refine jr_ald (n := 42) hx hb hK hP jb_16 rfl g48 dX6_nearest_48 ?_
          have J73 : ∀ (M_3 : jm) (H : Heap) (locs : List Loc) (v2_3 : Int32) (v3_3 : Int32) (v4_3 : Int32) (t0_3 : Int32) (ls : Array Slot), f_X6_nearest_j73 M_3 (f_X6_nearest_l28 v1_2 k_2) v1_2 v2_3 v3_3 v4_3 t0_3 = some (r, N) → jrp X M_3 H → va_S A s.heap H locs → lv_has ls 6 [(0, .ref (jO X 16)), (1, .int v1_2), (2, .int v2_3), (3, .int v3_3), (4, .int v4_3)] → W p l e (jrm 2 46) s m args below meth c H locs 0 0 (MQ below (jQm X A (some (.int r)) N) args s 0 0 A) (F0 m 73 ls [.int t0_3]) := by
            intro M_3 H locs v2_3 v3_3 v4_3 t0_3 ls h hP hS hl
            refine lv_istore (lv' := [(5, .int t0_3), (0, .ref (jO X 16)), (1, .int v1_2), (2, .int v2_3), (3, .int v3_3), (4, .int v4_3)]) hx hb dX6_nearest_73 hl (Nat.le_of_ble_eq_true rfl) rfl (fun ls hl => ?_)
            refine lv_iload hx hb dX6_nearest_75 (lv_at hl 0 rfl) ?_
            refine lv_iload_n hx hb dX6_nearest_77 rfl (lv_at hl 4 rfl) ?_
            have J87 : ∀ (M_4 : jm) (H : Heap) (locs : List Loc) (v3_4 : Int32) (v4_4 : Int32) (v5_4 : Int32) (t0_4 : Int32) (ls : Array Slot), f_X6_nearest_j87 M_4 (f_X6_nearest_l28 v1_2 k_2) v1_2 v3_4 v4_4 v5_4 t0_4 = some (r, N) → jrp X M_4 H → va_S A s.heap H locs → lv_has ls 6 [(0, .ref (jO X 16)), (1, .int v1_2), (3, .int v3_4), (4, .int v4_4), (5, .int v5_4)] → W p l e (jrm 2 46) s m args below meth c H locs 0 0 (MQ below (jQm X A (some (.int r)) N) args s 0 0 A) (F0 m 87 ls [.int t0_4]) := by
              intro M_4 H locs v3_4 v4_4 v5_4 t0_4 ls h hP hS hl
              refine lv_istore_n (lv' := [(2, .int t0_4), (0, .ref (jO X 16)), (1, .int v1_2), (3, .int v3_4), (4, .int v4_4), (5, .int v5_4)]) hx hb dX6_nearest_87 rfl hl (Nat.le_of_ble_eq_true rfl) rfl (fun ls hl => ?_)
              refine lv_iload hx hb dX6_nearest_88 (lv_at hl 5 rfl) ?_
              refine lv_iload_n hx hb dX6_nearest_90 rfl (lv_at hl 3 rfl) ?_
              refine lv_icmp_ge (tgt := 99) hx hb dX6_nearest_91 rfl (fun c91 => ?_) (fun c91 => ?_)
              · replace h := jh_t h c91
                refine lv_iload_n hx hb dX6_nearest_99 rfl (lv_at hl 3 rfl) ?_
                refine lv_istore_n (lv' := [(3, .int v3_4), (2, .int t0_4), (0, .ref (jO X 16)), (1, .int v1_2), (4, .int v4_4), (5, .int v5_4)]) hx hb dX6_nearest_100 rfl hl (Nat.le_of_ble_eq_true rfl) rfl (fun ls hl => ?_)
                refine lv_iinc (v := (v4_4 + 1)) (lv' := [(4, .int (v4_4 + 1)), (3, .int v3_4), (2, .int t0_4), (0, .ref (jO X 16)), (1, .int v1_2), (5, .int v5_4)]) hx hb dX6_nearest_101 hl (k := 4) rfl (congrArg _ jci_1) (Nat.le_of_ble_eq_true rfl) rfl (fun ls hl => ?_)
                refine lv_goto (tgt := 28) hx hb dX6_nearest_104 rfl ?_
                exact ih28 M_4 _ _ t0_4 v3_4 (v4_4 + 1) _ h hP hS (lv_sub hl [3, 4, 2, 1, 0] rfl)
              · replace h := jh_f h c91
                refine lv_iload hx hb dX6_nearest_94 (lv_at hl 5 rfl) ?_
                refine lv_goto (tgt := 100) hx hb dX6_nearest_96 rfl ?_
                refine lv_istore_n (lv' := [(3, .int v5_4), (2, .int t0_4), (0, .ref (jO X 16)), (1, .int v1_2), (4, .int v4_4), (5, .int v5_4)]) hx hb dX6_nearest_100 rfl hl (Nat.le_of_ble_eq_true rfl) rfl (fun ls hl => ?_)
                refine lv_iinc (v := (v4_4 + 1)) (lv' := [(4, .int (v4_4 + 1)), (3, .int v5_4), (2, .int t0_4), (0, .ref (jO X 16)), (1, .int v1_2), (5, .int v5_4)]) hx hb dX6_nearest_101 hl (k := 4) rfl (congrArg _ jci_1) (Nat.le_of_ble_eq_true rfl) rfl (fun ls hl => ?_)
                refine lv_goto (tgt := 28) hx hb dX6_nearest_104 rfl ?_
                exact ih28 M_4 _ _ t0_4 v5_4 (v4_4 + 1) _ h hP hS (lv_sub hl [3, 4, 2, 1, 0] rfl)
            refine lv_icmp_ge (tgt := 86) hx hb dX6_nearest_78 rfl (fun c78 => ?_) (fun c78 => ?_)
            · replace h := jh_t h c78
              refine lv_iload_n hx hb dX6_nearest_86 rfl (lv_at hl 3 rfl) ?_
              exact J87 M_3 _ _ v3_3 v4_3 t0_3 v2_3 _ h hP hS (lv_sub hl [1, 2, 4, 5, 0] rfl)
            · replace h := jh_f h c78
              refine lv_iload hx hb dX6_nearest_81 (lv_at hl 5 rfl) ?_
              refine lv_goto (tgt := 87) hx hb dX6_nearest_83 rfl ?_
              exact J87 M_3 _ _ v3_3 v4_3 t0_3 v4_3 _ h hP hS (lv_sub hl [1, 2, 4, 5, 0] rfl)
          refine lv_if_le (tgt := 71) hx hb dX6_nearest_49 rfl (fun c49 => ?_) (fun c49 => ?_)
          · replace h := jh_t h c49
            refine lv_bipush (v := 99) hx hb dX6_nearest_71 jcb_99 ?_
            exact J73 M_2 _ _ v2_2 v3_2 v4_2 99 _ h hP hS hl
          · replace h := jh_f h c49
            refine lv_aload_n hx hb dX6_nearest_52 rfl (lv_at hl 0 rfl) ?_
            refine jr_get (k := 6) hx hb hts hown hK hP jb_16 (Nat.le_of_ble_eq_true rfl) jlX6_22 rfl dX6_nearest_53 ?_
            refine lv_iload_n hx hb dX6_nearest_56 rfl (lv_at hl 1 rfl) ?_
            obtain ⟨g57, h⟩ := jh_gd h
            refine jr_ald (n := 6) hx hb hK hP jb_16 rfl g57 dX6_nearest_57 ?_
            refine lv_aload_n hx hb dX6_nearest_58 rfl (lv_at hl 0 rfl) ?_
            refine jr_get (k := 3) hx hb hts hown hK hP jb_16 (Nat.le_of_ble_eq_true rfl) jlX6_16 rfl dX6_nearest_59 ?_
            refine lv_iload hx hb dX6_nearest_62 (lv_at hl 4 rfl) ?_
            obtain ⟨g64, h⟩ := jh_gd h
            refine jr_ald (n := 8) hx hb hK hP jb_16 rfl g64 dX6_nearest_64 ?_
            refine jr_kp (jr_rs (As := [.int (M_2 16 6 (Int32.toNatClampNeg v1_2)), .int (M_2 16 3 (Int32.toNatClampNeg v4_2))]) (rest := []) S hN (m_X6_stepsOf l (M_2 16 6 (Int32.toNatClampNeg v1_2)) (M_2 16 3 (Int32.toNatClampNeg v4_2)) _ rfl) jw_X6_stepsOf js_X6_stepsOf jmX6_103 rfl rfl ⟨(Nat.le_of_ble_eq_true rfl), (Nat.le_of_ble_eq_true rfl)⟩ rfl hl.1 rfl (Nat.le_of_ble_eq_true rfl) dX6_nearest_65 ⟨Nat.zero_le _, Nat.zero_le _⟩) ?_
            refine lv_goto (tgt := 73) hx hb dX6_nearest_68 rfl ?_
            exact J73 M_2 _ _ v2_2 v3_2 v4_2 (f_X6_stepsOf (M_2 16 6 (Int32.toNatClampNeg v1_2)) (M_2 16 3 (Int32.toNatClampNeg v4_2))) _ h hP hS hl
    exact L28 v1 10000 (ju M 16 11 0 0) _ _ (-9) 99 0 _ h hP hS (lv_sub hl [3, 4, 2, 1, 0] rfl)
  · replace h := jh_t h c10
    refine lv_aload_n hx hb dX6_nearest_13 rfl (lv_at hl 0 rfl) ?_
    refine lv_iconst (v := (-1)) hx hb dX6_nearest_14 jci_m1 ?_
    obtain ⟨r6, M_6, e6, h⟩ := jh_b2 h
    refine jr_km (jr_rv (As := [.int (-1)]) (rest := []) S hK hP jb_16 rfl (m_X6_refuse l X A hs (ju M 16 11 0 0) (-1) r6 M_6 e6) jw_X6_refuse ji_X6_refuse jmX6_143 rfl rfl ⟨(Nat.le_of_ble_eq_true rfl), (Nat.le_of_ble_eq_true rfl)⟩ rfl hl.1 rfl (Nat.le_of_ble_eq_true rfl) dX6_nearest_15 ⟨Nat.zero_le _, Nat.zero_le _⟩) hS (fun H locs hP hS => ?_)
    exact je_mi hx hb hr hlocks hK hP hS h dX6_nearest_18
def f_X6_allSeen_l23 (v1_2 : Int32) : Nat → jm → Int32 → Int32 → Option (Int32 × jm)
  | 0, _, _, _ => none
  | k_2 + 1, M_2, v2_2, v3_2 => (if 49 ≤ v3_2 then (some (v2_2, M_2)) else (jgd v1_2 8 (jb (f_X6_reachOf M_2 v1_2) fun r4 => (if r4 < (f_X6_stepsOf v3_2 (M_2 16 3 (Int32.toNatClampNeg v1_2))) then ((f_X6_allSeen_l23 v1_2 k_2) M_2 (v2_2 + 0) (v3_2 + 1)) else ((f_X6_allSeen_l23 v1_2 k_2) M_2 (v2_2 + 1) (v3_2 + 1))))))
def f_X6_allSeen (M : jm) (v1 : Int32) : Option (Int32 × jm) := (if (f_X6_isHouse (ju M 16 11 0 0) v1) = 0 then (jb2 (f_X6_refuse (ju M 16 11 0 0) (-1)) fun r5 M_5 => (some (r5, M_5))) else (f_X6_allSeen_l23 v1 10000 (ju M 16 11 0 0) 0 0))
set_option maxRecDepth 100000 in
theorem m_X6_allSeen (l : Launch) (X : jX) (A : Nat → Prop) (hs : jst X A) (M : jm) (v1 : Int32) (r : Int32) (N : jm) (h : f_X6_allSeen M v1 = some (r, N)) : Met l yX6_allSeen (jws yX6_allSeen cX6_allSeen 4 (some .int)) (jrm 2 46) (va_Pc [.ref (jO X 16), .int v1] (jB X M)) (jQm X A (some (.int r)) N) 0 0 A := by
  refine jm_of (by decide) (Nat.le_of_ble_eq_true rfl) ?_
  intro p e s m args below meth c ls S hr hlocks hB hl
  have S : CallFix p m c cX6_allSeen 4 s args jtb RX6 := S
  obtain ⟨hx, hb, hml, hown, hts⟩ := id S
  obtain ⟨hP, hK⟩ := hB
  have hN := hK.2
  have hS : va_S A s.heap s.heap [] := va_S.rf
  have hl : lv_has ls 4 [(0, .ref (jO X 16)), (1, .int v1)] := hl
  refine lv_aload_n hx hb dX6_allSeen_0 rfl (lv_at hl 0 rfl) ?_
  refine lv_iconst (v := 0) hx hb dX6_allSeen_1 jci_0 ?_
  refine jr_put (k := 11) (z := 0) hx hb hts hown hK hP hs hS jb_16 (Nat.le_of_ble_eq_true rfl) jlX6_79 rfl (Or.inl rfl) rfl rfl rfl dX6_allSeen_2 (fun H locs hP hS => ?_)
  refine lv_aload_n hx hb dX6_allSeen_5 rfl (lv_at hl 0 rfl) ?_
  refine lv_iload_n hx hb dX6_allSeen_6 rfl (lv_at hl 1 rfl) ?_
  refine jr_kp (jr_rv (As := [.int v1]) (rest := []) S hK hP jb_16 rfl (m_X6_isHouse l X (ju M 16 11 0 0) v1 _ rfl) jw_X6_isHouse ji_X6_isHouse jmX6_181 rfl rfl ⟨(Nat.le_of_ble_eq_true rfl), (Nat.le_of_ble_eq_true rfl)⟩ rfl hl.1 rfl (Nat.le_of_ble_eq_true rfl) dX6_allSeen_7 ⟨Nat.zero_le _, Nat.zero_le _⟩) ?_
  refine lv_if_ne (tgt := 19) hx hb dX6_allSeen_10 rfl (fun c10 => ?_) (fun c10 => ?_)
  · replace h := jh_f h c10
    refine lv_iconst (v := 0) hx hb dX6_allSeen_19 jci_0 ?_
    refine lv_istore_n (lv' := [(2, .int 0), (0, .ref (jO X 16)), (1, .int v1)]) hx hb dX6_allSeen_20 rfl hl (Nat.le_of_ble_eq_true rfl) rfl (fun ls hl => ?_)
    refine lv_iconst (v := 0) hx hb dX6_allSeen_21 jci_0 ?_
    refine lv_istore_n (lv' := [(3, .int 0), (2, .int 0), (0, .ref (jO X 16)), (1, .int v1)]) hx hb dX6_allSeen_22 rfl hl (Nat.le_of_ble_eq_true rfl) rfl (fun ls hl => ?_)
    have L23 : ∀ (v1_2 : Int32) (k_2 : Nat) (M_2 : jm) (H : Heap) (locs : List Loc) (v2_2 : Int32) (v3_2 : Int32) (ls : Array Slot), f_X6_allSeen_l23 v1_2 k_2 M_2 v2_2 v3_2 = some (r, N) → jrp X M_2 H → va_S A s.heap H locs → lv_has ls 4 [(0, .ref (jO X 16)), (1, .int v1_2), (2, .int v2_2), (3, .int v3_2)] → W p l e (jrm 2 46) s m args below meth c H locs 0 0 (MQ below (jQm X A (some (.int r)) N) args s 0 0 A) (F0 m 23 ls []) := by
      intro v1_2 k_2
      induction k_2 with
      | zero => intro M_2 H locs v2_2 v3_2 ls h; exact jh_0 h
      | succ k_2 ih23 =>
        intro M_2 H locs v2_2 v3_2 ls h hP hS hl
        refine lv_iload_n hx hb dX6_allSeen_23 rfl (lv_at hl 3 rfl) ?_
        refine lv_bipush (v := 49) hx hb dX6_allSeen_24 jcb_49 ?_
        refine lv_icmp_ge (tgt := 61) hx hb dX6_allSeen_26 rfl (fun c26 => ?_) (fun c26 => ?_)
        · replace h := jh_t h c26
          refine lv_iload_n hx hb dX6_allSeen_61 rfl (lv_at hl 2 rfl) ?_
          exact je_mi hx hb hr hlocks hK hP hS h dX6_allSeen_62
        · replace h := jh_f h c26
          refine lv_iload_n hx hb dX6_allSeen_29 rfl (lv_at hl 2 rfl) ?_
          refine lv_iload_n hx hb dX6_allSeen_30 rfl (lv_at hl 3 rfl) ?_
          refine lv_aload_n hx hb dX6_allSeen_31 rfl (lv_at hl 0 rfl) ?_
          refine jr_get (k := 3) hx hb hts hown hK hP jb_16 (Nat.le_of_ble_eq_true rfl) jlX6_16 rfl dX6_allSeen_32 ?_
          refine lv_iload_n hx hb dX6_allSeen_35 rfl (lv_at hl 1 rfl) ?_
          obtain ⟨g36, h⟩ := jh_gd h
          refine jr_ald (n := 8) hx hb hK hP jb_16 rfl g36 dX6_allSeen_36 ?_
          refine jr_kp (jr_rs (As := [.int v3_2, .int (M_2 16 3 (Int32.toNatClampNeg v1_2))]) (rest := [.int v2_2]) S hN (m_X6_stepsOf l v3_2 (M_2 16 3 (Int32.toNatClampNeg v1_2)) _ rfl) jw_X6_stepsOf js_X6_stepsOf jmX6_103 rfl rfl ⟨(Nat.le_of_ble_eq_true rfl), (Nat.le_of_ble_eq_true rfl)⟩ rfl hl.1 rfl (Nat.le_of_ble_eq_true rfl) dX6_allSeen_37 ⟨Nat.zero_le _, Nat.zero_le _⟩) ?_
          refine lv_aload_n hx hb dX6_allSeen_40 rfl (lv_at hl 0 rfl) ?_
          refine lv_iload_n hx hb dX6_allSeen_41 rfl (lv_at hl 1 rfl) ?_
          obtain ⟨r4, e4, h⟩ := jh_b h
          refine jr_kp (jr_rv (As := [.int v1_2]) (rest := [.int (f_X6_stepsOf v3_2 (M_2 16 3 (Int32.toNatClampNeg v1_2))), .int v2_2]) S hK hP jb_16 rfl (m_X6_reachOf l X M_2 v1_2 r4 e4) jw_X6_reachOf ji_X6_reachOf jmX6_99 rfl rfl ⟨(Nat.le_of_ble_eq_true rfl), (Nat.le_of_ble_eq_true rfl)⟩ rfl hl.1 rfl (Nat.le_of_ble_eq_true rfl) dX6_allSeen_42 ⟨Nat.zero_le _, Nat.zero_le _⟩) ?_
          refine lv_icmp_gt (tgt := 52) hx hb dX6_allSeen_45 rfl (fun c45 => ?_) (fun c45 => ?_)
          · replace h := jh_t h c45
            refine lv_iconst (v := 0) hx hb dX6_allSeen_52 jci_0 ?_
            refine lv_iadd hx hb dX6_allSeen_53 ?_
            refine lv_istore_n (lv' := [(2, .int (v2_2 + 0)), (0, .ref (jO X 16)), (1, .int v1_2), (3, .int v3_2)]) hx hb dX6_allSeen_54 rfl hl (Nat.le_of_ble_eq_true rfl) rfl (fun ls hl => ?_)
            refine lv_iinc (v := (v3_2 + 1)) (lv' := [(3, .int (v3_2 + 1)), (2, .int (v2_2 + 0)), (0, .ref (jO X 16)), (1, .int v1_2)]) hx hb dX6_allSeen_55 hl (k := 3) rfl (congrArg _ jci_1) (Nat.le_of_ble_eq_true rfl) rfl (fun ls hl => ?_)
            refine lv_goto (tgt := 23) hx hb dX6_allSeen_58 rfl ?_
            exact ih23 M_2 _ _ (v2_2 + 0) (v3_2 + 1) _ h hP hS (lv_sub hl [2, 3, 1, 0] rfl)
          · replace h := jh_f h c45
            refine lv_iconst (v := 1) hx hb dX6_allSeen_48 jci_1 ?_
            refine lv_goto (tgt := 53) hx hb dX6_allSeen_49 rfl ?_
            refine lv_iadd hx hb dX6_allSeen_53 ?_
            refine lv_istore_n (lv' := [(2, .int (v2_2 + 1)), (0, .ref (jO X 16)), (1, .int v1_2), (3, .int v3_2)]) hx hb dX6_allSeen_54 rfl hl (Nat.le_of_ble_eq_true rfl) rfl (fun ls hl => ?_)
            refine lv_iinc (v := (v3_2 + 1)) (lv' := [(3, .int (v3_2 + 1)), (2, .int (v2_2 + 1)), (0, .ref (jO X 16)), (1, .int v1_2)]) hx hb dX6_allSeen_55 hl (k := 3) rfl (congrArg _ jci_1) (Nat.le_of_ble_eq_true rfl) rfl (fun ls hl => ?_)
            refine lv_goto (tgt := 23) hx hb dX6_allSeen_58 rfl ?_
            exact ih23 M_2 _ _ (v2_2 + 1) (v3_2 + 1) _ h hP hS (lv_sub hl [2, 3, 1, 0] rfl)
    exact L23 v1 10000 (ju M 16 11 0 0) _ _ 0 0 _ h hP hS (lv_sub hl [2, 3, 1, 0] rfl)
  · replace h := jh_t h c10
    refine lv_aload_n hx hb dX6_allSeen_13 rfl (lv_at hl 0 rfl) ?_
    refine lv_iconst (v := (-1)) hx hb dX6_allSeen_14 jci_m1 ?_
    obtain ⟨r5, M_5, e5, h⟩ := jh_b2 h
    refine jr_km (jr_rv (As := [.int (-1)]) (rest := []) S hK hP jb_16 rfl (m_X6_refuse l X A hs (ju M 16 11 0 0) (-1) r5 M_5 e5) jw_X6_refuse ji_X6_refuse jmX6_143 rfl rfl ⟨(Nat.le_of_ble_eq_true rfl), (Nat.le_of_ble_eq_true rfl)⟩ rfl hl.1 rfl (Nat.le_of_ble_eq_true rfl) dX6_allSeen_15 ⟨Nat.zero_le _, Nat.zero_le _⟩) hS (fun H locs hP hS => ?_)
    exact je_mi hx hb hr hlocks hK hP hS h dX6_allSeen_18
def f_X6_gaps_l14 : Nat → jm → Int32 → Int32 → Option (Int32 × jm)
  | 0, _, _, _ => none
  | k_2 + 1, M_2, v1_2, v2_2 => (if 60 < v2_2 then (jb (f_X6_again M_2) fun M_3 => (some (v1_2, M_3))) else (if 0 ≤ v1_2 then (jb (f_X6_again M_2) fun M_4 => (some (v1_2, M_4))) else (jb (f_X6_allDebts M_2) fun r5 => (jb (f_X6_eveningBy M_2 0) fun M_6 => (jb (f_X6_allDebts M_6) fun r7 => (if r7 = r5 then ((f_X6_gaps_l14 k_2) M_6 v2_2 (v2_2 + 1)) else ((f_X6_gaps_l14 k_2) M_6 (-9) (v2_2 + 1))))))))
def f_X6_gaps (M : jm) : Option (Int32 × jm) := (jb (f_X6_think (ju M 16 11 0 0)) fun M_1 => (f_X6_gaps_l14 10000 M_1 (-9) 0))
set_option maxRecDepth 100000 in
theorem m_X6_gaps (l : Launch) (X : jX) (A : Nat → Prop) (hs : jst X A) (M : jm) (r : Int32) (N : jm) (h : f_X6_gaps M = some (r, N)) : Met l yX6_gaps (jws yX6_gaps cX6_gaps 4 (some .int)) (jrm 5 114) (va_Pc [.ref (jO X 16)] (jB X M)) (jQm X A (some (.int r)) N) 0 0 A := by
  refine jm_of (by decide) (Nat.le_of_ble_eq_true rfl) ?_
  intro p e s m args below meth c ls S hr hlocks hB hl
  have S : CallFix p m c cX6_gaps 4 s args jtb RX6 := S
  obtain ⟨hx, hb, hml, hown, hts⟩ := id S
  obtain ⟨hP, hK⟩ := hB
  have hN := hK.2
  have hS : va_S A s.heap s.heap [] := va_S.rf
  have hl : lv_has ls 4 [(0, .ref (jO X 16))] := hl
  refine lv_aload_n hx hb dX6_gaps_0 rfl (lv_at hl 0 rfl) ?_
  refine lv_iconst (v := 0) hx hb dX6_gaps_1 jci_0 ?_
  refine jr_put (k := 11) (z := 0) hx hb hts hown hK hP hs hS jb_16 (Nat.le_of_ble_eq_true rfl) jlX6_79 rfl (Or.inl rfl) rfl rfl rfl dX6_gaps_2 (fun H locs hP hS => ?_)
  refine lv_bipush (v := (-9)) hx hb dX6_gaps_5 jcb_m9 ?_
  refine lv_istore_n (lv' := [(1, .int (-9)), (0, .ref (jO X 16))]) hx hb dX6_gaps_7 rfl hl (Nat.le_of_ble_eq_true rfl) rfl (fun ls hl => ?_)
  refine lv_aload_n hx hb dX6_gaps_8 rfl (lv_at hl 1 rfl) ?_
  obtain ⟨M_1, e1, h⟩ := jh_b h
  refine jr_kv (jr_rv (As := []) (rest := []) S hK hP jb_16 rfl (m_X6_think l X A hs (ju M 16 11 0 0)  M_1 e1) jw_X6_think ji_X6_think jmX6_196 rfl rfl ⟨(Nat.le_of_ble_eq_true rfl), (Nat.le_of_ble_eq_true rfl)⟩ rfl hl.1 rfl (Nat.le_of_ble_eq_true rfl) dX6_gaps_9 ⟨Nat.zero_le _, Nat.zero_le _⟩) hS (fun H locs hP hS => ?_)
  refine lv_iconst (v := 0) hx hb dX6_gaps_12 jci_0 ?_
  refine lv_istore_n (lv' := [(2, .int 0), (1, .int (-9)), (0, .ref (jO X 16))]) hx hb dX6_gaps_13 rfl hl (Nat.le_of_ble_eq_true rfl) rfl (fun ls hl => ?_)
  have L14 : ∀ (k_2 : Nat) (M_2 : jm) (H : Heap) (locs : List Loc) (v1_2 : Int32) (v2_2 : Int32) (ls : Array Slot), f_X6_gaps_l14 k_2 M_2 v1_2 v2_2 = some (r, N) → jrp X M_2 H → va_S A s.heap H locs → lv_has ls 4 [(0, .ref (jO X 16)), (1, .int v1_2), (2, .int v2_2)] → W p l e (jrm 5 114) s m args below meth c H locs 0 0 (MQ below (jQm X A (some (.int r)) N) args s 0 0 A) (F0 m 14 ls []) := by
    intro k_2
    induction k_2 with
    | zero => intro M_2 H locs v1_2 v2_2 ls h; exact jh_0 h
    | succ k_2 ih14 =>
      intro M_2 H locs v1_2 v2_2 ls h hP hS hl
      refine lv_iload_n hx hb dX6_gaps_14 rfl (lv_at hl 2 rfl) ?_
      refine lv_bipush (v := 60) hx hb dX6_gaps_15 jcb_60 ?_
      refine lv_icmp_gt (tgt := 55) hx hb dX6_gaps_17 rfl (fun c17 => ?_) (fun c17 => ?_)
      · replace h := jh_t h c17
        refine lv_aload_n hx hb dX6_gaps_55 rfl (lv_at hl 0 rfl) ?_
        obtain ⟨M_3, e3, h⟩ := jh_b h
        refine jr_kv (jr_rv (As := []) (rest := []) S hK hP jb_16 rfl (m_X6_again l X A hs M_2  M_3 e3) jw_X6_again ji_X6_again jmX6_202 rfl rfl ⟨(Nat.le_of_ble_eq_true rfl), (Nat.le_of_ble_eq_true rfl)⟩ rfl hl.1 rfl (Nat.le_of_ble_eq_true rfl) dX6_gaps_56 ⟨Nat.zero_le _, Nat.zero_le _⟩) hS (fun H locs hP hS => ?_)
        refine lv_iload_n hx hb dX6_gaps_59 rfl (lv_at hl 1 rfl) ?_
        exact je_mi hx hb hr hlocks hK hP hS h dX6_gaps_60
      · replace h := jh_f h c17
        refine lv_iload_n hx hb dX6_gaps_20 rfl (lv_at hl 1 rfl) ?_
        refine lv_if_ge (tgt := 55) hx hb dX6_gaps_21 rfl (fun c21 => ?_) (fun c21 => ?_)
        · replace h := jh_t h c21
          refine lv_aload_n hx hb dX6_gaps_55 rfl (lv_at hl 0 rfl) ?_
          obtain ⟨M_4, e4, h⟩ := jh_b h
          refine jr_kv (jr_rv (As := []) (rest := []) S hK hP jb_16 rfl (m_X6_again l X A hs M_2  M_4 e4) jw_X6_again ji_X6_again jmX6_202 rfl rfl ⟨(Nat.le_of_ble_eq_true rfl), (Nat.le_of_ble_eq_true rfl)⟩ rfl hl.1 rfl (Nat.le_of_ble_eq_true rfl) dX6_gaps_56 ⟨Nat.zero_le _, Nat.zero_le _⟩) hS (fun H locs hP hS => ?_)
          refine lv_iload_n hx hb dX6_gaps_59 rfl (lv_at hl 1 rfl) ?_
          exact je_mi hx hb hr hlocks hK hP hS h dX6_gaps_60
        · replace h := jh_f h c21
          refine lv_aload_n hx hb dX6_gaps_24 rfl (lv_at hl 0 rfl) ?_
          obtain ⟨r5, e5, h⟩ := jh_b h
          refine jr_kp (jr_rv (As := []) (rest := []) S hK hP jb_16 rfl (m_X6_allDebts l X M_2  r5 e5) jw_X6_allDebts ji_X6_allDebts jmX6_247 rfl rfl ⟨(Nat.le_of_ble_eq_true rfl), (Nat.le_of_ble_eq_true rfl)⟩ rfl hl.1 rfl (Nat.le_of_ble_eq_true rfl) dX6_gaps_25 ⟨Nat.zero_le _, Nat.zero_le _⟩) ?_
          refine lv_istore_n (lv' := [(3, .int r5), (0, .ref (jO X 16)), (1, .int v1_2), (2, .int v2_2)]) hx hb dX6_gaps_28 rfl hl (Nat.le_of_ble_eq_true rfl) rfl (fun ls hl => ?_)
          refine lv_aload_n hx hb dX6_gaps_29 rfl (lv_at hl 1 rfl) ?_
          refine lv_iconst (v := 0) hx hb dX6_gaps_30 jci_0 ?_
          obtain ⟨M_6, e6, h⟩ := jh_b h
          refine jr_kv (jr_rv (As := [.int 0]) (rest := []) S hK hP jb_16 rfl (m_X6_eveningBy l X A hs M_2 0 M_6 e6) jw_X6_eveningBy ji_X6_eveningBy jmX6_135 rfl rfl ⟨(Nat.le_of_ble_eq_true rfl), (Nat.le_of_ble_eq_true rfl)⟩ rfl hl.1 rfl (Nat.le_of_ble_eq_true rfl) dX6_gaps_31 ⟨Nat.zero_le _, Nat.zero_le _⟩) hS (fun H locs hP hS => ?_)
          refine lv_aload_n hx hb dX6_gaps_34 rfl (lv_at hl 1 rfl) ?_
          obtain ⟨r7, e7, h⟩ := jh_b h
          refine jr_kp (jr_rv (As := []) (rest := []) S hK hP jb_16 rfl (m_X6_allDebts l X M_6  r7 e7) jw_X6_allDebts ji_X6_allDebts jmX6_247 rfl rfl ⟨(Nat.le_of_ble_eq_true rfl), (Nat.le_of_ble_eq_true rfl)⟩ rfl hl.1 rfl (Nat.le_of_ble_eq_true rfl) dX6_gaps_35 ⟨Nat.zero_le _, Nat.zero_le _⟩) ?_
          refine lv_iload_n hx hb dX6_gaps_38 rfl (lv_at hl 0 rfl) ?_
          refine lv_icmp_ne (tgt := 46) hx hb dX6_gaps_39 rfl (fun c39 => ?_) (fun c39 => ?_)
          · replace h := jh_f h c39
            refine lv_bipush (v := (-9)) hx hb dX6_gaps_46 jcb_m9 ?_
            refine lv_istore_n (lv' := [(1, .int (-9)), (3, .int r5), (0, .ref (jO X 16)), (2, .int v2_2)]) hx hb dX6_gaps_48 rfl hl (Nat.le_of_ble_eq_true rfl) rfl (fun ls hl => ?_)
            refine lv_iinc (v := (v2_2 + 1)) (lv' := [(2, .int (v2_2 + 1)), (1, .int (-9)), (3, .int r5), (0, .ref (jO X 16))]) hx hb dX6_gaps_49 hl (k := 3) rfl (congrArg _ jci_1) (Nat.le_of_ble_eq_true rfl) rfl (fun ls hl => ?_)
            refine lv_goto (tgt := 14) hx hb dX6_gaps_52 rfl ?_
            exact ih14 M_6 _ _ (-9) (v2_2 + 1) _ h hP hS (lv_sub hl [3, 1, 0] rfl)
          · replace h := jh_t h c39
            refine lv_iload_n hx hb dX6_gaps_42 rfl (lv_at hl 3 rfl) ?_
            refine lv_goto (tgt := 48) hx hb dX6_gaps_43 rfl ?_
            refine lv_istore_n (lv' := [(1, .int v2_2), (3, .int r5), (0, .ref (jO X 16)), (2, .int v2_2)]) hx hb dX6_gaps_48 rfl hl (Nat.le_of_ble_eq_true rfl) rfl (fun ls hl => ?_)
            refine lv_iinc (v := (v2_2 + 1)) (lv' := [(2, .int (v2_2 + 1)), (1, .int v2_2), (3, .int r5), (0, .ref (jO X 16))]) hx hb dX6_gaps_49 hl (k := 3) rfl (congrArg _ jci_1) (Nat.le_of_ble_eq_true rfl) rfl (fun ls hl => ?_)
            refine lv_goto (tgt := 14) hx hb dX6_gaps_52 rfl ?_
            exact ih14 M_6 _ _ v2_2 (v2_2 + 1) _ h hP hS (lv_sub hl [3, 1, 0] rfl)
  exact L14 10000 M_1 _ _ (-9) 0 _ h hP hS (lv_sub hl [2, 1, 0] rfl)
def f_X6_blind_l9 : Nat → jm → Int32 → Int32 → Option (Int32 × jm)
  | 0, _, _, _ => none
  | k_1 + 1, M_1, v1_1, v2_1 => (if (M_1 16 5 0) ≤ v2_1 then (some (v1_1, M_1)) else (jgd v2_1 6 (jb (f_X6_seenFrom M_1 v2_1 (M_1 16 6 (Int32.toNatClampNeg v2_1))) fun r2 => (if r2 = 0 then ((f_X6_blind_l9 k_1) M_1 (v1_1 ||| ((1 : Int32) <<< (v2_1 &&& 31))) (v2_1 + 1)) else ((f_X6_blind_l9 k_1) M_1 (v1_1 ||| 0) (v2_1 + 1))))))
def f_X6_blind (M : jm) : Option (Int32 × jm) := (f_X6_blind_l9 10000 (ju M 16 11 0 0) 0 0)
set_option maxRecDepth 100000 in
theorem m_X6_blind (l : Launch) (X : jX) (A : Nat → Prop) (hs : jst X A) (M : jm) (r : Int32) (N : jm) (h : f_X6_blind M = some (r, N)) : Met l yX6_blind (jws yX6_blind cX6_blind 3 (some .int)) (jrm 4 90) (va_Pc [.ref (jO X 16)] (jB X M)) (jQm X A (some (.int r)) N) 0 0 A := by
  refine jm_of (by decide) (Nat.le_of_ble_eq_true rfl) ?_
  intro p e s m args below meth c ls S hr hlocks hB hl
  have S : CallFix p m c cX6_blind 3 s args jtb RX6 := S
  obtain ⟨hx, hb, hml, hown, hts⟩ := id S
  obtain ⟨hP, hK⟩ := hB
  have hN := hK.2
  have hS : va_S A s.heap s.heap [] := va_S.rf
  have hl : lv_has ls 3 [(0, .ref (jO X 16))] := hl
  refine lv_aload_n hx hb dX6_blind_0 rfl (lv_at hl 0 rfl) ?_
  refine lv_iconst (v := 0) hx hb dX6_blind_1 jci_0 ?_
  refine jr_put (k := 11) (z := 0) hx hb hts hown hK hP hs hS jb_16 (Nat.le_of_ble_eq_true rfl) jlX6_79 rfl (Or.inl rfl) rfl rfl rfl dX6_blind_2 (fun H locs hP hS => ?_)
  refine lv_iconst (v := 0) hx hb dX6_blind_5 jci_0 ?_
  refine lv_istore_n (lv' := [(1, .int 0), (0, .ref (jO X 16))]) hx hb dX6_blind_6 rfl hl (Nat.le_of_ble_eq_true rfl) rfl (fun ls hl => ?_)
  refine lv_iconst (v := 0) hx hb dX6_blind_7 jci_0 ?_
  refine lv_istore_n (lv' := [(2, .int 0), (1, .int 0), (0, .ref (jO X 16))]) hx hb dX6_blind_8 rfl hl (Nat.le_of_ble_eq_true rfl) rfl (fun ls hl => ?_)
  have L9 : ∀ (k_1 : Nat) (M_1 : jm) (H : Heap) (locs : List Loc) (v1_1 : Int32) (v2_1 : Int32) (ls : Array Slot), f_X6_blind_l9 k_1 M_1 v1_1 v2_1 = some (r, N) → jrp X M_1 H → va_S A s.heap H locs → lv_has ls 3 [(0, .ref (jO X 16)), (1, .int v1_1), (2, .int v2_1)] → W p l e (jrm 4 90) s m args below meth c H locs 0 0 (MQ below (jQm X A (some (.int r)) N) args s 0 0 A) (F0 m 9 ls []) := by
    intro k_1
    induction k_1 with
    | zero => intro M_1 H locs v1_1 v2_1 ls h; exact jh_0 h
    | succ k_1 ih9 =>
      intro M_1 H locs v1_1 v2_1 ls h hP hS hl
      refine lv_iload_n hx hb dX6_blind_9 rfl (lv_at hl 2 rfl) ?_
      refine lv_aload_n hx hb dX6_blind_10 rfl (lv_at hl 0 rfl) ?_
      refine jr_get (k := 5) hx hb hts hown hK hP jb_16 (Nat.le_of_ble_eq_true rfl) jlX6_92 rfl dX6_blind_11 ?_
      refine lv_icmp_ge (tgt := 47) hx hb dX6_blind_14 rfl (fun c14 => ?_) (fun c14 => ?_)
      · replace h := jh_t h c14
        refine lv_iload_n hx hb dX6_blind_47 rfl (lv_at hl 1 rfl) ?_
        exact je_mi hx hb hr hlocks hK hP hS h dX6_blind_48
      · replace h := jh_f h c14
        refine lv_iload_n hx hb dX6_blind_17 rfl (lv_at hl 1 rfl) ?_
        refine lv_aload_n hx hb dX6_blind_18 rfl (lv_at hl 0 rfl) ?_
        refine lv_iload_n hx hb dX6_blind_19 rfl (lv_at hl 2 rfl) ?_
        refine lv_aload_n hx hb dX6_blind_20 rfl (lv_at hl 0 rfl) ?_
        refine jr_get (k := 6) hx hb hts hown hK hP jb_16 (Nat.le_of_ble_eq_true rfl) jlX6_22 rfl dX6_blind_21 ?_
        refine lv_iload_n hx hb dX6_blind_24 rfl (lv_at hl 2 rfl) ?_
        obtain ⟨g25, h⟩ := jh_gd h
        refine jr_ald (n := 6) hx hb hK hP jb_16 rfl g25 dX6_blind_25 ?_
        obtain ⟨r2, e2, h⟩ := jh_b h
        refine jr_kp (jr_rv (As := [.int v2_1, .int (M_1 16 6 (Int32.toNatClampNeg v2_1))]) (rest := [.int v1_1]) S hK hP jb_16 rfl (m_X6_seenFrom l X M_1 v2_1 (M_1 16 6 (Int32.toNatClampNeg v2_1)) r2 e2) jw_X6_seenFrom ji_X6_seenFrom jmX6_128 rfl rfl ⟨(Nat.le_of_ble_eq_true rfl), (Nat.le_of_ble_eq_true rfl)⟩ rfl hl.1 rfl (Nat.le_of_ble_eq_true rfl) dX6_blind_26 ⟨Nat.zero_le _, Nat.zero_le _⟩) ?_
        refine lv_if_ne (tgt := 38) hx hb dX6_blind_29 rfl (fun c29 => ?_) (fun c29 => ?_)
        · replace h := jh_f h c29
          refine lv_iconst (v := 0) hx hb dX6_blind_38 jci_0 ?_
          refine lv_ior hx hb dX6_blind_39 ?_
          refine lv_istore_n (lv' := [(1, .int (v1_1 ||| 0)), (0, .ref (jO X 16)), (2, .int v2_1)]) hx hb dX6_blind_40 rfl hl (Nat.le_of_ble_eq_true rfl) rfl (fun ls hl => ?_)
          refine lv_iinc (v := (v2_1 + 1)) (lv' := [(2, .int (v2_1 + 1)), (1, .int (v1_1 ||| 0)), (0, .ref (jO X 16))]) hx hb dX6_blind_41 hl (k := 2) rfl (congrArg _ jci_1) (Nat.le_of_ble_eq_true rfl) rfl (fun ls hl => ?_)
          refine lv_goto (tgt := 9) hx hb dX6_blind_44 rfl ?_
          exact ih9 M_1 _ _ (v1_1 ||| 0) (v2_1 + 1) _ h hP hS (lv_sub hl [2, 1, 0] rfl)
        · replace h := jh_t h c29
          refine lv_iconst (v := 1) hx hb dX6_blind_32 jci_1 ?_
          refine lv_iload_n hx hb dX6_blind_33 rfl (lv_at hl 2 rfl) ?_
          refine lv_ishl hx hb dX6_blind_34 ?_
          refine lv_goto (tgt := 39) hx hb dX6_blind_35 rfl ?_
          refine lv_ior hx hb dX6_blind_39 ?_
          refine lv_istore_n (lv' := [(1, .int (v1_1 ||| ((1 : Int32) <<< (v2_1 &&& 31)))), (0, .ref (jO X 16)), (2, .int v2_1)]) hx hb dX6_blind_40 rfl hl (Nat.le_of_ble_eq_true rfl) rfl (fun ls hl => ?_)
          refine lv_iinc (v := (v2_1 + 1)) (lv' := [(2, .int (v2_1 + 1)), (1, .int (v1_1 ||| ((1 : Int32) <<< (v2_1 &&& 31)))), (0, .ref (jO X 16))]) hx hb dX6_blind_41 hl (k := 2) rfl (congrArg _ jci_1) (Nat.le_of_ble_eq_true rfl) rfl (fun ls hl => ?_)
          refine lv_goto (tgt := 9) hx hb dX6_blind_44 rfl ?_
          exact ih9 M_1 _ _ (v1_1 ||| ((1 : Int32) <<< (v2_1 &&& 31))) (v2_1 + 1) _ h hP hS (lv_sub hl [2, 1, 0] rfl)
  exact L9 10000 (ju M 16 11 0 0) _ _ 0 0 _ h hP hS (lv_sub hl [2, 1, 0] rfl)
def f_X6_moved_j31 (M_2 : jm) (v1_2 : Int32) (v2_2 : Int32) (v3_2 : Int32) (t0_2 : Int32) : Option (Int32 × jm) := (if 0 ≤ t0_2 then (jb (f_X6_think M_2) fun M_3 => (jb (f_X6_goEvenings M_3 v3_2) fun M_4 => (jb (f_X6_priceOf M_4 v1_2) fun r5 => (jb (f_X6_again M_4) fun M_6 => (jgd v1_2 6 (jb (f_X6_goEvenings (ju M_6 16 7 (Int32.toNatClampNeg v1_2) v2_2) v3_2) fun M_7 => (jb (f_X6_priceOf M_7 v1_2) fun r8 => (jb (f_X6_again M_7) fun M_9 => (some ((r8 - r5), M_9)))))))))) else (jb2 (f_X6_refuse M_2 t0_2) fun r10 M_10 => (some ((1000000000 - r10), M_10))))
def f_X6_moved_j30 (M_11 : jm) (v1_11 : Int32) (v2_11 : Int32) (v3_11 : Int32) : Option (Int32 × jm) := (f_X6_moved_j31 M_11 v1_11 v2_11 v3_11 (-1))
def f_X6_moved (M : jm) (v1 : Int32) (v2 : Int32) (v3 : Int32) : Option (Int32 × jm) := (if (f_X6_isWalker (ju M 16 11 0 0) v1) = 0 then (f_X6_moved_j30 (ju M 16 11 0 0) v1 v2 v3) else (if (f_X6_isCell v2) = 0 then (f_X6_moved_j30 (ju M 16 11 0 0) v1 v2 v3) else (f_X6_moved_j31 (ju M 16 11 0 0) v1 v2 v3 (f_X6_wrongNumber v3 0 60))))
set_option maxRecDepth 100000 in
theorem m_X6_moved (l : Launch) (X : jX) (A : Nat → Prop) (hs : jst X A) (M : jm) (v1 : Int32) (v2 : Int32) (v3 : Int32) (r : Int32) (N : jm) (h : f_X6_moved M v1 v2 v3 = some (r, N)) : Met l yX6_moved (jws yX6_moved cX6_moved 7 (some .int)) (jrm 6 136) (va_Pc [.ref (jO X 16), .int v1, .int v2, .int v3] (jB X M)) (jQm X A (some (.int r)) N) 0 0 A := by
  refine jm_of (by decide) (Nat.le_of_ble_eq_true rfl) ?_
  intro p e s m args below meth c ls S hr hlocks hB hl
  have S : CallFix p m c cX6_moved 7 s args jtb RX6 := S
  obtain ⟨hx, hb, hml, hown, hts⟩ := id S
  obtain ⟨hP, hK⟩ := hB
  have hN := hK.2
  have hS : va_S A s.heap s.heap [] := va_S.rf
  have hl : lv_has ls 7 [(0, .ref (jO X 16)), (1, .int v1), (2, .int v2), (3, .int v3)] := hl
  refine lv_aload_n hx hb dX6_moved_0 rfl (lv_at hl 0 rfl) ?_
  refine lv_iconst (v := 0) hx hb dX6_moved_1 jci_0 ?_
  refine jr_put (k := 11) (z := 0) hx hb hts hown hK hP hs hS jb_16 (Nat.le_of_ble_eq_true rfl) jlX6_79 rfl (Or.inl rfl) rfl rfl rfl dX6_moved_2 (fun H locs hP hS => ?_)
  refine lv_aload_n hx hb dX6_moved_5 rfl (lv_at hl 0 rfl) ?_
  refine lv_iload_n hx hb dX6_moved_6 rfl (lv_at hl 1 rfl) ?_
  refine jr_kp (jr_rv (As := [.int v1]) (rest := []) S hK hP jb_16 rfl (m_X6_isWalker l X (ju M 16 11 0 0) v1 _ rfl) jw_X6_isWalker ji_X6_isWalker jmX6_184 rfl rfl ⟨(Nat.le_of_ble_eq_true rfl), (Nat.le_of_ble_eq_true rfl)⟩ rfl hl.1 rfl (Nat.le_of_ble_eq_true rfl) dX6_moved_7 ⟨Nat.zero_le _, Nat.zero_le _⟩) ?_
  have J31 : ∀ (M_2 : jm) (H : Heap) (locs : List Loc) (v1_2 : Int32) (v2_2 : Int32) (v3_2 : Int32) (t0_2 : Int32) (ls : Array Slot), f_X6_moved_j31 M_2 v1_2 v2_2 v3_2 t0_2 = some (r, N) → jrp X M_2 H → va_S A s.heap H locs → lv_has ls 7 [(0, .ref (jO X 16)), (1, .int v1_2), (2, .int v2_2), (3, .int v3_2)] → W p l e (jrm 6 136) s m args below meth c H locs 0 0 (MQ below (jQm X A (some (.int r)) N) args s 0 0 A) (F0 m 31 ls [.int t0_2]) := by
    intro M_2 H locs v1_2 v2_2 v3_2 t0_2 ls h hP hS hl
    refine lv_istore (lv' := [(4, .int t0_2), (0, .ref (jO X 16)), (1, .int v1_2), (2, .int v2_2), (3, .int v3_2)]) hx hb dX6_moved_31 hl (Nat.le_of_ble_eq_true rfl) rfl (fun ls hl => ?_)
    refine lv_iload hx hb dX6_moved_33 (lv_at hl 0 rfl) ?_
    refine lv_if_ge (tgt := 49) hx hb dX6_moved_35 rfl (fun c35 => ?_) (fun c35 => ?_)
    · replace h := jh_t h c35
      refine lv_aload_n hx hb dX6_moved_49 rfl (lv_at hl 1 rfl) ?_
      obtain ⟨M_3, e3, h⟩ := jh_b h
      refine jr_kv (jr_rv (As := []) (rest := []) S hK hP jb_16 rfl (m_X6_think l X A hs M_2  M_3 e3) jw_X6_think ji_X6_think jmX6_196 rfl rfl ⟨(Nat.le_of_ble_eq_true rfl), (Nat.le_of_ble_eq_true rfl)⟩ rfl hl.1 rfl (Nat.le_of_ble_eq_true rfl) dX6_moved_50 ⟨Nat.zero_le _, Nat.zero_le _⟩) hS (fun H locs hP hS => ?_)
      refine lv_aload_n hx hb dX6_moved_53 rfl (lv_at hl 1 rfl) ?_
      refine lv_iload_n hx hb dX6_moved_54 rfl (lv_at hl 4 rfl) ?_
      obtain ⟨M_4, e4, h⟩ := jh_b h
      refine jr_kv (jr_rv (As := [.int v3_2]) (rest := []) S hK hP jb_16 rfl (m_X6_goEvenings l X A hs M_3 v3_2 M_4 e4) jw_X6_goEvenings ji_X6_goEvenings jmX6_189 rfl rfl ⟨(Nat.le_of_ble_eq_true rfl), (Nat.le_of_ble_eq_true rfl)⟩ rfl hl.1 rfl (Nat.le_of_ble_eq_true rfl) dX6_moved_55 ⟨Nat.zero_le _, Nat.zero_le _⟩) hS (fun H locs hP hS => ?_)
      refine lv_aload_n hx hb dX6_moved_58 rfl (lv_at hl 1 rfl) ?_
      refine lv_iload_n hx hb dX6_moved_59 rfl (lv_at hl 2 rfl) ?_
      obtain ⟨r5, e5, h⟩ := jh_b h
      refine jr_kp (jr_rv (As := [.int v1_2]) (rest := []) S hK hP jb_16 rfl (m_X6_priceOf l X M_4 v1_2 r5 e5) jw_X6_priceOf ji_X6_priceOf jmX6_113 rfl rfl ⟨(Nat.le_of_ble_eq_true rfl), (Nat.le_of_ble_eq_true rfl)⟩ rfl hl.1 rfl (Nat.le_of_ble_eq_true rfl) dX6_moved_60 ⟨Nat.zero_le _, Nat.zero_le _⟩) ?_
      refine lv_istore (lv' := [(5, .int r5), (4, .int t0_2), (0, .ref (jO X 16)), (1, .int v1_2), (2, .int v2_2), (3, .int v3_2)]) hx hb dX6_moved_63 hl (Nat.le_of_ble_eq_true rfl) rfl (fun ls hl => ?_)
      refine lv_aload_n hx hb dX6_moved_65 rfl (lv_at hl 2 rfl) ?_
      obtain ⟨M_6, e6, h⟩ := jh_b h
      refine jr_kv (jr_rv (As := []) (rest := []) S hK hP jb_16 rfl (m_X6_again l X A hs M_4  M_6 e6) jw_X6_again ji_X6_again jmX6_202 rfl rfl ⟨(Nat.le_of_ble_eq_true rfl), (Nat.le_of_ble_eq_true rfl)⟩ rfl hl.1 rfl (Nat.le_of_ble_eq_true rfl) dX6_moved_66 ⟨Nat.zero_le _, Nat.zero_le _⟩) hS (fun H locs hP hS => ?_)
      refine lv_aload_n hx hb dX6_moved_69 rfl (lv_at hl 2 rfl) ?_
      refine jr_get (k := 7) hx hb hts hown hK hP jb_16 (Nat.le_of_ble_eq_true rfl) jlX6_25 rfl dX6_moved_70 ?_
      refine lv_iload_n hx hb dX6_moved_73 rfl (lv_at hl 3 rfl) ?_
      refine lv_iload_n hx hb dX6_moved_74 rfl (lv_at hl 4 rfl) ?_
      obtain ⟨g75, h⟩ := jh_gd h
      refine jr_ast (n := 6) hx hb hK hP hs hS jb_16 rfl g75 dX6_moved_75 (fun H locs hP hS => ?_)
      refine lv_aload_n hx hb dX6_moved_76 rfl (lv_at hl 2 rfl) ?_
      refine lv_iload_n hx hb dX6_moved_77 rfl (lv_at hl 5 rfl) ?_
      obtain ⟨M_7, e7, h⟩ := jh_b h
      refine jr_kv (jr_rv (As := [.int v3_2]) (rest := []) S hK hP jb_16 rfl (m_X6_goEvenings l X A hs (ju M_6 16 7 (Int32.toNatClampNeg v1_2) v2_2) v3_2 M_7 e7) jw_X6_goEvenings ji_X6_goEvenings jmX6_189 rfl rfl ⟨(Nat.le_of_ble_eq_true rfl), (Nat.le_of_ble_eq_true rfl)⟩ rfl hl.1 rfl (Nat.le_of_ble_eq_true rfl) dX6_moved_78 ⟨Nat.zero_le _, Nat.zero_le _⟩) hS (fun H locs hP hS => ?_)
      refine lv_aload_n hx hb dX6_moved_81 rfl (lv_at hl 2 rfl) ?_
      refine lv_iload_n hx hb dX6_moved_82 rfl (lv_at hl 3 rfl) ?_
      obtain ⟨r8, e8, h⟩ := jh_b h
      refine jr_kp (jr_rv (As := [.int v1_2]) (rest := []) S hK hP jb_16 rfl (m_X6_priceOf l X M_7 v1_2 r8 e8) jw_X6_priceOf ji_X6_priceOf jmX6_113 rfl rfl ⟨(Nat.le_of_ble_eq_true rfl), (Nat.le_of_ble_eq_true rfl)⟩ rfl hl.1 rfl (Nat.le_of_ble_eq_true rfl) dX6_moved_83 ⟨Nat.zero_le _, Nat.zero_le _⟩) ?_
      refine lv_istore (lv' := [(6, .int r8), (5, .int r5), (4, .int t0_2), (0, .ref (jO X 16)), (1, .int v1_2), (2, .int v2_2), (3, .int v3_2)]) hx hb dX6_moved_86 hl (Nat.le_of_ble_eq_true rfl) rfl (fun ls hl => ?_)
      refine lv_aload_n hx hb dX6_moved_88 rfl (lv_at hl 3 rfl) ?_
      obtain ⟨M_9, e9, h⟩ := jh_b h
      refine jr_kv (jr_rv (As := []) (rest := []) S hK hP jb_16 rfl (m_X6_again l X A hs M_7  M_9 e9) jw_X6_again ji_X6_again jmX6_202 rfl rfl ⟨(Nat.le_of_ble_eq_true rfl), (Nat.le_of_ble_eq_true rfl)⟩ rfl hl.1 rfl (Nat.le_of_ble_eq_true rfl) dX6_moved_89 ⟨Nat.zero_le _, Nat.zero_le _⟩) hS (fun H locs hP hS => ?_)
      refine lv_iload hx hb dX6_moved_92 (lv_at hl 0 rfl) ?_
      refine lv_iload hx hb dX6_moved_94 (lv_at hl 1 rfl) ?_
      refine lv_isub hx hb dX6_moved_96 ?_
      exact je_mi hx hb hr hlocks hK hP hS h dX6_moved_97
    · replace h := jh_f h c35
      refine lv_ldcw hx hb hown (hts _ jkX6_271) dX6_moved_38 ?_
      refine lv_aload_n hx hb dX6_moved_41 rfl (lv_at hl 1 rfl) ?_
      refine lv_iload hx hb dX6_moved_42 (lv_at hl 0 rfl) ?_
      obtain ⟨r10, M_10, e10, h⟩ := jh_b2 h
      refine jr_km (jr_rv (As := [.int t0_2]) (rest := [.int 1000000000]) S hK hP jb_16 rfl (m_X6_refuse l X A hs M_2 t0_2 r10 M_10 e10) jw_X6_refuse ji_X6_refuse jmX6_143 rfl rfl ⟨(Nat.le_of_ble_eq_true rfl), (Nat.le_of_ble_eq_true rfl)⟩ rfl hl.1 rfl (Nat.le_of_ble_eq_true rfl) dX6_moved_44 ⟨Nat.zero_le _, Nat.zero_le _⟩) hS (fun H locs hP hS => ?_)
      refine lv_isub hx hb dX6_moved_47 ?_
      exact je_mi hx hb hr hlocks hK hP hS h dX6_moved_48
  have J30 : ∀ (M_11 : jm) (H : Heap) (locs : List Loc) (v1_11 : Int32) (v2_11 : Int32) (v3_11 : Int32) (ls : Array Slot), f_X6_moved_j30 M_11 v1_11 v2_11 v3_11 = some (r, N) → jrp X M_11 H → va_S A s.heap H locs → lv_has ls 7 [(0, .ref (jO X 16)), (1, .int v1_11), (2, .int v2_11), (3, .int v3_11)] → W p l e (jrm 6 136) s m args below meth c H locs 0 0 (MQ below (jQm X A (some (.int r)) N) args s 0 0 A) (F0 m 30 ls []) := by
    intro M_11 H locs v1_11 v2_11 v3_11 ls h hP hS hl
    refine lv_iconst (v := (-1)) hx hb dX6_moved_30 jci_m1 ?_
    exact J31 M_11 _ _ v1_11 v2_11 v3_11 (-1) _ h hP hS hl
  refine lv_if_eq (tgt := 30) hx hb dX6_moved_10 rfl (fun c10 => ?_) (fun c10 => ?_)
  · replace h := jh_t h c10
    exact J30 (ju M 16 11 0 0) _ _ v1 v2 v3 _ h hP hS hl
  · replace h := jh_f h c10
    refine lv_iload_n hx hb dX6_moved_13 rfl (lv_at hl 2 rfl) ?_
    refine jr_kp (jr_rs (As := [.int v2]) (rest := []) S hN (m_X6_isCell l v2 _ rfl) jw_X6_isCell js_X6_isCell jmX6_139 rfl rfl ⟨(Nat.le_of_ble_eq_true rfl), (Nat.le_of_ble_eq_true rfl)⟩ rfl hl.1 rfl (Nat.le_of_ble_eq_true rfl) dX6_moved_14 ⟨Nat.zero_le _, Nat.zero_le _⟩) ?_
    refine lv_if_eq (tgt := 30) hx hb dX6_moved_17 rfl (fun c17 => ?_) (fun c17 => ?_)
    · replace h := jh_t h c17
      exact J30 (ju M 16 11 0 0) _ _ v1 v2 v3 _ h hP hS hl
    · replace h := jh_f h c17
      refine lv_iload_n hx hb dX6_moved_20 rfl (lv_at hl 3 rfl) ?_
      refine lv_iconst (v := 0) hx hb dX6_moved_21 jci_0 ?_
      refine lv_bipush (v := 60) hx hb dX6_moved_22 jcb_60 ?_
      refine jr_kp (jr_rs (As := [.int v3, .int 0, .int 60]) (rest := []) S hN (m_X6_wrongNumber l v3 0 60 _ rfl) jw_X6_wrongNumber js_X6_wrongNumber jmX6_240 rfl rfl ⟨(Nat.le_of_ble_eq_true rfl), (Nat.le_of_ble_eq_true rfl)⟩ rfl hl.1 rfl (Nat.le_of_ble_eq_true rfl) dX6_moved_24 ⟨Nat.zero_le _, Nat.zero_le _⟩) ?_
      refine lv_goto (tgt := 31) hx hb dX6_moved_27 rfl ?_
      exact J31 (ju M 16 11 0 0) _ _ v1 v2 v3 (f_X6_wrongNumber v3 0 60) _ h hP hS hl
def f_X6_street_l38 (K27_3 : jm → Int32 → Int32 → Option (Int32 × jm)) (v1_2 : Int32) (v3_3 : Int32) : Nat → jm → Int32 → Int32 → Option (Int32 × jm)
  | 0, _, _, _ => none
  | k_3 + 1, M_3, v2_3, v4_3 => (if (M_3 16 0 0) ≤ v4_3 then (K27_3 M_3 v2_3 (v3_3 + 1)) else (jgd ((7 * v3_3) + v4_3) 42 (if (M_3 16 9 (Int32.toNatClampNeg ((7 * v3_3) + v4_3))) ≤ 0 then ((f_X6_street_l38 K27_3 v1_2 v3_3 k_3) M_3 (v2_3 + 0) (v4_3 + 1)) else (jgd v4_3 8 (if ((M_3 16 3 (Int32.toNatClampNeg v4_3)) / 7) = v1_2 then (jb (f_X6_minutesOf M_3 v4_3 ((M_3 16 9 (Int32.toNatClampNeg ((7 * v3_3) + v4_3))) - 1)) fun r4 => ((f_X6_street_l38 K27_3 v1_2 v3_3 k_3) M_3 (v2_3 + r4) (v4_3 + 1))) else ((f_X6_street_l38 K27_3 v1_2 v3_3 k_3) M_3 (v2_3 + 0) (v4_3 + 1)))))))
def f_X6_street_l27 (v1_2 : Int32) : Nat → jm → Int32 → Int32 → Option (Int32 × jm)
  | 0, _, _, _ => none
  | k_2 + 1, M_2, v2_2, v3_2 => (if (M_2 16 5 0) ≤ v3_2 then (some (v2_2, M_2)) else (f_X6_street_l38 (f_X6_street_l27 v1_2 k_2) v1_2 v3_2 10000 M_2 v2_2 0))
def f_X6_street (M : jm) (v1 : Int32) : Option (Int32 × jm) := (if (f_X6_in (Int32.toInt64 v1) 0 6) = 0 then (jb2 (f_X6_refuse (ju M 16 11 0 0) (-1)) fun r5 M_5 => (some (r5, M_5))) else (f_X6_street_l27 v1 10000 (ju M 16 11 0 0) 0 0))
set_option maxRecDepth 100000 in
theorem m_X6_street (l : Launch) (X : jX) (A : Nat → Prop) (hs : jst X A) (M : jm) (v1 : Int32) (r : Int32) (N : jm) (h : f_X6_street M v1 = some (r, N)) : Met l yX6_street (jws yX6_street cX6_street 6 (some .int)) (jrm 1 25) (va_Pc [.ref (jO X 16), .int v1] (jB X M)) (jQm X A (some (.int r)) N) 0 0 A := by
  refine jm_of (by decide) (Nat.le_of_ble_eq_true rfl) ?_
  intro p e s m args below meth c ls S hr hlocks hB hl
  have S : CallFix p m c cX6_street 6 s args jtb RX6 := S
  obtain ⟨hx, hb, hml, hown, hts⟩ := id S
  obtain ⟨hP, hK⟩ := hB
  have hN := hK.2
  have hS : va_S A s.heap s.heap [] := va_S.rf
  have hl : lv_has ls 6 [(0, .ref (jO X 16)), (1, .int v1)] := hl
  refine lv_aload_n hx hb dX6_street_0 rfl (lv_at hl 0 rfl) ?_
  refine lv_iconst (v := 0) hx hb dX6_street_1 jci_0 ?_
  refine jr_put (k := 11) (z := 0) hx hb hts hown hK hP hs hS jb_16 (Nat.le_of_ble_eq_true rfl) jlX6_79 rfl (Or.inl rfl) rfl rfl rfl dX6_street_2 (fun H locs hP hS => ?_)
  refine lv_iload_n hx hb dX6_street_5 rfl (lv_at hl 1 rfl) ?_
  refine lv_i2l hx hb dX6_street_6 rfl ?_
  refine lv_lconst (v := 0) hx hb dX6_street_7 rfl ?_
  refine lv_ldc2 hx hb hown (hts _ jkX6_303) dX6_street_8 ?_
  refine jr_kp (jr_rs (As := [.long (Int32.toInt64 v1), .long 0, .long 6]) (rest := []) S hN (m_X6_in l (Int32.toInt64 v1) 0 6 _ rfl) jw_X6_in js_X6_in jmX6_85 rfl rfl ⟨(Nat.le_of_ble_eq_true rfl), (Nat.le_of_ble_eq_true rfl)⟩ rfl hl.1 rfl (Nat.le_of_ble_eq_true rfl) dX6_street_11 ⟨Nat.zero_le _, Nat.zero_le _⟩) ?_
  refine lv_if_ne (tgt := 23) hx hb dX6_street_14 rfl (fun c14 => ?_) (fun c14 => ?_)
  · replace h := jh_f h c14
    refine lv_iconst (v := 0) hx hb dX6_street_23 jci_0 ?_
    refine lv_istore_n (lv' := [(2, .int 0), (0, .ref (jO X 16)), (1, .int v1)]) hx hb dX6_street_24 rfl hl (Nat.le_of_ble_eq_true rfl) rfl (fun ls hl => ?_)
    refine lv_iconst (v := 0) hx hb dX6_street_25 jci_0 ?_
    refine lv_istore_n (lv' := [(3, .int 0), (2, .int 0), (0, .ref (jO X 16)), (1, .int v1)]) hx hb dX6_street_26 rfl hl (Nat.le_of_ble_eq_true rfl) rfl (fun ls hl => ?_)
    have L27 : ∀ (v1_2 : Int32) (k_2 : Nat) (M_2 : jm) (H : Heap) (locs : List Loc) (v2_2 : Int32) (v3_2 : Int32) (ls : Array Slot), f_X6_street_l27 v1_2 k_2 M_2 v2_2 v3_2 = some (r, N) → jrp X M_2 H → va_S A s.heap H locs → lv_has ls 6 [(0, .ref (jO X 16)), (1, .int v1_2), (2, .int v2_2), (3, .int v3_2)] → W p l e (jrm 1 25) s m args below meth c H locs 0 0 (MQ below (jQm X A (some (.int r)) N) args s 0 0 A) (F0 m 27 ls []) := by
      intro v1_2 k_2
      induction k_2 with
      | zero => intro M_2 H locs v2_2 v3_2 ls h; exact jh_0 h
      | succ k_2 ih27 =>
        intro M_2 H locs v2_2 v3_2 ls h hP hS hl
        refine lv_iload_n hx hb dX6_street_27 rfl (lv_at hl 3 rfl) ?_
        refine lv_aload_n hx hb dX6_street_28 rfl (lv_at hl 0 rfl) ?_
        refine jr_get (k := 5) hx hb hts hown hK hP jb_16 (Nat.le_of_ble_eq_true rfl) jlX6_92 rfl dX6_street_29 ?_
        refine lv_icmp_ge (tgt := 109) hx hb dX6_street_32 rfl (fun c32 => ?_) (fun c32 => ?_)
        · replace h := jh_t h c32
          refine lv_iload_n hx hb dX6_street_109 rfl (lv_at hl 2 rfl) ?_
          exact je_mi hx hb hr hlocks hK hP hS h dX6_street_110
        · replace h := jh_f h c32
          refine lv_iconst (v := 0) hx hb dX6_street_35 jci_0 ?_
          refine lv_istore (lv' := [(4, .int 0), (0, .ref (jO X 16)), (1, .int v1_2), (2, .int v2_2), (3, .int v3_2)]) hx hb dX6_street_36 hl (Nat.le_of_ble_eq_true rfl) rfl (fun ls hl => ?_)
          have L38 : ∀ (v3_3 : Int32) (k_3 : Nat) (M_3 : jm) (H : Heap) (locs : List Loc) (v2_3 : Int32) (v4_3 : Int32) (ls : Array Slot), f_X6_street_l38 (f_X6_street_l27 v1_2 k_2) v1_2 v3_3 k_3 M_3 v2_3 v4_3 = some (r, N) → jrp X M_3 H → va_S A s.heap H locs → lv_has ls 6 [(0, .ref (jO X 16)), (1, .int v1_2), (2, .int v2_3), (3, .int v3_3), (4, .int v4_3)] → W p l e (jrm 1 25) s m args below meth c H locs 0 0 (MQ below (jQm X A (some (.int r)) N) args s 0 0 A) (F0 m 38 ls []) := by
            intro v3_3 k_3
            induction k_3 with
            | zero => intro M_3 H locs v2_3 v4_3 ls h; exact jh_0 h
            | succ k_3 ih38 =>
              intro M_3 H locs v2_3 v4_3 ls h hP hS hl
              refine lv_iload hx hb dX6_street_38 (lv_at hl 4 rfl) ?_
              refine lv_aload_n hx hb dX6_street_40 rfl (lv_at hl 0 rfl) ?_
              refine jr_get (k := 0) hx hb hts hown hK hP jb_16 (Nat.le_of_ble_eq_true rfl) jlX6_89 rfl dX6_street_41 ?_
              refine lv_icmp_ge (tgt := 103) hx hb dX6_street_44 rfl (fun c44 => ?_) (fun c44 => ?_)
              · replace h := jh_t h c44
                refine lv_iinc (v := (v3_3 + 1)) (lv' := [(3, .int (v3_3 + 1)), (0, .ref (jO X 16)), (1, .int v1_2), (2, .int v2_3), (4, .int v4_3)]) hx hb dX6_street_103 hl (k := 3) rfl (congrArg _ jci_1) (Nat.le_of_ble_eq_true rfl) rfl (fun ls hl => ?_)
                refine lv_goto (tgt := 27) hx hb dX6_street_106 rfl ?_
                exact ih27 M_3 _ _ v2_3 (v3_3 + 1) _ h hP hS (lv_sub hl [1, 2, 3, 0] rfl)
              · replace h := jh_f h c44
                refine lv_aload_n hx hb dX6_street_47 rfl (lv_at hl 0 rfl) ?_
                refine jr_get (k := 9) hx hb hts hown hK hP jb_16 (Nat.le_of_ble_eq_true rfl) jlX6_31 rfl dX6_street_48 ?_
                refine lv_bipush (v := 7) hx hb dX6_street_51 jcb_7 ?_
                refine lv_iload_n hx hb dX6_street_53 rfl (lv_at hl 3 rfl) ?_
                refine lv_imul hx hb dX6_street_54 ?_
                refine lv_iload hx hb dX6_street_55 (lv_at hl 4 rfl) ?_
                refine lv_iadd hx hb dX6_street_57 ?_
                obtain ⟨g58, h⟩ := jh_gd h
                refine jr_ald (n := 42) hx hb hK hP jb_16 rfl g58 dX6_street_58 ?_
                refine lv_istore (lv' := [(5, .int (M_3 16 9 (Int32.toNatClampNeg ((7 * v3_3) + v4_3)))), (0, .ref (jO X 16)), (1, .int v1_2), (2, .int v2_3), (3, .int v3_3), (4, .int v4_3)]) hx hb dX6_street_59 hl (Nat.le_of_ble_eq_true rfl) rfl (fun ls hl => ?_)
                refine lv_iload_n hx hb dX6_street_61 rfl (lv_at hl 3 rfl) ?_
                refine lv_iload hx hb dX6_street_62 (lv_at hl 0 rfl) ?_
                refine lv_if_le (tgt := 94) hx hb dX6_street_64 rfl (fun c64 => ?_) (fun c64 => ?_)
                · replace h := jh_t h c64
                  refine lv_iconst (v := 0) hx hb dX6_street_94 jci_0 ?_
                  refine lv_iadd hx hb dX6_street_95 ?_
                  refine lv_istore_n (lv' := [(2, .int (v2_3 + 0)), (5, .int (M_3 16 9 (Int32.toNatClampNeg ((7 * v3_3) + v4_3)))), (0, .ref (jO X 16)), (1, .int v1_2), (3, .int v3_3), (4, .int v4_3)]) hx hb dX6_street_96 rfl hl (Nat.le_of_ble_eq_true rfl) rfl (fun ls hl => ?_)
                  refine lv_iinc (v := (v4_3 + 1)) (lv' := [(4, .int (v4_3 + 1)), (2, .int (v2_3 + 0)), (5, .int (M_3 16 9 (Int32.toNatClampNeg ((7 * v3_3) + v4_3)))), (0, .ref (jO X 16)), (1, .int v1_2), (3, .int v3_3)]) hx hb dX6_street_97 hl (k := 5) rfl (congrArg _ jci_1) (Nat.le_of_ble_eq_true rfl) rfl (fun ls hl => ?_)
                  refine lv_goto (tgt := 38) hx hb dX6_street_100 rfl ?_
                  exact ih38 M_3 _ _ (v2_3 + 0) (v4_3 + 1) _ h hP hS (lv_sub hl [3, 4, 1, 5, 0] rfl)
                · replace h := jh_f h c64
                  refine lv_aload_n hx hb dX6_street_67 rfl (lv_at hl 1 rfl) ?_
                  refine jr_get (k := 3) hx hb hts hown hK hP jb_16 (Nat.le_of_ble_eq_true rfl) jlX6_16 rfl dX6_street_68 ?_
                  refine lv_iload hx hb dX6_street_71 (lv_at hl 5 rfl) ?_
                  obtain ⟨g73, h⟩ := jh_gd h
                  refine jr_ald (n := 8) hx hb hK hP jb_16 rfl g73 dX6_street_73 ?_
                  refine lv_bipush (v := 7) hx hb dX6_street_74 jcb_7 ?_
                  refine lv_idiv hx hb dX6_street_76 (by decide) ?_
                  refine lv_iload_n hx hb dX6_street_77 rfl (lv_at hl 2 rfl) ?_
                  refine lv_icmp_ne (tgt := 94) hx hb dX6_street_78 rfl (fun c78 => ?_) (fun c78 => ?_)
                  · replace h := jh_f h c78
                    refine lv_iconst (v := 0) hx hb dX6_street_94 jci_0 ?_
                    refine lv_iadd hx hb dX6_street_95 ?_
                    refine lv_istore_n (lv' := [(2, .int (v2_3 + 0)), (5, .int (M_3 16 9 (Int32.toNatClampNeg ((7 * v3_3) + v4_3)))), (0, .ref (jO X 16)), (1, .int v1_2), (3, .int v3_3), (4, .int v4_3)]) hx hb dX6_street_96 rfl hl (Nat.le_of_ble_eq_true rfl) rfl (fun ls hl => ?_)
                    refine lv_iinc (v := (v4_3 + 1)) (lv' := [(4, .int (v4_3 + 1)), (2, .int (v2_3 + 0)), (5, .int (M_3 16 9 (Int32.toNatClampNeg ((7 * v3_3) + v4_3)))), (0, .ref (jO X 16)), (1, .int v1_2), (3, .int v3_3)]) hx hb dX6_street_97 hl (k := 5) rfl (congrArg _ jci_1) (Nat.le_of_ble_eq_true rfl) rfl (fun ls hl => ?_)
                    refine lv_goto (tgt := 38) hx hb dX6_street_100 rfl ?_
                    exact ih38 M_3 _ _ (v2_3 + 0) (v4_3 + 1) _ h hP hS (lv_sub hl [3, 4, 1, 5, 0] rfl)
                  · replace h := jh_t h c78
                    refine lv_aload_n hx hb dX6_street_81 rfl (lv_at hl 1 rfl) ?_
                    refine lv_iload hx hb dX6_street_82 (lv_at hl 5 rfl) ?_
                    refine lv_iload hx hb dX6_street_84 (lv_at hl 0 rfl) ?_
                    refine lv_iconst (v := 1) hx hb dX6_street_86 jci_1 ?_
                    refine lv_isub hx hb dX6_street_87 ?_
                    obtain ⟨r4, e4, h⟩ := jh_b h
                    refine jr_kp (jr_rv (As := [.int v4_3, .int ((M_3 16 9 (Int32.toNatClampNeg ((7 * v3_3) + v4_3))) - 1)]) (rest := [.int v2_3]) S hK hP jb_16 rfl (m_X6_minutesOf l X M_3 v4_3 ((M_3 16 9 (Int32.toNatClampNeg ((7 * v3_3) + v4_3))) - 1) r4 e4) jw_X6_minutesOf ji_X6_minutesOf jmX6_110 rfl rfl ⟨(Nat.le_of_ble_eq_true rfl), (Nat.le_of_ble_eq_true rfl)⟩ rfl hl.1 rfl (Nat.le_of_ble_eq_true rfl) dX6_street_88 ⟨Nat.zero_le _, Nat.zero_le _⟩) ?_
                    refine lv_goto (tgt := 95) hx hb dX6_street_91 rfl ?_
                    refine lv_iadd hx hb dX6_street_95 ?_
                    refine lv_istore_n (lv' := [(2, .int (v2_3 + r4)), (5, .int (M_3 16 9 (Int32.toNatClampNeg ((7 * v3_3) + v4_3)))), (0, .ref (jO X 16)), (1, .int v1_2), (3, .int v3_3), (4, .int v4_3)]) hx hb dX6_street_96 rfl hl (Nat.le_of_ble_eq_true rfl) rfl (fun ls hl => ?_)
                    refine lv_iinc (v := (v4_3 + 1)) (lv' := [(4, .int (v4_3 + 1)), (2, .int (v2_3 + r4)), (5, .int (M_3 16 9 (Int32.toNatClampNeg ((7 * v3_3) + v4_3)))), (0, .ref (jO X 16)), (1, .int v1_2), (3, .int v3_3)]) hx hb dX6_street_97 hl (k := 5) rfl (congrArg _ jci_1) (Nat.le_of_ble_eq_true rfl) rfl (fun ls hl => ?_)
                    refine lv_goto (tgt := 38) hx hb dX6_street_100 rfl ?_
                    exact ih38 M_3 _ _ (v2_3 + r4) (v4_3 + 1) _ h hP hS (lv_sub hl [3, 4, 1, 5, 0] rfl)
          exact L38 v3_2 10000 M_2 _ _ v2_2 0 _ h hP hS (lv_sub hl [1, 2, 3, 4, 0] rfl)
    exact L27 v1 10000 (ju M 16 11 0 0) _ _ 0 0 _ h hP hS (lv_sub hl [2, 3, 1, 0] rfl)
  · replace h := jh_t h c14
    refine lv_aload_n hx hb dX6_street_17 rfl (lv_at hl 0 rfl) ?_
    refine lv_iconst (v := (-1)) hx hb dX6_street_18 jci_m1 ?_
    obtain ⟨r5, M_5, e5, h⟩ := jh_b2 h
    refine jr_km (jr_rv (As := [.int (-1)]) (rest := []) S hK hP jb_16 rfl (m_X6_refuse l X A hs (ju M 16 11 0 0) (-1) r5 M_5 e5) jw_X6_refuse ji_X6_refuse jmX6_143 rfl rfl ⟨(Nat.le_of_ble_eq_true rfl), (Nat.le_of_ble_eq_true rfl)⟩ rfl hl.1 rfl (Nat.le_of_ble_eq_true rfl) dX6_street_19 ⟨Nat.zero_le _, Nat.zero_le _⟩) hS (fun H locs hP hS => ?_)
    exact je_mi hx hb hr hlocks hK hP hS h dX6_street_22
def f_X6_row (M : jm) (v1 : Int32) : Option (Int32 × jm) := (if 0 ≤ v1 then (if 99 < v1 then (jb2 (f_X6_refuse (ju M 16 11 0 0) (-6)) fun r1 M_1 => (some (r1, M_1))) else (if ((ju M 16 11 0 0) 16 36 0) = 12 then (jb2 (f_X6_refuse (ju M 16 11 0 0) (-6)) fun r2 M_2 => (some (r2, M_2))) else (jgd ((ju M 16 11 0 0) 16 36 0) 12 (some (((ju (ju (ju M 16 11 0 0) 16 35 (Int32.toNatClampNeg ((ju M 16 11 0 0) 16 36 0)) v1) 16 36 0 (((ju (ju M 16 11 0 0) 16 35 (Int32.toNatClampNeg ((ju M 16 11 0 0) 16 36 0)) v1) 16 36 0) + 1)) 16 36 0), (ju (ju (ju M 16 11 0 0) 16 35 (Int32.toNatClampNeg ((ju M 16 11 0 0) 16 36 0)) v1) 16 36 0 (((ju (ju M 16 11 0 0) 16 35 (Int32.toNatClampNeg ((ju M 16 11 0 0) 16 36 0)) v1) 16 36 0) + 1))))))) else (jb2 (f_X6_refuse (ju M 16 11 0 0) (-4)) fun r3 M_3 => (some (r3, M_3))))
set_option maxRecDepth 100000 in
theorem m_X6_row (l : Launch) (X : jX) (A : Nat → Prop) (hs : jst X A) (M : jm) (v1 : Int32) (r : Int32) (N : jm) (h : f_X6_row M v1 = some (r, N)) : Met l yX6_row (jws yX6_row cX6_row 2 (some .int)) (jrm 1 21) (va_Pc [.ref (jO X 16), .int v1] (jB X M)) (jQm X A (some (.int r)) N) 0 0 A := by
  refine jm_of (by decide) (Nat.le_of_ble_eq_true rfl) ?_
  intro p e s m args below meth c ls S hr hlocks hB hl
  have S : CallFix p m c cX6_row 2 s args jtb RX6 := S
  obtain ⟨hx, hb, hml, hown, hts⟩ := id S
  obtain ⟨hP, hK⟩ := hB
  have hN := hK.2
  have hS : va_S A s.heap s.heap [] := va_S.rf
  have hl : lv_has ls 2 [(0, .ref (jO X 16)), (1, .int v1)] := hl
  refine lv_aload_n hx hb dX6_row_0 rfl (lv_at hl 0 rfl) ?_
  refine lv_iconst (v := 0) hx hb dX6_row_1 jci_0 ?_
  refine jr_put (k := 11) (z := 0) hx hb hts hown hK hP hs hS jb_16 (Nat.le_of_ble_eq_true rfl) jlX6_79 rfl (Or.inl rfl) rfl rfl rfl dX6_row_2 (fun H locs hP hS => ?_)
  refine lv_iload_n hx hb dX6_row_5 rfl (lv_at hl 1 rfl) ?_
  refine lv_if_ge (tgt := 16) hx hb dX6_row_6 rfl (fun c6 => ?_) (fun c6 => ?_)
  · replace h := jh_t h c6
    refine lv_iload_n hx hb dX6_row_16 rfl (lv_at hl 1 rfl) ?_
    refine lv_bipush (v := 99) hx hb dX6_row_17 jcb_99 ?_
    refine lv_icmp_gt (tgt := 31) hx hb dX6_row_19 rfl (fun c19 => ?_) (fun c19 => ?_)
    · replace h := jh_t h c19
      refine lv_aload_n hx hb dX6_row_31 rfl (lv_at hl 0 rfl) ?_
      refine lv_bipush (v := (-6)) hx hb dX6_row_32 jcb_m6 ?_
      obtain ⟨r1, M_1, e1, h⟩ := jh_b2 h
      refine jr_km (jr_rv (As := [.int (-6)]) (rest := []) S hK hP jb_16 rfl (m_X6_refuse l X A hs (ju M 16 11 0 0) (-6) r1 M_1 e1) jw_X6_refuse ji_X6_refuse jmX6_143 rfl rfl ⟨(Nat.le_of_ble_eq_true rfl), (Nat.le_of_ble_eq_true rfl)⟩ rfl hl.1 rfl (Nat.le_of_ble_eq_true rfl) dX6_row_34 ⟨Nat.zero_le _, Nat.zero_le _⟩) hS (fun H locs hP hS => ?_)
      exact je_mi hx hb hr hlocks hK hP hS h dX6_row_37
    · replace h := jh_f h c19
      refine lv_aload_n hx hb dX6_row_22 rfl (lv_at hl 0 rfl) ?_
      refine jr_get (k := 36) hx hb hts hown hK hP jb_16 (Nat.le_of_ble_eq_true rfl) jlX6_275 rfl dX6_row_23 ?_
      refine lv_bipush (v := 12) hx hb dX6_row_26 jcb_12 ?_
      refine lv_icmp_ne (tgt := 38) hx hb dX6_row_28 rfl (fun c28 => ?_) (fun c28 => ?_)
      · replace h := jh_f h c28
        refine lv_aload_n hx hb dX6_row_38 rfl (lv_at hl 0 rfl) ?_
        refine jr_get (k := 35) hx hb hts hown hK hP jb_16 (Nat.le_of_ble_eq_true rfl) jlX6_73 rfl dX6_row_39 ?_
        refine lv_aload_n hx hb dX6_row_42 rfl (lv_at hl 0 rfl) ?_
        refine jr_get (k := 36) hx hb hts hown hK hP jb_16 (Nat.le_of_ble_eq_true rfl) jlX6_275 rfl dX6_row_43 ?_
        refine lv_iload_n hx hb dX6_row_46 rfl (lv_at hl 1 rfl) ?_
        obtain ⟨g47, h⟩ := jh_gd h
        refine jr_ast (n := 12) hx hb hK hP hs hS jb_16 rfl g47 dX6_row_47 (fun H locs hP hS => ?_)
        refine lv_aload_n hx hb dX6_row_48 rfl (lv_at hl 0 rfl) ?_
        refine lv_dup hx hb dX6_row_49 rfl ?_
        refine jr_get (k := 36) hx hb hts hown hK hP jb_16 (Nat.le_of_ble_eq_true rfl) jlX6_275 rfl dX6_row_50 ?_
        refine lv_iconst (v := 1) hx hb dX6_row_53 jci_1 ?_
        refine lv_iadd hx hb dX6_row_54 ?_
        refine jr_put (k := 36) (z := (((ju (ju M 16 11 0 0) 16 35 (Int32.toNatClampNeg ((ju M 16 11 0 0) 16 36 0)) v1) 16 36 0) + 1)) hx hb hts hown hK hP hs hS jb_16 (Nat.le_of_ble_eq_true rfl) jlX6_275 rfl (Or.inl rfl) rfl rfl rfl dX6_row_55 (fun H locs hP hS => ?_)
        refine lv_aload_n hx hb dX6_row_58 rfl (lv_at hl 0 rfl) ?_
        refine jr_get (k := 36) hx hb hts hown hK hP jb_16 (Nat.le_of_ble_eq_true rfl) jlX6_275 rfl dX6_row_59 ?_
        exact je_mi hx hb hr hlocks hK hP hS h dX6_row_62
      · replace h := jh_t h c28
        refine lv_aload_n hx hb dX6_row_31 rfl (lv_at hl 0 rfl) ?_
        refine lv_bipush (v := (-6)) hx hb dX6_row_32 jcb_m6 ?_
        obtain ⟨r2, M_2, e2, h⟩ := jh_b2 h
        refine jr_km (jr_rv (As := [.int (-6)]) (rest := []) S hK hP jb_16 rfl (m_X6_refuse l X A hs (ju M 16 11 0 0) (-6) r2 M_2 e2) jw_X6_refuse ji_X6_refuse jmX6_143 rfl rfl ⟨(Nat.le_of_ble_eq_true rfl), (Nat.le_of_ble_eq_true rfl)⟩ rfl hl.1 rfl (Nat.le_of_ble_eq_true rfl) dX6_row_34 ⟨Nat.zero_le _, Nat.zero_le _⟩) hS (fun H locs hP hS => ?_)
        exact je_mi hx hb hr hlocks hK hP hS h dX6_row_37
  · replace h := jh_f h c6
    refine lv_aload_n hx hb dX6_row_9 rfl (lv_at hl 0 rfl) ?_
    refine lv_bipush (v := (-4)) hx hb dX6_row_10 jcb_m4 ?_
    obtain ⟨r3, M_3, e3, h⟩ := jh_b2 h
    refine jr_km (jr_rv (As := [.int (-4)]) (rest := []) S hK hP jb_16 rfl (m_X6_refuse l X A hs (ju M 16 11 0 0) (-4) r3 M_3 e3) jw_X6_refuse ji_X6_refuse jmX6_143 rfl rfl ⟨(Nat.le_of_ble_eq_true rfl), (Nat.le_of_ble_eq_true rfl)⟩ rfl hl.1 rfl (Nat.le_of_ble_eq_true rfl) dX6_row_12 ⟨Nat.zero_le _, Nat.zero_le _⟩) hS (fun H locs hP hS => ?_)
    exact je_mi hx hb hr hlocks hK hP hS h dX6_row_15
def f_X6_judge_l17 (v1_1 : Int32) : Nat → jm → Int32 → Option (Int32 × jm)
  | 0, _, _ => none
  | k_1 + 1, M_1, v2_1 => (if v1_1 ≤ v2_1 then (some ((-9), M_1)) else (if (M_1 16 0 0) ≤ v2_1 then (some (v2_1, M_1)) else (jgd v2_1 12 (jb (f_X6_owersOf M_1 v2_1) fun r2 => (jb (f_X6_onesOf r2) fun r3 => (if (M_1 16 35 (Int32.toNatClampNeg v2_1)) = r3 then ((f_X6_judge_l17 v1_1 k_1) M_1 (v2_1 + 1)) else (some (v2_1, M_1))))))))
def f_X6_judge (M : jm) : Option (Int32 × jm) := (f_X6_judge_l17 ((ju M 16 11 0 0) 16 36 0) 10000 (ju (ju M 16 11 0 0) 16 36 0 0) 0)
set_option maxRecDepth 100000 in
theorem m_X6_judge (l : Launch) (X : jX) (A : Nat → Prop) (hs : jst X A) (M : jm) (r : Int32) (N : jm) (h : f_X6_judge M = some (r, N)) : Met l yX6_judge (jws yX6_judge cX6_judge 3 (some .int)) (jrm 1 23) (va_Pc [.ref (jO X 16)] (jB X M)) (jQm X A (some (.int r)) N) 0 0 A := by
  refine jm_of (by decide) (Nat.le_of_ble_eq_true rfl) ?_
  intro p e s m args below meth c ls S hr hlocks hB hl
  have S : CallFix p m c cX6_judge 3 s args jtb RX6 := S
  obtain ⟨hx, hb, hml, hown, hts⟩ := id S
  obtain ⟨hP, hK⟩ := hB
  have hN := hK.2
  have hS : va_S A s.heap s.heap [] := va_S.rf
  have hl : lv_has ls 3 [(0, .ref (jO X 16))] := hl
  refine lv_aload_n hx hb dX6_judge_0 rfl (lv_at hl 0 rfl) ?_
  refine lv_iconst (v := 0) hx hb dX6_judge_1 jci_0 ?_
  refine jr_put (k := 11) (z := 0) hx hb hts hown hK hP hs hS jb_16 (Nat.le_of_ble_eq_true rfl) jlX6_79 rfl (Or.inl rfl) rfl rfl rfl dX6_judge_2 (fun H locs hP hS => ?_)
  refine lv_aload_n hx hb dX6_judge_5 rfl (lv_at hl 0 rfl) ?_
  refine jr_get (k := 36) hx hb hts hown hK hP jb_16 (Nat.le_of_ble_eq_true rfl) jlX6_275 rfl dX6_judge_6 ?_
  refine lv_istore_n (lv' := [(1, .int ((ju M 16 11 0 0) 16 36 0)), (0, .ref (jO X 16))]) hx hb dX6_judge_9 rfl hl (Nat.le_of_ble_eq_true rfl) rfl (fun ls hl => ?_)
  refine lv_aload_n hx hb dX6_judge_10 rfl (lv_at hl 1 rfl) ?_
  refine lv_iconst (v := 0) hx hb dX6_judge_11 jci_0 ?_
  refine jr_put (k := 36) (z := 0) hx hb hts hown hK hP hs hS jb_16 (Nat.le_of_ble_eq_true rfl) jlX6_275 rfl (Or.inl rfl) rfl rfl rfl dX6_judge_12 (fun H locs hP hS => ?_)
  refine lv_iconst (v := 0) hx hb dX6_judge_15 jci_0 ?_
  refine lv_istore_n (lv' := [(2, .int 0), (1, .int ((ju M 16 11 0 0) 16 36 0)), (0, .ref (jO X 16))]) hx hb dX6_judge_16 rfl hl (Nat.le_of_ble_eq_true rfl) rfl (fun ls hl => ?_)
  have L17 : ∀ (v1_1 : Int32) (k_1 : Nat) (M_1 : jm) (H : Heap) (locs : List Loc) (v2_1 : Int32) (ls : Array Slot), f_X6_judge_l17 v1_1 k_1 M_1 v2_1 = some (r, N) → jrp X M_1 H → va_S A s.heap H locs → lv_has ls 3 [(0, .ref (jO X 16)), (1, .int v1_1), (2, .int v2_1)] → W p l e (jrm 1 23) s m args below meth c H locs 0 0 (MQ below (jQm X A (some (.int r)) N) args s 0 0 A) (F0 m 17 ls []) := by
    intro v1_1 k_1
    induction k_1 with
    | zero => intro M_1 H locs v2_1 ls h; exact jh_0 h
    | succ k_1 ih17 =>
      intro M_1 H locs v2_1 ls h hP hS hl
      refine lv_iload_n hx hb dX6_judge_17 rfl (lv_at hl 2 rfl) ?_
      refine lv_iload_n hx hb dX6_judge_18 rfl (lv_at hl 1 rfl) ?_
      refine lv_icmp_ge (tgt := 55) hx hb dX6_judge_19 rfl (fun c19 => ?_) (fun c19 => ?_)
      · replace h := jh_t h c19
        refine lv_bipush (v := (-9)) hx hb dX6_judge_55 jcb_m9 ?_
        exact je_mi hx hb hr hlocks hK hP hS h dX6_judge_57
      · replace h := jh_f h c19
        refine lv_iload_n hx hb dX6_judge_22 rfl (lv_at hl 2 rfl) ?_
        refine lv_aload_n hx hb dX6_judge_23 rfl (lv_at hl 0 rfl) ?_
        refine jr_get (k := 0) hx hb hts hown hK hP jb_16 (Nat.le_of_ble_eq_true rfl) jlX6_89 rfl dX6_judge_24 ?_
        refine lv_icmp_ge (tgt := 47) hx hb dX6_judge_27 rfl (fun c27 => ?_) (fun c27 => ?_)
        · replace h := jh_t h c27
          refine lv_iload_n hx hb dX6_judge_47 rfl (lv_at hl 2 rfl) ?_
          exact je_mi hx hb hr hlocks hK hP hS h dX6_judge_48
        · replace h := jh_f h c27
          refine lv_aload_n hx hb dX6_judge_30 rfl (lv_at hl 0 rfl) ?_
          refine jr_get (k := 35) hx hb hts hown hK hP jb_16 (Nat.le_of_ble_eq_true rfl) jlX6_73 rfl dX6_judge_31 ?_
          refine lv_iload_n hx hb dX6_judge_34 rfl (lv_at hl 2 rfl) ?_
          obtain ⟨g35, h⟩ := jh_gd h
          refine jr_ald (n := 12) hx hb hK hP jb_16 rfl g35 dX6_judge_35 ?_
          refine lv_aload_n hx hb dX6_judge_36 rfl (lv_at hl 0 rfl) ?_
          refine lv_iload_n hx hb dX6_judge_37 rfl (lv_at hl 2 rfl) ?_
          obtain ⟨r2, e2, h⟩ := jh_b h
          refine jr_kp (jr_rv (As := [.int v2_1]) (rest := [.int (M_1 16 35 (Int32.toNatClampNeg v2_1))]) S hK hP jb_16 rfl (m_X6_owersOf l X M_1 v2_1 r2 e2) jw_X6_owersOf ji_X6_owersOf jmX6_229 rfl rfl ⟨(Nat.le_of_ble_eq_true rfl), (Nat.le_of_ble_eq_true rfl)⟩ rfl hl.1 rfl (Nat.le_of_ble_eq_true rfl) dX6_judge_38 ⟨Nat.zero_le _, Nat.zero_le _⟩) ?_
          obtain ⟨r3, e3, h⟩ := jh_b h
          refine jr_kp (jr_rs (As := [.int r2]) (rest := [.int (M_1 16 35 (Int32.toNatClampNeg v2_1))]) S hN (m_X6_onesOf l r2 r3 e3) jw_X6_onesOf js_X6_onesOf jmX6_119 rfl rfl ⟨(Nat.le_of_ble_eq_true rfl), (Nat.le_of_ble_eq_true rfl)⟩ rfl hl.1 rfl (Nat.le_of_ble_eq_true rfl) dX6_judge_41 ⟨Nat.zero_le _, Nat.zero_le _⟩) ?_
          refine lv_icmp_eq (tgt := 49) hx hb dX6_judge_44 rfl (fun c44 => ?_) (fun c44 => ?_)
          · replace h := jh_t h c44
            refine lv_iinc (v := (v2_1 + 1)) (lv' := [(2, .int (v2_1 + 1)), (0, .ref (jO X 16)), (1, .int v1_1)]) hx hb dX6_judge_49 hl (k := 2) rfl (congrArg _ jci_1) (Nat.le_of_ble_eq_true rfl) rfl (fun ls hl => ?_)
            refine lv_goto (tgt := 17) hx hb dX6_judge_52 rfl ?_
            exact ih17 M_1 _ _ (v2_1 + 1) _ h hP hS (lv_sub hl [1, 2, 0] rfl)
          · replace h := jh_f h c44
            refine lv_iload_n hx hb dX6_judge_47 rfl (lv_at hl 2 rfl) ?_
            exact je_mi hx hb hr hlocks hK hP hS h dX6_judge_48
  exact L17 ((ju M 16 11 0 0) 16 36 0) 10000 (ju (ju M 16 11 0 0) 16 36 0 0) _ _ 0 _ h hP hS (lv_sub hl [2, 1, 0] rfl)
def f_X6_empties (M : jm) : Option (Int32 × jm) := (some (((ju M 16 11 0 0) 16 36 0), (ju (ju M 16 11 0 0) 16 36 0 0)))
set_option maxRecDepth 100000 in
theorem m_X6_empties (l : Launch) (X : jX) (A : Nat → Prop) (hs : jst X A) (M : jm) (r : Int32) (N : jm) (h : f_X6_empties M = some (r, N)) : Met l yX6_empties (jws yX6_empties cX6_empties 2 (some .int)) (jrm 0 0) (va_Pc [.ref (jO X 16)] (jB X M)) (jQm X A (some (.int r)) N) 0 0 A := by
  refine jm_of (by decide) (Nat.le_of_ble_eq_true rfl) ?_
  intro p e s m args below meth c ls S hr hlocks hB hl
  have S : CallFix p m c cX6_empties 2 s args jtb RX6 := S
  obtain ⟨hx, hb, hml, hown, hts⟩ := id S
  obtain ⟨hP, hK⟩ := hB
  have hN := hK.2
  have hS : va_S A s.heap s.heap [] := va_S.rf
  have hl : lv_has ls 2 [(0, .ref (jO X 16))] := hl
  refine lv_aload_n hx hb dX6_empties_0 rfl (lv_at hl 0 rfl) ?_
  refine lv_iconst (v := 0) hx hb dX6_empties_1 jci_0 ?_
  refine jr_put (k := 11) (z := 0) hx hb hts hown hK hP hs hS jb_16 (Nat.le_of_ble_eq_true rfl) jlX6_79 rfl (Or.inl rfl) rfl rfl rfl dX6_empties_2 (fun H locs hP hS => ?_)
  refine lv_aload_n hx hb dX6_empties_5 rfl (lv_at hl 0 rfl) ?_
  refine jr_get (k := 36) hx hb hts hown hK hP jb_16 (Nat.le_of_ble_eq_true rfl) jlX6_275 rfl dX6_empties_6 ?_
  refine lv_istore_n (lv' := [(1, .int ((ju M 16 11 0 0) 16 36 0)), (0, .ref (jO X 16))]) hx hb dX6_empties_9 rfl hl (Nat.le_of_ble_eq_true rfl) rfl (fun ls hl => ?_)
  refine lv_aload_n hx hb dX6_empties_10 rfl (lv_at hl 1 rfl) ?_
  refine lv_iconst (v := 0) hx hb dX6_empties_11 jci_0 ?_
  refine jr_put (k := 36) (z := 0) hx hb hts hown hK hP hs hS jb_16 (Nat.le_of_ble_eq_true rfl) jlX6_275 rfl (Or.inl rfl) rfl rfl rfl dX6_empties_12 (fun H locs hP hS => ?_)
  refine lv_iload_n hx hb dX6_empties_15 rfl (lv_at hl 0 rfl) ?_
  exact je_mi hx hb hr hlocks hK hP hS h dX6_empties_16
def f_X6_drawBelow (M : jm) (v1 : Int32) : Option (Int32 × jm) := (jgz v1 (some ((((((ju M 16 38 0 (((M 16 38 0) * 1103515245) + 12345)) 16 38 0) &&& 2147483647) / 65536) - ((((ju M 16 38 0 (((M 16 38 0) * 1103515245) + 12345)) 16 38 0) &&& 2147483647) / 65536) / v1 * v1), (ju M 16 38 0 (((M 16 38 0) * 1103515245) + 12345)))))
set_option maxRecDepth 100000 in
theorem m_X6_drawBelow (l : Launch) (X : jX) (A : Nat → Prop) (hs : jst X A) (M : jm) (v1 : Int32) (r : Int32) (N : jm) (h : f_X6_drawBelow M v1 = some (r, N)) : Met l yX6_drawBelow (jws yX6_drawBelow cX6_drawBelow 2 (some .int)) (jrm 0 0) (va_Pc [.ref (jO X 16), .int v1] (jB X M)) (jQm X A (some (.int r)) N) 0 0 A := by
  refine jm_of (by decide) (Nat.le_of_ble_eq_true rfl) ?_
  intro p e s m args below meth c ls S hr hlocks hB hl
  have S : CallFix p m c cX6_drawBelow 2 s args jtb RX6 := S
  obtain ⟨hx, hb, hml, hown, hts⟩ := id S
  obtain ⟨hP, hK⟩ := hB
  have hN := hK.2
  have hS : va_S A s.heap s.heap [] := va_S.rf
  have hl : lv_has ls 2 [(0, .ref (jO X 16)), (1, .int v1)] := hl
  refine lv_aload_n hx hb dX6_drawBelow_0 rfl (lv_at hl 0 rfl) ?_
  refine lv_aload_n hx hb dX6_drawBelow_1 rfl (lv_at hl 0 rfl) ?_
  refine jr_get (k := 38) hx hb hts hown hK hP jb_16 (Nat.le_of_ble_eq_true rfl) jlX6_305 rfl dX6_drawBelow_2 ?_
  refine lv_ldcw hx hb hown (hts _ jkX6_308) dX6_drawBelow_5 ?_
  refine lv_imul hx hb dX6_drawBelow_8 ?_
  refine lv_sipush (v := 12345) hx hb dX6_drawBelow_9 jcs_12345 ?_
  refine lv_iadd hx hb dX6_drawBelow_12 ?_
  refine jr_put (k := 38) (z := (((M 16 38 0) * 1103515245) + 12345)) hx hb hts hown hK hP hs hS jb_16 (Nat.le_of_ble_eq_true rfl) jlX6_305 rfl (Or.inl rfl) rfl rfl rfl dX6_drawBelow_13 (fun H locs hP hS => ?_)
  refine lv_aload_n hx hb dX6_drawBelow_16 rfl (lv_at hl 0 rfl) ?_
  refine jr_get (k := 38) hx hb hts hown hK hP jb_16 (Nat.le_of_ble_eq_true rfl) jlX6_305 rfl dX6_drawBelow_17 ?_
  refine lv_ldcw hx hb hown (hts _ jkX6_309) dX6_drawBelow_20 ?_
  refine lv_iand hx hb dX6_drawBelow_23 ?_
  refine lv_ldcw hx hb hown (hts _ jkX6_310) dX6_drawBelow_24 ?_
  refine lv_idiv hx hb dX6_drawBelow_27 (by decide) ?_
  refine lv_iload_n hx hb dX6_drawBelow_28 rfl (lv_at hl 1 rfl) ?_
  obtain ⟨gz29, h⟩ := jh_gz h
  refine lv_irem hx hb dX6_drawBelow_29 gz29 ?_
  exact je_mi hx hb hr hlocks hK hP hS h dX6_drawBelow_30
def f_X6_lots_j119 (M_7 : jm) (K46_7 : jm → Int32 → Int32 → Option (Int32 × jm)) (v1_4 : Int32) (v3_4 : Int32) (v6_7 : Int32) (t0_7 : Int32) (t1_7 : Int32) : Option (Int32 × jm) := (jb (f_X6_again M_7) fun M_8 => (K46_7 M_8 (t1_7 + t0_7) (v6_7 + 1)))
def f_X6_lots_l55 (K46_5 : jm → Int32 → Int32 → Option (Int32 × jm)) (v1_4 : Int32) (v3_4 : Int32) (v5_5 : Int32) (v6_5 : Int32) : Nat → jm → Int32 → Option (Int32 × jm)
  | 0, _, _ => none
  | k_5 + 1, M_5, v7_5 => (if (M_5 16 5 0) ≤ v7_5 then (jb (f_X6_goEvenings M_5 12) fun M_6 => (if v3_4 = 0 then (jb (f_X6_allDebts M_6) fun r10 => (f_X6_lots_j119 M_6 K46_5 v1_4 v3_4 v6_5 r10 v5_5)) else (jb (f_X6_allPrices M_6) fun r9 => (f_X6_lots_j119 M_6 K46_5 v1_4 v3_4 v6_5 r9 v5_5)))) else (jb2 (f_X6_drawBelow M_5 49) fun r11 M_11 => (jgd v7_5 6 (jb2 (f_X6_drawBelow (ju M_11 16 6 (Int32.toNatClampNeg v7_5) r11) 49) fun r12 M_12 => (jgd v7_5 6 ((f_X6_lots_l55 K46_5 v1_4 v3_4 v5_5 v6_5 k_5) (ju M_12 16 7 (Int32.toNatClampNeg v7_5) r12) (v7_5 + 1)))))))
def f_X6_lots_l46 (v1_4 : Int32) (v3_4 : Int32) : Nat → jm → Int32 → Int32 → Option (Int32 × jm)
  | 0, _, _, _ => none
  | k_4 + 1, M_4, v5_4, v6_4 => (if v1_4 ≤ v6_4 then (some (v5_4, M_4)) else (f_X6_lots_l55 (f_X6_lots_l46 v1_4 v3_4 k_4) v1_4 v3_4 v5_4 v6_4 10000 M_4 0))
def f_X6_lots (M : jm) (v1 : Int32) (v2 : Int32) (v3 : Int32) : Option (Int32 × jm) := (if 0 ≤ (f_X6_wrongBit (f_X6_wrongNumber v1 1 20) v3 1) then (jb (f_X6_think (ju (ju M 16 11 0 0) 16 38 0 v2)) fun M_3 => (f_X6_lots_l46 v1 v3 10000 M_3 0 0)) else (jb2 (f_X6_refuse (ju M 16 11 0 0) (f_X6_wrongBit (f_X6_wrongNumber v1 1 20) v3 1)) fun r13 M_13 => (some (r13, M_13))))
set_option maxRecDepth 100000 in
theorem m_X6_lots (l : Launch) (X : jX) (A : Nat → Prop) (hs : jst X A) (M : jm) (v1 : Int32) (v2 : Int32) (v3 : Int32) (r : Int32) (N : jm) (h : f_X6_lots M v1 v2 v3 = some (r, N)) : Met l yX6_lots (jws yX6_lots cX6_lots 8 (some .int)) (jrm 6 136) (va_Pc [.ref (jO X 16), .int v1, .int v2, .int v3] (jB X M)) (jQm X A (some (.int r)) N) 0 0 A := by
  refine jm_of (by decide) (Nat.le_of_ble_eq_true rfl) ?_
  intro p e s m args below meth c ls S hr hlocks hB hl
  have S : CallFix p m c cX6_lots 8 s args jtb RX6 := S
  obtain ⟨hx, hb, hml, hown, hts⟩ := id S
  obtain ⟨hP, hK⟩ := hB
  have hN := hK.2
  have hS : va_S A s.heap s.heap [] := va_S.rf
  have hl : lv_has ls 8 [(0, .ref (jO X 16)), (1, .int v1), (2, .int v2), (3, .int v3)] := hl
  refine lv_aload_n hx hb dX6_lots_0 rfl (lv_at hl 0 rfl) ?_
  refine lv_iconst (v := 0) hx hb dX6_lots_1 jci_0 ?_
  refine jr_put (k := 11) (z := 0) hx hb hts hown hK hP hs hS jb_16 (Nat.le_of_ble_eq_true rfl) jlX6_79 rfl (Or.inl rfl) rfl rfl rfl dX6_lots_2 (fun H locs hP hS => ?_)
  refine lv_iload_n hx hb dX6_lots_5 rfl (lv_at hl 1 rfl) ?_
  refine lv_iconst (v := 1) hx hb dX6_lots_6 jci_1 ?_
  refine lv_bipush (v := 20) hx hb dX6_lots_7 jcb_20 ?_
  refine jr_kp (jr_rs (As := [.int v1, .int 1, .int 20]) (rest := []) S hN (m_X6_wrongNumber l v1 1 20 _ rfl) jw_X6_wrongNumber js_X6_wrongNumber jmX6_240 rfl rfl ⟨(Nat.le_of_ble_eq_true rfl), (Nat.le_of_ble_eq_true rfl)⟩ rfl hl.1 rfl (Nat.le_of_ble_eq_true rfl) dX6_lots_9 ⟨Nat.zero_le _, Nat.zero_le _⟩) ?_
  refine lv_iload_n hx hb dX6_lots_12 rfl (lv_at hl 3 rfl) ?_
  refine lv_iconst (v := 1) hx hb dX6_lots_13 jci_1 ?_
  refine jr_kp (jr_rs (As := [.int (f_X6_wrongNumber v1 1 20), .int v3, .int 1]) (rest := []) S hN (m_X6_wrongBit l (f_X6_wrongNumber v1 1 20) v3 1 _ rfl) jw_X6_wrongBit js_X6_wrongBit jmX6_250 rfl rfl ⟨(Nat.le_of_ble_eq_true rfl), (Nat.le_of_ble_eq_true rfl)⟩ rfl hl.1 rfl (Nat.le_of_ble_eq_true rfl) dX6_lots_14 ⟨Nat.zero_le _, Nat.zero_le _⟩) ?_
  refine lv_istore (lv' := [(4, .int (f_X6_wrongBit (f_X6_wrongNumber v1 1 20) v3 1)), (0, .ref (jO X 16)), (1, .int v1), (2, .int v2), (3, .int v3)]) hx hb dX6_lots_17 hl (Nat.le_of_ble_eq_true rfl) rfl (fun ls hl => ?_)
  refine lv_iload hx hb dX6_lots_19 (lv_at hl 0 rfl) ?_
  refine lv_if_ge (tgt := 31) hx hb dX6_lots_21 rfl (fun c21 => ?_) (fun c21 => ?_)
  · replace h := jh_t h c21
    refine lv_aload_n hx hb dX6_lots_31 rfl (lv_at hl 1 rfl) ?_
    refine lv_iload_n hx hb dX6_lots_32 rfl (lv_at hl 3 rfl) ?_
    refine jr_put (k := 38) (z := v2) hx hb hts hown hK hP hs hS jb_16 (Nat.le_of_ble_eq_true rfl) jlX6_305 rfl (Or.inl rfl) rfl rfl rfl dX6_lots_33 (fun H locs hP hS => ?_)
    refine lv_iconst (v := 0) hx hb dX6_lots_36 jci_0 ?_
    refine lv_istore (lv' := [(5, .int 0), (4, .int (f_X6_wrongBit (f_X6_wrongNumber v1 1 20) v3 1)), (0, .ref (jO X 16)), (1, .int v1), (2, .int v2), (3, .int v3)]) hx hb dX6_lots_37 hl (Nat.le_of_ble_eq_true rfl) rfl (fun ls hl => ?_)
    refine lv_aload_n hx hb dX6_lots_39 rfl (lv_at hl 2 rfl) ?_
    obtain ⟨M_3, e3, h⟩ := jh_b h
    refine jr_kv (jr_rv (As := []) (rest := []) S hK hP jb_16 rfl (m_X6_think l X A hs (ju (ju M 16 11 0 0) 16 38 0 v2)  M_3 e3) jw_X6_think ji_X6_think jmX6_196 rfl rfl ⟨(Nat.le_of_ble_eq_true rfl), (Nat.le_of_ble_eq_true rfl)⟩ rfl hl.1 rfl (Nat.le_of_ble_eq_true rfl) dX6_lots_40 ⟨Nat.zero_le _, Nat.zero_le _⟩) hS (fun H locs hP hS => ?_)
    refine lv_iconst (v := 0) hx hb dX6_lots_43 jci_0 ?_
    refine lv_istore (lv' := [(6, .int 0), (5, .int 0), (4, .int (f_X6_wrongBit (f_X6_wrongNumber v1 1 20) v3 1)), (0, .ref (jO X 16)), (1, .int v1), (2, .int v2), (3, .int v3)]) hx hb dX6_lots_44 hl (Nat.le_of_ble_eq_true rfl) rfl (fun ls hl => ?_)
    have L46 : ∀ (v1_4 : Int32) (v3_4 : Int32) (k_4 : Nat) (M_4 : jm) (H : Heap) (locs : List Loc) (v5_4 : Int32) (v6_4 : Int32) (ls : Array Slot), f_X6_lots_l46 v1_4 v3_4 k_4 M_4 v5_4 v6_4 = some (r, N) → jrp X M_4 H → va_S A s.heap H locs → lv_has ls 8 [(0, .ref (jO X 16)), (1, .int v1_4), (3, .int v3_4), (5, .int v5_4), (6, .int v6_4)] → W p l e (jrm 6 136) s m args below meth c H locs 0 0 (MQ below (jQm X A (some (.int r)) N) args s 0 0 A) (F0 m 46 ls []) := by
      intro v1_4 v3_4 k_4
      induction k_4 with
      | zero => intro M_4 H locs v5_4 v6_4 ls h; exact jh_0 h
      | succ k_4 ih46 =>
        intro M_4 H locs v5_4 v6_4 ls h hP hS hl
        refine lv_iload hx hb dX6_lots_46 (lv_at hl 4 rfl) ?_
        refine lv_iload_n hx hb dX6_lots_48 rfl (lv_at hl 1 rfl) ?_
        refine lv_icmp_ge (tgt := 132) hx hb dX6_lots_49 rfl (fun c49 => ?_) (fun c49 => ?_)
        · replace h := jh_t h c49
          refine lv_iload hx hb dX6_lots_132 (lv_at hl 3 rfl) ?_
          exact je_mi hx hb hr hlocks hK hP hS h dX6_lots_134
        · replace h := jh_f h c49
          refine lv_iconst (v := 0) hx hb dX6_lots_52 jci_0 ?_
          refine lv_istore (lv' := [(7, .int 0), (0, .ref (jO X 16)), (1, .int v1_4), (3, .int v3_4), (5, .int v5_4), (6, .int v6_4)]) hx hb dX6_lots_53 hl (Nat.le_of_ble_eq_true rfl) rfl (fun ls hl => ?_)
          have L55 : ∀ (v5_5 : Int32) (v6_5 : Int32) (k_5 : Nat) (M_5 : jm) (H : Heap) (locs : List Loc) (v7_5 : Int32) (ls : Array Slot), f_X6_lots_l55 (f_X6_lots_l46 v1_4 v3_4 k_4) v1_4 v3_4 v5_5 v6_5 k_5 M_5 v7_5 = some (r, N) → jrp X M_5 H → va_S A s.heap H locs → lv_has ls 8 [(0, .ref (jO X 16)), (1, .int v1_4), (3, .int v3_4), (5, .int v5_5), (6, .int v6_5), (7, .int v7_5)] → W p l e (jrm 6 136) s m args below meth c H locs 0 0 (MQ below (jQm X A (some (.int r)) N) args s 0 0 A) (F0 m 55 ls []) := by
            intro v5_5 v6_5 k_5
            induction k_5 with
            | zero => intro M_5 H locs v7_5 ls h; exact jh_0 h
            | succ k_5 ih55 =>
              intro M_5 H locs v7_5 ls h hP hS hl
              refine lv_iload hx hb dX6_lots_55 (lv_at hl 5 rfl) ?_
              refine lv_aload_n hx hb dX6_lots_57 rfl (lv_at hl 0 rfl) ?_
              refine jr_get (k := 5) hx hb hts hown hK hP jb_16 (Nat.le_of_ble_eq_true rfl) jlX6_92 rfl dX6_lots_58 ?_
              refine lv_icmp_ge (tgt := 96) hx hb dX6_lots_61 rfl (fun c61 => ?_) (fun c61 => ?_)
              · replace h := jh_t h c61
                refine lv_aload_n hx hb dX6_lots_96 rfl (lv_at hl 0 rfl) ?_
                refine lv_bipush (v := 12) hx hb dX6_lots_97 jcb_12 ?_
                obtain ⟨M_6, e6, h⟩ := jh_b h
                refine jr_kv (jr_rv (As := [.int 12]) (rest := []) S hK hP jb_16 rfl (m_X6_goEvenings l X A hs M_5 12 M_6 e6) jw_X6_goEvenings ji_X6_goEvenings jmX6_189 rfl rfl ⟨(Nat.le_of_ble_eq_true rfl), (Nat.le_of_ble_eq_true rfl)⟩ rfl hl.1 rfl (Nat.le_of_ble_eq_true rfl) dX6_lots_99 ⟨Nat.zero_le _, Nat.zero_le _⟩) hS (fun H locs hP hS => ?_)
                refine lv_iload hx hb dX6_lots_102 (lv_at hl 3 rfl) ?_
                refine lv_iload_n hx hb dX6_lots_104 rfl (lv_at hl 2 rfl) ?_
                have J119 : ∀ (M_7 : jm) (H : Heap) (locs : List Loc) (v6_7 : Int32) (t0_7 : Int32) (t1_7 : Int32) (ls : Array Slot), f_X6_lots_j119 M_7 (f_X6_lots_l46 v1_4 v3_4 k_4) v1_4 v3_4 v6_7 t0_7 t1_7 = some (r, N) → jrp X M_7 H → va_S A s.heap H locs → lv_has ls 8 [(0, .ref (jO X 16)), (1, .int v1_4), (3, .int v3_4), (6, .int v6_7)] → W p l e (jrm 6 136) s m args below meth c H locs 0 0 (MQ below (jQm X A (some (.int r)) N) args s 0 0 A) (F0 m 119 ls [.int t0_7, .int t1_7]) := by
                  intro M_7 H locs v6_7 t0_7 t1_7 ls h hP hS hl
                  refine lv_iadd hx hb dX6_lots_119 ?_
                  refine lv_istore (lv' := [(5, .int (t1_7 + t0_7)), (0, .ref (jO X 16)), (1, .int v1_4), (3, .int v3_4), (6, .int v6_7)]) hx hb dX6_lots_120 hl (Nat.le_of_ble_eq_true rfl) rfl (fun ls hl => ?_)
                  refine lv_aload_n hx hb dX6_lots_122 rfl (lv_at hl 1 rfl) ?_
                  obtain ⟨M_8, e8, h⟩ := jh_b h
                  refine jr_kv (jr_rv (As := []) (rest := []) S hK hP jb_16 rfl (m_X6_again l X A hs M_7  M_8 e8) jw_X6_again ji_X6_again jmX6_202 rfl rfl ⟨(Nat.le_of_ble_eq_true rfl), (Nat.le_of_ble_eq_true rfl)⟩ rfl hl.1 rfl (Nat.le_of_ble_eq_true rfl) dX6_lots_123 ⟨Nat.zero_le _, Nat.zero_le _⟩) hS (fun H locs hP hS => ?_)
                  refine lv_iinc (v := (v6_7 + 1)) (lv' := [(6, .int (v6_7 + 1)), (5, .int (t1_7 + t0_7)), (0, .ref (jO X 16)), (1, .int v1_4), (3, .int v3_4)]) hx hb dX6_lots_126 hl (k := 4) rfl (congrArg _ jci_1) (Nat.le_of_ble_eq_true rfl) rfl (fun ls hl => ?_)
                  refine lv_goto (tgt := 46) hx hb dX6_lots_129 rfl ?_
                  exact ih46 M_8 _ _ (t1_7 + t0_7) (v6_7 + 1) _ h hP hS (lv_sub hl [2, 3, 4, 1, 0] rfl)
                refine lv_if_ne (tgt := 115) hx hb dX6_lots_105 rfl (fun c105 => ?_) (fun c105 => ?_)
                · replace h := jh_f h c105
                  refine lv_aload_n hx hb dX6_lots_115 rfl (lv_at hl 0 rfl) ?_
                  obtain ⟨r9, e9, h⟩ := jh_b h
                  refine jr_kp (jr_rv (As := []) (rest := [.int v5_5]) S hK hP jb_16 rfl (m_X6_allPrices l X M_6  r9 e9) jw_X6_allPrices ji_X6_allPrices jmX6_253 rfl rfl ⟨(Nat.le_of_ble_eq_true rfl), (Nat.le_of_ble_eq_true rfl)⟩ rfl hl.1 rfl (Nat.le_of_ble_eq_true rfl) dX6_lots_116 ⟨Nat.zero_le _, Nat.zero_le _⟩) ?_
                  exact J119 M_6 _ _ v6_5 r9 v5_5 _ h hP hS (lv_sub hl [0, 1, 2, 4] rfl)
                · replace h := jh_t h c105
                  refine lv_aload_n hx hb dX6_lots_108 rfl (lv_at hl 0 rfl) ?_
                  obtain ⟨r10, e10, h⟩ := jh_b h
                  refine jr_kp (jr_rv (As := []) (rest := [.int v5_5]) S hK hP jb_16 rfl (m_X6_allDebts l X M_6  r10 e10) jw_X6_allDebts ji_X6_allDebts jmX6_247 rfl rfl ⟨(Nat.le_of_ble_eq_true rfl), (Nat.le_of_ble_eq_true rfl)⟩ rfl hl.1 rfl (Nat.le_of_ble_eq_true rfl) dX6_lots_109 ⟨Nat.zero_le _, Nat.zero_le _⟩) ?_
                  refine lv_goto (tgt := 119) hx hb dX6_lots_112 rfl ?_
                  exact J119 M_6 _ _ v6_5 r10 v5_5 _ h hP hS (lv_sub hl [0, 1, 2, 4] rfl)
              · replace h := jh_f h c61
                refine lv_aload_n hx hb dX6_lots_64 rfl (lv_at hl 0 rfl) ?_
                refine jr_get (k := 6) hx hb hts hown hK hP jb_16 (Nat.le_of_ble_eq_true rfl) jlX6_22 rfl dX6_lots_65 ?_
                refine lv_iload hx hb dX6_lots_68 (lv_at hl 5 rfl) ?_
                refine lv_aload_n hx hb dX6_lots_70 rfl (lv_at hl 0 rfl) ?_
                refine lv_bipush (v := 49) hx hb dX6_lots_71 jcb_49 ?_
                obtain ⟨r11, M_11, e11, h⟩ := jh_b2 h
                refine jr_km (jr_rv (As := [.int 49]) (rest := [.int v7_5, .ref (jA X 16 6)]) S hK hP jb_16 rfl (m_X6_drawBelow l X A hs M_5 49 r11 M_11 e11) jw_X6_drawBelow ji_X6_drawBelow jmX6_311 rfl rfl ⟨(Nat.le_of_ble_eq_true rfl), (Nat.le_of_ble_eq_true rfl)⟩ rfl hl.1 rfl (Nat.le_of_ble_eq_true rfl) dX6_lots_73 ⟨Nat.zero_le _, Nat.zero_le _⟩) hS (fun H locs hP hS => ?_)
                obtain ⟨g76, h⟩ := jh_gd h
                refine jr_ast (n := 6) hx hb hK hP hs hS jb_16 rfl g76 dX6_lots_76 (fun H locs hP hS => ?_)
                refine lv_aload_n hx hb dX6_lots_77 rfl (lv_at hl 0 rfl) ?_
                refine jr_get (k := 7) hx hb hts hown hK hP jb_16 (Nat.le_of_ble_eq_true rfl) jlX6_25 rfl dX6_lots_78 ?_
                refine lv_iload hx hb dX6_lots_81 (lv_at hl 5 rfl) ?_
                refine lv_aload_n hx hb dX6_lots_83 rfl (lv_at hl 0 rfl) ?_
                refine lv_bipush (v := 49) hx hb dX6_lots_84 jcb_49 ?_
                obtain ⟨r12, M_12, e12, h⟩ := jh_b2 h
                refine jr_km (jr_rv (As := [.int 49]) (rest := [.int v7_5, .ref (jA X 16 7)]) S hK hP jb_16 rfl (m_X6_drawBelow l X A hs (ju M_11 16 6 (Int32.toNatClampNeg v7_5) r11) 49 r12 M_12 e12) jw_X6_drawBelow ji_X6_drawBelow jmX6_311 rfl rfl ⟨(Nat.le_of_ble_eq_true rfl), (Nat.le_of_ble_eq_true rfl)⟩ rfl hl.1 rfl (Nat.le_of_ble_eq_true rfl) dX6_lots_86 ⟨Nat.zero_le _, Nat.zero_le _⟩) hS (fun H locs hP hS => ?_)
                obtain ⟨g89, h⟩ := jh_gd h
                refine jr_ast (n := 6) hx hb hK hP hs hS jb_16 rfl g89 dX6_lots_89 (fun H locs hP hS => ?_)
                refine lv_iinc (v := (v7_5 + 1)) (lv' := [(7, .int (v7_5 + 1)), (0, .ref (jO X 16)), (1, .int v1_4), (3, .int v3_4), (5, .int v5_5), (6, .int v6_5)]) hx hb dX6_lots_90 hl (k := 5) rfl (congrArg _ jci_1) (Nat.le_of_ble_eq_true rfl) rfl (fun ls hl => ?_)
                refine lv_goto (tgt := 55) hx hb dX6_lots_93 rfl ?_
                exact ih55 (ju M_12 16 7 (Int32.toNatClampNeg v7_5) r12) _ _ (v7_5 + 1) _ h hP hS (lv_sub hl [1, 2, 3, 4, 5, 0] rfl)
          exact L55 v5_4 v6_4 10000 M_4 _ _ 0 _ h hP hS (lv_sub hl [1, 2, 3, 4, 5, 0] rfl)
    exact L46 v1 v3 10000 M_3 _ _ 0 0 _ h hP hS (lv_sub hl [3, 4, 6, 1, 0] rfl)
  · replace h := jh_f h c21
    refine lv_aload_n hx hb dX6_lots_24 rfl (lv_at hl 1 rfl) ?_
    refine lv_iload hx hb dX6_lots_25 (lv_at hl 0 rfl) ?_
    obtain ⟨r13, M_13, e13, h⟩ := jh_b2 h
    refine jr_km (jr_rv (As := [.int (f_X6_wrongBit (f_X6_wrongNumber v1 1 20) v3 1)]) (rest := []) S hK hP jb_16 rfl (m_X6_refuse l X A hs (ju M 16 11 0 0) (f_X6_wrongBit (f_X6_wrongNumber v1 1 20) v3 1) r13 M_13 e13) jw_X6_refuse ji_X6_refuse jmX6_143 rfl rfl ⟨(Nat.le_of_ble_eq_true rfl), (Nat.le_of_ble_eq_true rfl)⟩ rfl hl.1 rfl (Nat.le_of_ble_eq_true rfl) dX6_lots_27 ⟨Nat.zero_le _, Nat.zero_le _⟩) hS (fun H locs hP hS => ?_)
    exact je_mi hx hb hr hlocks hK hP hS h dX6_lots_30
def f_X6_count (M : jm) (v1 : Int32) : Option (Int32 × jm) := (if v1 = 0 then (some (((ju M 16 11 0 0) 16 0 0), (ju M 16 11 0 0))) else (if v1 = 1 then (some (((ju M 16 11 0 0) 16 5 0), (ju M 16 11 0 0))) else (if v1 = 2 then (some (((ju M 16 11 0 0) 16 10 0), (ju M 16 11 0 0))) else (if v1 = 3 then (jb (f_X6_allDebts (ju M 16 11 0 0)) fun r1 => (some (r1, (ju M 16 11 0 0)))) else (if v1 = 4 then (jb (f_X6_allPrices (ju M 16 11 0 0)) fun r2 => (some (r2, (ju M 16 11 0 0)))) else (if v1 = 5 then (some (((ju M 16 11 0 0) 16 14 0), (ju M 16 11 0 0))) else (if v1 = 6 then (some (((ju M 16 11 0 0) 16 36 0), (ju M 16 11 0 0))) else (if v1 = 7 then (some (((ju M 16 11 0 0) 16 29 0), (ju M 16 11 0 0))) else (if (f_X6_in (Int32.toInt64 v1) 11 16) = 0 then (some ((-9), (ju M 16 11 0 0))) else (jgd (v1 - 10) 7 (some (((ju M 16 11 0 0) 16 12 (Int32.toNatClampNeg (v1 - 10))), (ju M 16 11 0 0)))))))))))))
set_option maxRecDepth 100000 in
theorem m_X6_count (l : Launch) (X : jX) (A : Nat → Prop) (hs : jst X A) (M : jm) (v1 : Int32) (r : Int32) (N : jm) (h : f_X6_count M v1 = some (r, N)) : Met l yX6_count (jws yX6_count cX6_count 2 (some .int)) (jrm 3 69) (va_Pc [.ref (jO X 16), .int v1] (jB X M)) (jQm X A (some (.int r)) N) 0 0 A := by
  refine jm_of (by decide) (Nat.le_of_ble_eq_true rfl) ?_
  intro p e s m args below meth c ls S hr hlocks hB hl
  have S : CallFix p m c cX6_count 2 s args jtb RX6 := S
  obtain ⟨hx, hb, hml, hown, hts⟩ := id S
  obtain ⟨hP, hK⟩ := hB
  have hN := hK.2
  have hS : va_S A s.heap s.heap [] := va_S.rf
  have hl : lv_has ls 2 [(0, .ref (jO X 16)), (1, .int v1)] := hl
  refine lv_aload_n hx hb dX6_count_0 rfl (lv_at hl 0 rfl) ?_
  refine lv_iconst (v := 0) hx hb dX6_count_1 jci_0 ?_
  refine jr_put (k := 11) (z := 0) hx hb hts hown hK hP hs hS jb_16 (Nat.le_of_ble_eq_true rfl) jlX6_79 rfl (Or.inl rfl) rfl rfl rfl dX6_count_2 (fun H locs hP hS => ?_)
  refine lv_iload_n hx hb dX6_count_5 rfl (lv_at hl 1 rfl) ?_
  by_cases c6_0 : v1 = 0
  · replace h := jh_t h c6_0
    refine lv_tableIn (off := 46) (tgt := 52) hx hb dX6_count_6 (by rw [c6_0]; decide) (by rw [c6_0]; decide) (by rw [c6_0]; rfl) rfl ?_
    refine lv_aload_n hx hb dX6_count_52 rfl (lv_at hl 0 rfl) ?_
    refine jr_get (k := 0) hx hb hts hown hK hP jb_16 (Nat.le_of_ble_eq_true rfl) jlX6_89 rfl dX6_count_53 ?_
    exact je_mi hx hb hr hlocks hK hP hS h dX6_count_56
  replace h := jh_f h c6_0
  by_cases c6_1 : v1 = 1
  · replace h := jh_t h c6_1
    refine lv_tableIn (off := 51) (tgt := 57) hx hb dX6_count_6 (by rw [c6_1]; decide) (by rw [c6_1]; decide) (by rw [c6_1]; rfl) rfl ?_
    refine lv_aload_n hx hb dX6_count_57 rfl (lv_at hl 0 rfl) ?_
    refine jr_get (k := 5) hx hb hts hown hK hP jb_16 (Nat.le_of_ble_eq_true rfl) jlX6_92 rfl dX6_count_58 ?_
    exact je_mi hx hb hr hlocks hK hP hS h dX6_count_61
  replace h := jh_f h c6_1
  by_cases c6_2 : v1 = 2
  · replace h := jh_t h c6_2
    refine lv_tableIn (off := 56) (tgt := 62) hx hb dX6_count_6 (by rw [c6_2]; decide) (by rw [c6_2]; decide) (by rw [c6_2]; rfl) rfl ?_
    refine lv_aload_n hx hb dX6_count_62 rfl (lv_at hl 0 rfl) ?_
    refine jr_get (k := 10) hx hb hts hown hK hP jb_16 (Nat.le_of_ble_eq_true rfl) jlX6_122 rfl dX6_count_63 ?_
    exact je_mi hx hb hr hlocks hK hP hS h dX6_count_66
  replace h := jh_f h c6_2
  by_cases c6_3 : v1 = 3
  · replace h := jh_t h c6_3
    refine lv_tableIn (off := 61) (tgt := 67) hx hb dX6_count_6 (by rw [c6_3]; decide) (by rw [c6_3]; decide) (by rw [c6_3]; rfl) rfl ?_
    refine lv_aload_n hx hb dX6_count_67 rfl (lv_at hl 0 rfl) ?_
    obtain ⟨r1, e1, h⟩ := jh_b h
    refine jr_kp (jr_rv (As := []) (rest := []) S hK hP jb_16 rfl (m_X6_allDebts l X (ju M 16 11 0 0)  r1 e1) jw_X6_allDebts ji_X6_allDebts jmX6_247 rfl rfl ⟨(Nat.le_of_ble_eq_true rfl), (Nat.le_of_ble_eq_true rfl)⟩ rfl hl.1 rfl (Nat.le_of_ble_eq_true rfl) dX6_count_68 ⟨Nat.zero_le _, Nat.zero_le _⟩) ?_
    exact je_mi hx hb hr hlocks hK hP hS h dX6_count_71
  replace h := jh_f h c6_3
  by_cases c6_4 : v1 = 4
  · replace h := jh_t h c6_4
    refine lv_tableIn (off := 66) (tgt := 72) hx hb dX6_count_6 (by rw [c6_4]; decide) (by rw [c6_4]; decide) (by rw [c6_4]; rfl) rfl ?_
    refine lv_aload_n hx hb dX6_count_72 rfl (lv_at hl 0 rfl) ?_
    obtain ⟨r2, e2, h⟩ := jh_b h
    refine jr_kp (jr_rv (As := []) (rest := []) S hK hP jb_16 rfl (m_X6_allPrices l X (ju M 16 11 0 0)  r2 e2) jw_X6_allPrices ji_X6_allPrices jmX6_253 rfl rfl ⟨(Nat.le_of_ble_eq_true rfl), (Nat.le_of_ble_eq_true rfl)⟩ rfl hl.1 rfl (Nat.le_of_ble_eq_true rfl) dX6_count_73 ⟨Nat.zero_le _, Nat.zero_le _⟩) ?_
    exact je_mi hx hb hr hlocks hK hP hS h dX6_count_76
  replace h := jh_f h c6_4
  by_cases c6_5 : v1 = 5
  · replace h := jh_t h c6_5
    refine lv_tableIn (off := 71) (tgt := 77) hx hb dX6_count_6 (by rw [c6_5]; decide) (by rw [c6_5]; decide) (by rw [c6_5]; rfl) rfl ?_
    refine lv_aload_n hx hb dX6_count_77 rfl (lv_at hl 0 rfl) ?_
    refine jr_get (k := 14) hx hb hts hown hK hP jb_16 (Nat.le_of_ble_eq_true rfl) jlX6_146 rfl dX6_count_78 ?_
    exact je_mi hx hb hr hlocks hK hP hS h dX6_count_81
  replace h := jh_f h c6_5
  by_cases c6_6 : v1 = 6
  · replace h := jh_t h c6_6
    refine lv_tableIn (off := 76) (tgt := 82) hx hb dX6_count_6 (by rw [c6_6]; decide) (by rw [c6_6]; decide) (by rw [c6_6]; rfl) rfl ?_
    refine lv_aload_n hx hb dX6_count_82 rfl (lv_at hl 0 rfl) ?_
    refine jr_get (k := 36) hx hb hts hown hK hP jb_16 (Nat.le_of_ble_eq_true rfl) jlX6_275 rfl dX6_count_83 ?_
    exact je_mi hx hb hr hlocks hK hP hS h dX6_count_86
  replace h := jh_f h c6_6
  by_cases c6_7 : v1 = 7
  · replace h := jh_t h c6_7
    refine lv_tableIn (off := 81) (tgt := 87) hx hb dX6_count_6 (by rw [c6_7]; decide) (by rw [c6_7]; decide) (by rw [c6_7]; rfl) rfl ?_
    refine lv_aload_n hx hb dX6_count_87 rfl (lv_at hl 0 rfl) ?_
    refine jr_get (k := 29) hx hb hts hown hK hP jb_16 (Nat.le_of_ble_eq_true rfl) jlX6_205 rfl dX6_count_88 ?_
    exact je_mi hx hb hr hlocks hK hP hS h dX6_count_91
  replace h := jh_f h c6_7
  refine jr_tdef (ks := [0, 1, 2, 3, 4, 5, 6, 7]) (tgt := 92) hx hb dX6_count_6 (jsw_cons (jsw_ne c6_0 rfl) (jsw_cons (jsw_ne c6_1 rfl) (jsw_cons (jsw_ne c6_2 rfl) (jsw_cons (jsw_ne c6_3 rfl) (jsw_cons (jsw_ne c6_4 rfl) (jsw_cons (jsw_ne c6_5 rfl) (jsw_cons (jsw_ne c6_6 rfl) (jsw_cons (jsw_ne c6_7 rfl) (jsw_nil))))))))) (by decide) rfl ?_
  refine lv_iload_n hx hb dX6_count_92 rfl (lv_at hl 1 rfl) ?_
  refine lv_i2l hx hb dX6_count_93 rfl ?_
  refine lv_ldc2 hx hb hown (hts _ jkX6_314) dX6_count_94 ?_
  refine lv_ldc2 hx hb hown (hts _ jkX6_316) dX6_count_97 ?_
  refine jr_kp (jr_rs (As := [.long (Int32.toInt64 v1), .long 11, .long 16]) (rest := []) S hN (m_X6_in l (Int32.toInt64 v1) 11 16 _ rfl) jw_X6_in js_X6_in jmX6_85 rfl rfl ⟨(Nat.le_of_ble_eq_true rfl), (Nat.le_of_ble_eq_true rfl)⟩ rfl hl.1 rfl (Nat.le_of_ble_eq_true rfl) dX6_count_100 ⟨Nat.zero_le _, Nat.zero_le _⟩) ?_
  refine lv_if_eq (tgt := 118) hx hb dX6_count_103 rfl (fun c103 => ?_) (fun c103 => ?_)
  · replace h := jh_t h c103
    refine lv_bipush (v := (-9)) hx hb dX6_count_118 jcb_m9 ?_
    exact je_mi hx hb hr hlocks hK hP hS h dX6_count_120
  · replace h := jh_f h c103
    refine lv_aload_n hx hb dX6_count_106 rfl (lv_at hl 0 rfl) ?_
    refine jr_get (k := 12) hx hb hts hown hK hP jb_16 (Nat.le_of_ble_eq_true rfl) jlX6_34 rfl dX6_count_107 ?_
    refine lv_iload_n hx hb dX6_count_110 rfl (lv_at hl 1 rfl) ?_
    refine lv_bipush (v := 10) hx hb dX6_count_111 jcb_10 ?_
    refine lv_isub hx hb dX6_count_113 ?_
    obtain ⟨g114, h⟩ := jh_gd h
    refine jr_ald (n := 7) hx hb hK hP jb_16 rfl g114 dX6_count_114 ?_
    refine lv_goto (tgt := 120) hx hb dX6_count_115 rfl ?_
    exact je_mi hx hb hr hlocks hK hP hS h dX6_count_120
