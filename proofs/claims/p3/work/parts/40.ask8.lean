/-! count, image, restore -/
section Asks
variable {M M1 M2 : jm} {S : St} {σ : vl}
theorem m_in11 (v : Int32) : f_X6_in v.toInt64 11 16 = if (11 : Int32) ≤ v ∧ v ≤ 16 then nI 1 else nI 0 := by
  rw [m_in, show (11 : Int64) = (11 : Int32).toInt64 by decide, show (16 : Int64) = (16 : Int32).toInt64 by decide]
  simp only [q_wle]
theorem ok_count (hJ : JJ M S) (a : Int32) : OK0 M (f_X5_count M a) (fun M1 => f_X6_count M1 a) := by
  obtain ⟨h0, h5, hB⟩ := J_C hJ; have hf := J_f hJ; have hH := hf.1; have hW := hf.2.1.2.1
  have jc := hJ.1
  have jr := hJ.2.1
  have h10 : M 1 10 0 = nI (sv S 10 0) := jc.1.2.1
  have fin : ∀ r : Int32, f_X5_count M a = some r → (∀ N, RM (N 16) (sv S) → JR N S → f_X6_count M a = some (r, ju M 16 11 0 0)) → OK0 M (f_X5_count M a) (fun M1 => f_X6_count M1 a) := by
    intro r ha hb
    refine OK0_q hJ ha (fun hR hg => ⟨ju M 16 11 0 0, hb (ju M 16 11 0 0) (RM_ct hR) (JR_ct rfl jr), RM_ct hR, frK_ct M⟩)
  have hc1 : RM (ju M 16 11 0 0 16) (sv S) := RM_ct jr.1
  have jr1 : JR (ju M 16 11 0 0) S := JR_ct rfl jr
  by_cases c1 : okv 8 a = true
  · obtain ⟨j, hj, rfl⟩ := okv_ex (by omega) c1
    have hj' : j = 0 ∨ j = 1 ∨ j = 2 ∨ j = 3 ∨ j = 4 ∨ j = 5 ∨ j = 6 ∨ j = 7 := by omega
    rcases hj' with rfl | rfl | rfl | rfl | rfl | rfl | rfl | rfl
    · refine fin (nI (vH (sv S))) ?_ (fun _ _ _ => ?_)
      · unfold f_X5_count; rw [if_pos (by decide), h0]
      · unfold f_X6_count; rw [if_pos (by decide), hc1.1]
    · refine fin (nI (vW (sv S))) ?_ (fun _ _ _ => ?_)
      · unfold f_X5_count; rw [if_neg (by decide), if_pos (by decide), h5]
      · unfold f_X6_count; rw [if_neg (by decide), if_pos (by decide), hc1.2.1]
    · refine fin (nI (sv S 10 0)) ?_ (fun _ _ _ => ?_)
      · unfold f_X5_count; rw [if_neg (by decide), if_neg (by decide), if_pos (by decide), h10]
      · unfold f_X6_count; rw [if_neg (by decide), if_neg (by decide), if_pos (by decide), hc1.2.2.1]
    · refine fin (nI (debts (sv S) 0)) ?_ (fun _ _ _ => ?_)
      · unfold f_X5_count; rw [if_neg (by decide), if_neg (by decide), if_neg (by decide), if_pos (by decide), show (0 : Int32) = nI 0 from rfl, p_debtsBehind h0 hB hf.2.1 (by omega), q_jb]
      · unfold f_X6_count; rw [if_neg (by decide), if_neg (by decide), if_neg (by decide), if_pos (by decide), m_allDebts hc1 (wg_of hf), q_jb]
    · refine fin (nI (prices (sv S) 0)) ?_ (fun _ _ _ => ?_)
      · unfold f_X5_count; rw [if_neg (by decide), if_neg (by decide), if_neg (by decide), if_neg (by decide), if_pos (by decide), show (0 : Int32) = nI 0 from rfl, p_pricesBehind h0 hB hf.2.1 (by omega), q_jb]
      · unfold f_X6_count; rw [if_neg (by decide), if_neg (by decide), if_neg (by decide), if_neg (by decide), if_pos (by decide), m_allPrices hc1 (wg_of hf), q_jb]
    · refine fin (nI (sln S)) ?_ (fun _ _ _ => ?_)
      · unfold f_X5_count; rw [if_neg (by decide), if_neg (by decide), if_neg (by decide), if_neg (by decide), if_neg (by decide), if_pos (by decide), jc.2.2.2.2.2.1]
      · unfold f_X6_count; rw [if_neg (by decide), if_neg (by decide), if_neg (by decide), if_neg (by decide), if_neg (by decide), if_pos (by decide), jr1.2.2.2.2.2.1]
    · refine fin (nI (srn S)) ?_ (fun _ _ _ => ?_)
      · unfold f_X5_count; rw [if_neg (by decide), if_neg (by decide), if_neg (by decide), if_neg (by decide), if_neg (by decide), if_neg (by decide), if_pos (by decide), jc.2.2.2.2.2.2.2.1]
      · unfold f_X6_count; rw [if_neg (by decide), if_neg (by decide), if_neg (by decide), if_neg (by decide), if_neg (by decide), if_neg (by decide), if_pos (by decide), jr1.2.2.2.2.2.2.2.1]
    · refine fin (nI (shn S)) ?_ (fun _ _ _ => ?_)
      · unfold f_X5_count; rw [if_neg (by decide), if_neg (by decide), if_neg (by decide), if_neg (by decide), if_neg (by decide), if_neg (by decide), if_neg (by decide), if_pos (by decide), jc.2.1]
      · unfold f_X6_count; rw [if_neg (by decide), if_neg (by decide), if_neg (by decide), if_neg (by decide), if_neg (by decide), if_neg (by decide), if_neg (by decide), if_pos (by decide), jr1.2.1]
  · have nn : ∀ j, j < 8 → ¬ a = nI j := fun j hj => okv_ne (by omega) c1 hj
    have pre5 : f_X5_count M a = (if a < 11 then (some (-9)) else (if 16 < a then (some (-9)) else (jgd (a - 10) 7 (some (M 0 10 (Int32.toNatClampNeg (a - 10))))))) := by
      unfold f_X5_count
      rw [if_neg (show ¬ a = (0 : Int32) from nn 0 (by omega)), if_neg (show ¬ a = (1 : Int32) from nn 1 (by omega)), if_neg (show ¬ a = (2 : Int32) from nn 2 (by omega)), if_neg (show ¬ a = (3 : Int32) from nn 3 (by omega)), if_neg (show ¬ a = (4 : Int32) from nn 4 (by omega)), if_neg (show ¬ a = (5 : Int32) from nn 5 (by omega)), if_neg (show ¬ a = (6 : Int32) from nn 6 (by omega)), if_neg (show ¬ a = (7 : Int32) from nn 7 (by omega))]
    have pre6 : f_X6_count M a = (if (f_X6_in (Int32.toInt64 a) 11 16) = 0 then (some ((-9), (ju M 16 11 0 0))) else (jgd (a - 10) 7 (some (((ju M 16 11 0 0) 16 12 (Int32.toNatClampNeg (a - 10))), (ju M 16 11 0 0))))) := by
      unfold f_X6_count
      rw [if_neg (show ¬ a = (0 : Int32) from nn 0 (by omega)), if_neg (show ¬ a = (1 : Int32) from nn 1 (by omega)), if_neg (show ¬ a = (2 : Int32) from nn 2 (by omega)), if_neg (show ¬ a = (3 : Int32) from nn 3 (by omega)), if_neg (show ¬ a = (4 : Int32) from nn 4 (by omega)), if_neg (show ¬ a = (5 : Int32) from nn 5 (by omega)), if_neg (show ¬ a = (6 : Int32) from nn 6 (by omega)), if_neg (show ¬ a = (7 : Int32) from nn 7 (by omega))]
    rw [m_in11] at pre6
    by_cases d1 : a < 11
    · refine fin (-9) (by rw [pre5, if_pos d1]) (fun _ _ _ => ?_)
      rw [pre6, if_neg (show ¬ ((11 : Int32) ≤ a ∧ a ≤ 16) from fun z => by have := z.1; rw [Int32.lt_iff_toInt_lt] at d1; rw [Int32.le_iff_toInt_le] at this; omega), if_pos z00]
    · by_cases d2 : 16 < a
      · refine fin (-9) (by rw [pre5, if_neg d1, if_pos d2]) (fun _ _ _ => ?_)
        rw [pre6, if_neg (show ¬ ((11 : Int32) ≤ a ∧ a ≤ 16) from fun z => by have := z.2; rw [Int32.lt_iff_toInt_lt] at d2; rw [Int32.le_iff_toInt_le] at this; omega), if_pos z00]
      · obtain ⟨j, hj, rfl⟩ := nI_of (x := a) (fun z => d1 (by
          rw [Int32.lt_iff_toInt_lt] at z ⊢
          have e0 : (0 : Int32).toInt = 0 := rfl
          have e1 : (11 : Int32).toInt = 11 := rfl
          omega))
        rw [show (11 : Int32) = nI 11 from rfl, q_lt hj (by omega)] at d1
        rw [show (16 : Int32) = nI 16 from rfl, q_lt (by omega) hj] at d2
        have es : nI j - 10 = nI (j - 10) := pk_sub (a := j) (b := 10) (by omega)
        refine fin (srf S (j - 10)) ?_ (fun _ _ _ => ?_)
        · rw [pre5, if_neg (by rw [show (11 : Int32) = nI 11 from rfl, q_lt hj (by omega)]; omega), if_neg (by rw [show (16 : Int32) = nI 16 from rfl, q_lt (by omega) hj]; omega), es, q_gd (by omega) (by omega), q_cl (by omega), jc.2.2.2.2.2.2.2.2.2 _ (by omega)]
        · rw [pre6, if_pos (show (11 : Int32) ≤ nI j ∧ nI j ≤ 16 from ⟨by rw [show (11 : Int32) = nI 11 from rfl, q_le (by omega) hj]; omega, by rw [show (16 : Int32) = nI 16 from rfl, q_le hj (by omega)]; omega⟩), if_neg z10, es, q_gd (by omega) (by omega), q_cl (by omega), jr1.2.2.2.2.2.2.2.2.2 _ (by omega)]
-- image
theorem ok_image (hJ : JJ M S) : OK (f_X5_image M) (fun M1 => f_X6_image M1) := by
  obtain ⟨jc, jr, jw⟩ := hJ
  obtain ⟨A1, a1, a2, a3⟩ := p_becomeRW (M := M) (o := 3) (o1 := 1) (σ := sv S) (by omega) jc.1
  have e16 : ju A1 0 3 0 1 16 = M 16 := by rw [ju_ne (by omega), a2 16 (by omega)]
  have jr1 := JR_ct e16 jr
  obtain ⟨B, b1, b2, b3, b4⟩ := carry_take (M := ju (ju (ju A1 0 3 0 1) 16 11 0 0) 16 23 0 1) (f1 := 22) (by omega)
  have rm : RM (ju (ju (ju A1 0 3 0 1) 16 11 0 0) 16 23 0 1 16) (sv S) := RM_fe (fun f hf => ju_f (by omega)) jr1.1
  have rmB : RM (B 16) (sv S) := RM_fe (fun f hf => b3 f (by omega) (by omega) (by omega) (by omega)) rm
  refine ⟨nI (sv S 10 0), ju A1 0 3 0 1, B, setim S, ?_, ?_, ?_, ?_, ?_⟩
  · unfold f_X5_image
    rw [a1, q_jb, ju_ne (show (1 : Nat) ≠ 0 by omega), a2 1 (by omega), jc.1.2.1]
  · show f_X6_image _ = _
    unfold f_X6_image
    rw [b1, q_jb, rmB.2.2.1]
  · refine JC_16 (M1 := ju A1 0 3 0 1) (fun o ho => by rw [b2 o ho, ju_ne ho, ju_ne ho]) ?_
    obtain ⟨j1, j2, ⟨nx, n1, n2, n3⟩, j4, j5, j6, j7, j8, j9, j10⟩ := jc
    refine ⟨by rw [ju_ne (by omega), a2 1 (by omega)]; exact j1, by rw [ju_ne (by omega), a2 12 (by omega)]; exact j2, ⟨nx, n1, by rw [ju_ne (by omega), a2 12 (by omega)]; exact n2, fun i hi => ?_⟩, by rw [ju_self]; rfl, fun _ => by rw [ju_ne (by omega)]; exact a3, by rw [ju_ne (by omega), a2 13 (by omega)]; exact j6, fun i hi => by rw [ju_ne (by omega), a2 13 (by omega)]; exact j7 i hi, by rw [ju_g (by omega), a2 0 (by omega)]; exact j8, fun i hi => by rw [ju_g (by omega), a2 0 (by omega)]; exact j9 i hi, fun i hi => by rw [ju_g (by omega), a2 0 (by omega)]; exact j10 i hi⟩
    rw [ju_ne (by omega), a2 _ (by omega)]
    have := n3 i hi
    unfold shs at this ⊢
    show RW _ (if 2 + i = 1 then S.1 0 else S.1 (2 + i))
    rw [if_neg (by omega)]; exact this
  · obtain ⟨j1, j2, j3, j4, j5, j6, j7, j8, j9, j10⟩ := jr1
    have h : ∀ f, 10 < f → f ≠ 22 → f ≠ 23 → f ≠ 24 → f ≠ 25 → f ≠ 26 → B 16 f = ju (ju A1 0 3 0 1) 16 11 0 0 16 f := fun f q1 q2 q3 q4 q5 q6 => by rw [b3 f q2 q4 q5 q6, ju_f q3]
    refine ⟨rmB, by rw [h 29 (by omega) (by omega) (by omega) (by omega) (by omega) (by omega)]; exact j2, fun i hi => ?_, by rw [b3 23 (by omega) (by omega) (by omega) (by omega), ju_self]; rfl, fun _ => ⟨_, b4, rm⟩, by rw [h 14 (by omega) (by omega) (by omega) (by omega) (by omega) (by omega)]; exact j6, fun i hi => by rw [h 13 (by omega) (by omega) (by omega) (by omega) (by omega) (by omega)]; exact j7 i hi, by rw [h 36 (by omega) (by omega) (by omega) (by omega) (by omega) (by omega)]; exact j8, fun i hi => by rw [h 35 (by omega) (by omega) (by omega) (by omega) (by omega) (by omega)]; exact j9 i hi, fun i hi => by rw [h 12 (by omega) (by omega) (by omega) (by omega) (by omega) (by omega)]; exact j10 i hi⟩
    rw [h 27 (by omega) (by omega) (by omega) (by omega) (by omega) (by omega)]
    have := j3 i hi
    unfold shs at this ⊢
    show KM _ (if 2 + i = 1 then S.1 0 else S.1 (2 + i))
    rw [if_neg (by omega)]; exact this
  · obtain ⟨w1, w2, w3, w4, w5, w6⟩ := jw
    refine ⟨w1, w2, fun i hi => ?_, by show 1 ≤ 1; omega, fun _ => w1, w6⟩
    have := w3 i hi
    unfold shs at this ⊢
    show wf (if 2 + i = 1 then S.1 0 else S.1 (2 + i))
    rw [if_neg (by omega)]; exact this
-- restore
theorem ok_restore (hJ : JJ M S) : OK (f_X5_restore M) (fun M1 => f_X6_restore M1) := by
  have hJ' := hJ
  obtain ⟨jc, jr, jw⟩ := hJ
  by_cases z : sim S = 1
  · obtain ⟨A1, a1, a2, a3⟩ := p_becomeRW (M := M) (o := 1) (o1 := 3) (σ := siv S) (by omega) (jc.2.2.2.2.1 z)
    have e16 : ju A1 12 2 0 0 16 = M 16 := by rw [ju_ne (by omega), a2 16 (by omega)]
    have jr1 := JR_ct e16 jr
    obtain ⟨B, b1, b2, b3, b4⟩ := carry_back (M := ju (ju A1 12 2 0 0) 16 11 0 0) (f1 := 22) (by omega)
    have hfi := jw.2.2.2.2.1 z
    obtain ⟨G, g1, g2⟩ := jr1.2.2.2.2.1 z
    have rmB : RM (B 16) (siv S) := RM_cext (wg_of hfi) (fun q hq => by rw [b4 q hq, g1 q hq]) g2
    have jcA : JC A1 (setv S (siv S)) := JC_v a3 (fun o h1 _ _ _ _ => a2 o h1) jc
    have jrB : JR B (setv S (siv S)) := JR_v rmB (fun f hf => by unfold kp at hf; exact b3 f (by omega) (by omega) (by omega) (by omega)) jr1
    refine ⟨nI (siv S 10 0), ju A1 12 2 0 0, ju B 16 29 0 0, setn (setv S (siv S)) 0 0, ?_, ?_, ?_, JR_0 jrB, wS_0 (wS_v hfi jw)⟩
    · unfold f_X5_restore f_X0_forget
      rw [if_neg (by rw [jc.2.2.2.1, z]; decide), a1, q_jb, q_jb, ju_ne (show (1 : Nat) ≠ 12 by omega), a3.2.1]
    · show f_X6_restore _ = _
      unfold f_X6_restore
      rw [if_neg (by rw [jr1.2.2.2.1, z]; decide), b1, q_jb, ju_g (show (10 : Nat) ≠ 29 by omega), rmB.2.2.1]
    · exact JC_16 (M1 := ju A1 12 2 0 (nI 0)) (fun o ho => by rw [ju_ne ho, b2 o ho, ju_ne ho]; rfl) (JC_0 (x := 0) (by omega) jcA rfl)
  · have hi : sim S = 0 := by have := jw.2.2.2.1; omega
    refine OK_ref (k := 3) (by omega) hJ' ?_ (fun M1 e16 _ => ?_)
    · unfold f_X5_restore
      rw [if_pos (by rw [jc.2.2.2.1, hi]; rfl)]; rfl
    · simp only [f_X6_restore]
      rw [if_pos (show ju M1 16 11 0 0 16 23 0 = 0 by rw [(JR_ct e16 jr).2.2.2.1, hi]; rfl)]; rfl
end Asks
