/-! visits, trades, house, walker -/
section Do
variable {M M1 M2 : jm} {S : St} {σ : vl}
theorem idx7 (w h : Nat) : 7 * nI w + nI h = nI (7 * w + h) := by rw [show (7 : Int32) = nI 7 from rfl, pk_mul, nI_add]
theorem ok_visits (hJ : JJ M S) (a b : Int32) : OK (f_X5_visits M a b) (fun M1 => f_X6_visits M1 a b) := by
  obtain ⟨h0, h5, hB⟩ := J_C hJ; have hf := J_f hJ; have hH := hf.1; have hW := hf.2.1.2.1
  by_cases c1 : okv (vW (sv S)) a = true
  · by_cases c2 : okv (vH (sv S)) b = true
    · obtain ⟨w, hw, rfl⟩ := okv_ex (by omega) c1
      obtain ⟨h, hh, rfl⟩ := okv_ex (by omega) c2
      have hd := hf.2.1.2.2.2.2 w h
      obtain ⟨w1, w2, w3⟩ := hf.2.1.2.2.2.1 w hw
      obtain ⟨k1, k2, k3, k4⟩ := hf.2.1.2.2.1 h hh
      by_cases z : (sv S) (20 + w) h = 0
      · refine OK_ref (k := 3) (by omega) hJ ?_ (fun M1 e16 _ => ?_)
        · simp only [f_X5_visits, p_hasW h5, p_hasH h0, c1, c2, if_true, z10, if_false, p_owes hB hf.2.1 (show w < 6 by omega) (show h < 8 by omega), q_jb, z, z00]; rfl
        · have r1 := J_R hJ e16
          simp only [f_X6_visits, f_X6_visits_j45, f_X6_visits_j51]
          rw [m_wbOK r1 (wg_of hf) hw hh, if_pos z00, idx7, q_gd (by omega) (by omega), q_cl (by omega), if_pos (show ju M1 16 11 0 0 16 9 (7 * w + h) = 0 by rw [r1.2.2.2.2.2 w (by omega) h (by omega), z]; rfl), if_neg n3]; rfl
      · by_cases z2 : (sv S) 6 w = (sv S) 3 h
        · obtain ⟨A, a1, a2, a3, a4⟩ := p_keep hJ.2.2 hJ.1
          have e16 : ju A 1 9 (w * 8 + h) (nI 0 - nI 1) 16 = M 16 := by rw [ju_ne (by omega), a4]
          have hc1 := JR_ct e16 hJ.2.1
          obtain ⟨D, d1, d2, d3⟩ := m_keepTurn (M := ju (ju A 1 9 (w * 8 + h) (nI 0 - nI 1)) 16 11 0 0) hJ.2.2 hc1
          have emb : mb (sv S) w h 0 = mns ((sv S) 1 h) ((sv S) 2 h) ((sv S) (20 + w) h - 1) := by unfold mb; rw [show dk (sv S) w h 0 = (sv S) (20 + w) h from rfl, if_neg z]
          refine OK_do (r := nI (mb (sv S) w h 0)) (A := A) (B := ju A 1 9 (w * 8 + h) (nI 0 - nI 1)) (C := ju D 16 9 (7 * w + h) (nI 0)) (D := D) hJ (wf_debt hf hw hh (by omega)) ?_ (RW_debt (d := 0) (by rw [a3]; exact hJ.1.1) (by omega) (by omega)) a2 (fun o ho => ju_ne ho) ?_ d2 (fun o ho => by rw [ju_ne ho, d3 o ho, ju_ne ho]) (RM_debt d2.1 (by omega)) (fun f hk => by unfold kp at hk; exact ju_f (by omega))
          · simp only [f_X5_visits, p_hasW h5, p_hasH h0, c1, c2, if_true, z10, if_false, p_owes hB hf.2.1 (show w < 6 by omega) (show h < 8 by omega), q_jb, z]
            rw [q_gd (by omega) (by omega), q_gd (by omega) (by omega), q_cl (by omega), q_cl (by omega), if_pos (show M 1 6 w = M 1 3 h by rw [(hB.2.2.1 w hw).1, (hB.2.1 h hh).2.2.1, z2]), show (0 : Int32) = nI 0 from rfl, p_minutesBehind hB hf.2.1 hw hh (by omega), q_jb, a1, q_jb, p_setDebt (by omega) (by omega), q_jb]; rfl
          · show f_X6_visits _ (nI w) (nI h) = _
            have r1 := hc1.1
            simp only [f_X6_visits, f_X6_visits_j50, f_X6_visits_j51]
            rw [m_wbOK r1 (wg_of hf) hw hh, if_pos z00, idx7, q_gd (by omega) (by omega), q_cl (by omega), if_neg (show ¬ ju (ju A 1 9 (w * 8 + h) (nI 0 - nI 1)) 16 11 0 0 16 9 (7 * w + h) = 0 by rw [r1.2.2.2.2.2 w (by omega) h (by omega), show (0 : Int32) = nI 0 from rfl, q_eq (by omega) (by omega)]; exact z), q_gd (by omega) (by omega), q_gd (by omega) (by omega), q_cl (by omega), q_cl (by omega), if_pos (show ju (ju A 1 9 (w * 8 + h) (nI 0 - nI 1)) 16 11 0 0 16 6 w = ju (ju A 1 9 (w * 8 + h) (nI 0 - nI 1)) 16 11 0 0 16 3 h by rw [(r1.2.2.2.2.1 w hw).1, (r1.2.2.2.1 h hh).2.2.1, z2]), if_pos (show (0 : Int32) ≤ nI 0 by decide), d1, q_jb, q_gd (by omega) (by omega), d2.1.2.2.2.2.2 w (by omega) h (by omega)]
            have es : nI (sv (push S) (20 + w) h) - 1 = nI ((sv S) (20 + w) h - 1) := pk_sub (a := (sv S) (20 + w) h) (b := 1) (by omega)
            rw [es, m_minutesOf d2.1 (wg_of hf) hh (by omega), q_jb, q_gd (by omega) (by omega), emb]; rfl
        · refine OK_ref (k := 3) (by omega) hJ ?_ (fun M1 e16 _ => ?_)
          · simp only [f_X5_visits, p_hasW h5, p_hasH h0, c1, c2, if_true, z10, if_false, p_owes hB hf.2.1 (show w < 6 by omega) (show h < 8 by omega), q_jb, z]
            rw [q_gd (by omega) (by omega), q_gd (by omega) (by omega), q_cl (by omega), q_cl (by omega), if_neg (show ¬ M 1 6 w = M 1 3 h by rw [(hB.2.2.1 w hw).1, (hB.2.1 h hh).2.2.1, q_eq (by omega) (by omega)]; exact z2)]; rfl
          · have r1 := J_R hJ e16
            simp only [f_X6_visits, f_X6_visits_j45, f_X6_visits_j51]
            rw [m_wbOK r1 (wg_of hf) hw hh, if_pos z00, idx7, q_gd (by omega) (by omega), q_cl (by omega), if_neg (show ¬ ju M1 16 11 0 0 16 9 (7 * w + h) = 0 by rw [r1.2.2.2.2.2 w (by omega) h (by omega), show (0 : Int32) = nI 0 from rfl, q_eq (by omega) (by omega)]; exact z), q_gd (by omega) (by omega), q_gd (by omega) (by omega), q_cl (by omega), q_cl (by omega), if_neg (show ¬ ju M1 16 11 0 0 16 6 w = ju M1 16 11 0 0 16 3 h by rw [(r1.2.2.2.2.1 w hw).1, (r1.2.2.2.1 h hh).2.2.1, q_eq (by omega) (by omega)]; exact z2), if_neg n3]; rfl
    · refine OK_ref (k := 1) (by omega) hJ ?_ (fun M1 e16 _ => ?_)
      · unfold f_X5_visits
        rw [show f_X4_hasWalker M 1 a = nI 1 from by rw [p_hasW h5, if_pos c1], if_neg z10]
        rw [show f_X4_hasHouse M 1 b = nI 0 from by rw [p_hasH h0, if_neg c2], if_pos z00]; rfl
      · simp only [f_X6_visits, f_X6_visits_j50, f_X6_visits_j51]
        rw [m_wb2 (J_R hJ e16) (wg_of hf) c2, if_neg (by decide), if_neg n1]; rfl
  · refine OK_ref (k := 1) (by omega) hJ ?_ (fun M1 e16 _ => ?_)
    · unfold f_X5_visits
      rw [show f_X4_hasWalker M 1 a = nI 0 from by rw [p_hasW h5, if_neg c1], if_pos z00]; rfl
    · simp only [f_X6_visits, f_X6_visits_j50, f_X6_visits_j51]
      rw [m_wb1 (J_R hJ e16) (wg_of hf) c1, if_neg (by decide), if_neg n1]; rfl
theorem ok_trades (hJ : JJ M S) (a b c : Int32) : OK (f_X5_trades M a b c) (fun M1 => f_X6_trades M1 a b c) := by
  obtain ⟨h0, h5, hB⟩ := J_C hJ; have hf := J_f hJ; have hH := hf.1; have hW := hf.2.1.2.1
  by_cases c1 : okv (vH (sv S)) a = true
  · by_cases c2 : okv (vW (sv S)) b = true
    · by_cases c3 : okv (vW (sv S)) c = true
      · by_cases c4 : b = c
        · refine OK_ref (k := 1) (by omega) hJ ?_ (fun M1 e16 _ => ?_)
          · unfold f_X5_trades
            rw [show f_X4_hasHouse M 1 a = nI 1 from by rw [p_hasH h0, if_pos c1], if_neg z10]
            rw [show f_X4_hasWalker M 1 b = nI 1 from by rw [p_hasW h5, if_pos c2], if_neg z10]
            rw [show f_X4_hasWalker M 1 c = nI 1 from by rw [p_hasW h5, if_pos c3], if_neg z10]
            rw [if_pos c4]; rfl
          · simp only [f_X6_trades, f_X6_trades_j38, f_X6_trades_j39, f_X6_trades_j79, f_X6_trades_j81]
            rw [if_neg (show ¬ f_X6_isHouse (ju M1 16 11 0 0) a = 0 from by rw [m_isHouse (J_R hJ e16) (wg_of hf), if_pos c1]; decide), if_neg (show ¬ f_X6_isWalker (ju M1 16 11 0 0) b = 0 from by rw [m_isWalker (J_R hJ e16) (wg_of hf), if_pos c2]; decide), if_neg (show ¬ f_X6_isWalker (ju M1 16 11 0 0) c = 0 from by rw [m_isWalker (J_R hJ e16) (wg_of hf), if_pos c3]; decide), if_pos c4, if_neg (by decide), if_neg n1]; rfl
        · obtain ⟨h, hh, rfl⟩ := okv_ex (by omega) c1
          obtain ⟨w, hw, rfl⟩ := okv_ex (by omega) c2
          obtain ⟨u, hu, rfl⟩ := okv_ex (by omega) c3
          have hwu : ¬ w = u := fun q => c4 (by rw [q])
          have hd := hf.2.1.2.2.2.2 w h
          have hd2 := hf.2.1.2.2.2.2 u h
          by_cases z : (sv S) (20 + w) h = 0
          · refine OK_ref (k := 3) (by omega) hJ ?_ (fun M1 e16 _ => ?_)
            · simp only [f_X5_trades, p_hasW h5, p_hasH h0, c1, c2, c3, if_true, z10, if_false, c4, p_owes hB hf.2.1 (show w < 6 by omega) (show h < 8 by omega), q_jb, z, z00]; rfl
            · have r1 := J_R hJ e16
              simp only [f_X6_trades, f_X6_trades_j39, f_X6_trades_j74, f_X6_trades_j81]
              rw [if_neg (show ¬ f_X6_isHouse (ju M1 16 11 0 0) (nI h) = 0 from by rw [m_isHouse (J_R hJ e16) (wg_of hf), if_pos c1]; decide), if_neg (show ¬ f_X6_isWalker (ju M1 16 11 0 0) (nI w) = 0 from by rw [m_isWalker (J_R hJ e16) (wg_of hf), if_pos c2]; decide), if_neg (show ¬ f_X6_isWalker (ju M1 16 11 0 0) (nI u) = 0 from by rw [m_isWalker (J_R hJ e16) (wg_of hf), if_pos c3]; decide), if_neg c4, if_pos trivial, idx7, q_gd (by omega) (by omega), q_cl (by omega), if_pos (show ju M1 16 11 0 0 16 9 (7 * w + h) = 0 by rw [r1.2.2.2.2.2 w (by omega) h (by omega), z]; rfl), if_neg n3]; rfl
          · by_cases z2 : (sv S) (20 + u) h = 0
            · obtain ⟨A, a1, a2, a3, a4⟩ := p_keep hJ.2.2 hJ.1
              have hw1 : RW (ju A 1 9 (w * 8 + h) (nI 0 - nI 1) 1) (debt (sv S) w h 0) := RW_debt (d := 0) (by rw [a3]; exact hJ.1.1) (by omega) (by omega)
              have hw2 := RW_debt (M := ju A 1 9 (w * 8 + h) (nI 0 - nI 1)) (d := (sv S) (20 + w) h) hw1 (w := u) (h := h) (by omega) (by omega)
              have hf1 : wf (debt (sv S) w h 0) := wf_debt hf hw hh (by omega)
              have eW : vW (debt (sv S) w h 0) = vW (sv S) := debt_lo (by omega)
              have eH : vH (debt (sv S) w h 0) = vH (sv S) := debt_lo (by omega)
              have hf2 : wf (debt (debt (sv S) w h 0) u h ((sv S) (20 + w) h)) := wf_debt hf1 (by rw [eW]; exact hu) (by rw [eH]; exact hh) hd
              have e16 : ju (ju A 1 9 (w * 8 + h) (nI 0 - nI 1)) 1 9 (u * 8 + h) (nI ((sv S) (20 + w) h) - nI 1) 16 = M 16 := by rw [ju_ne (by omega), ju_ne (by omega), a4]
              have hc1 := JR_ct e16 hJ.2.1
              obtain ⟨D, d1, d2, d3⟩ := m_keepTurn hJ.2.2 hc1
              have hD := d2.1.2.2.2.2.2 w (by omega) h (by omega)
              have rC := RM_debt (M := ju D 16 9 (7 * u + h) (nI ((sv S) (20 + w) h))) (RM_debt d2.1 (w := u) (d := (sv S) (20 + w) h) (by omega)) (w := w) (h := h) (d := 0) (by omega)
              have ev : debt (debt (sv (push S)) u h ((sv S) (20 + w) h)) w h 0 = debt (debt (sv S) w h 0) u h ((sv S) (20 + w) h) := by
                show vu (vu (sv S) (20 + u) h _) (20 + w) h 0 = vu (vu (sv S) (20 + w) h 0) (20 + u) h _
                rw [vu_comm (by omega)]
              rw [ev] at rC
              refine OK_do (r := nI ((sv S) (20 + w) h) - nI 1) (A := A) (D := D) hJ hf2 ?_ hw2 a2 (fun o ho => by rw [ju_ne ho, ju_ne ho]) ?_ d2 (fun o ho => by rw [ju_ne ho, ju_ne ho, d3 o ho, ju_ne ho]) rC (fun f hk => by unfold kp at hk; rw [ju_f (by omega), ju_f (by omega)])
              · simp only [f_X5_trades, p_hasW h5, p_hasH h0, c1, c2, c3, if_true, z10, if_false, c4, p_owes hB hf.2.1 (show w < 6 by omega) (show h < 8 by omega), p_owes hB hf.2.1 (show u < 6 by omega) (show h < 8 by omega), q_jb, z, z2, z00]
                rw [show (0 : Int32) = nI 0 from rfl, p_ageBehind hB hf.2.1 hw hh (by omega), q_jb, a1, q_jb, p_setDebt (by omega) (by omega), q_jb, p_setDebt (by omega) (by omega), q_jb]; rfl
              · show f_X6_trades _ (nI h) (nI w) (nI u) = _
                have r1 := hc1.1
                have g := wg_of hf
                simp only [f_X6_trades, f_X6_trades_j39, f_X6_trades_j79, f_X6_trades_j81]
                rw [if_neg (show ¬ f_X6_isHouse _ (nI h) = 0 by rw [m_isHouse r1 g, if_pos c1]; decide), if_neg (show ¬ f_X6_isWalker _ (nI w) = 0 by rw [m_isWalker r1 g, if_pos c2]; decide), if_neg (show ¬ f_X6_isWalker _ (nI u) = 0 by rw [m_isWalker r1 g, if_pos c3]; decide), if_neg c4, if_pos trivial, idx7, idx7, q_gd (by omega) (by omega), q_cl (by omega), q_cl (by omega), if_neg (show ¬ _ = (0 : Int32) by rw [r1.2.2.2.2.2 w (by omega) h (by omega), show (0 : Int32) = nI 0 from rfl, q_eq (by omega) (by omega)]; exact z), q_gd (by omega) (by omega), if_pos (show _ ≤ (0 : Int32) by rw [r1.2.2.2.2.2 u (by omega) h (by omega), z2]; decide), if_pos n0, d1, q_jb, q_gd (by omega) (by omega), q_gd (by omega) (by omega), q_gd (by omega) (by omega), q_gd (by omega) (by omega), hD]
                rw [show ∀ x y : Int32, ju (ju D 16 9 (7 * u + h) x) 16 9 (7 * w + h) y 16 9 (7 * u + h) = x from fun x y => by rw [ju_o, if_neg (by omega), ju_self]]; rfl
            · refine OK_ref (k := 3) (by omega) hJ ?_ (fun M1 e16 _ => ?_)
              · simp only [f_X5_trades, p_hasW h5, p_hasH h0, c1, c2, c3, if_true, z10, if_false, c4, p_owes hB hf.2.1 (show w < 6 by omega) (show h < 8 by omega), p_owes hB hf.2.1 (show u < 6 by omega) (show h < 8 by omega), q_jb, z, z2]; rfl
              · have r1 := J_R hJ e16
                simp only [f_X6_trades, f_X6_trades_j39, f_X6_trades_j74, f_X6_trades_j81]
                rw [if_neg (show ¬ f_X6_isHouse (ju M1 16 11 0 0) (nI h) = 0 from by rw [m_isHouse (J_R hJ e16) (wg_of hf), if_pos c1]; decide), if_neg (show ¬ f_X6_isWalker (ju M1 16 11 0 0) (nI w) = 0 from by rw [m_isWalker (J_R hJ e16) (wg_of hf), if_pos c2]; decide), if_neg (show ¬ f_X6_isWalker (ju M1 16 11 0 0) (nI u) = 0 from by rw [m_isWalker (J_R hJ e16) (wg_of hf), if_pos c3]; decide), if_neg c4, if_pos trivial, idx7, idx7, q_gd (by omega) (by omega), q_cl (by omega), q_cl (by omega), if_neg (show ¬ ju M1 16 11 0 0 16 9 (7 * w + h) = 0 by rw [r1.2.2.2.2.2 w (by omega) h (by omega), show (0 : Int32) = nI 0 from rfl, q_eq (by omega) (by omega)]; exact z), q_gd (by omega) (by omega), if_neg (show ¬ ju M1 16 11 0 0 16 9 (7 * u + h) ≤ 0 by rw [r1.2.2.2.2.2 u (by omega) h (by omega), show (0 : Int32) = nI 0 from rfl, q_pos (by omega)]; exact z2), if_neg n3]; rfl
      · refine OK_ref (k := 1) (by omega) hJ ?_ (fun M1 e16 _ => ?_)
        · unfold f_X5_trades
          rw [show f_X4_hasHouse M 1 a = nI 1 from by rw [p_hasH h0, if_pos c1], if_neg z10]
          rw [show f_X4_hasWalker M 1 b = nI 1 from by rw [p_hasW h5, if_pos c2], if_neg z10]
          rw [show f_X4_hasWalker M 1 c = nI 0 from by rw [p_hasW h5, if_neg c3], if_pos z00]; rfl
        · simp only [f_X6_trades, f_X6_trades_j38, f_X6_trades_j39, f_X6_trades_j79, f_X6_trades_j81]
          rw [if_neg (show ¬ f_X6_isHouse (ju M1 16 11 0 0) a = 0 from by rw [m_isHouse (J_R hJ e16) (wg_of hf), if_pos c1]; decide), if_neg (show ¬ f_X6_isWalker (ju M1 16 11 0 0) b = 0 from by rw [m_isWalker (J_R hJ e16) (wg_of hf), if_pos c2]; decide), if_pos (show f_X6_isWalker (ju M1 16 11 0 0) c = 0 from by rw [m_isWalker (J_R hJ e16) (wg_of hf), if_neg c3]; rfl), if_neg (by decide), if_neg n1]; rfl
    · refine OK_ref (k := 1) (by omega) hJ ?_ (fun M1 e16 _ => ?_)
      · unfold f_X5_trades
        rw [show f_X4_hasHouse M 1 a = nI 1 from by rw [p_hasH h0, if_pos c1], if_neg z10]
        rw [show f_X4_hasWalker M 1 b = nI 0 from by rw [p_hasW h5, if_neg c2], if_pos z00]; rfl
      · simp only [f_X6_trades, f_X6_trades_j38, f_X6_trades_j39, f_X6_trades_j79, f_X6_trades_j81]
        rw [if_neg (show ¬ f_X6_isHouse (ju M1 16 11 0 0) a = 0 from by rw [m_isHouse (J_R hJ e16) (wg_of hf), if_pos c1]; decide), if_pos (show f_X6_isWalker (ju M1 16 11 0 0) b = 0 from by rw [m_isWalker (J_R hJ e16) (wg_of hf), if_neg c2]; rfl), if_neg (by decide), if_neg n1]; rfl
  · refine OK_ref (k := 1) (by omega) hJ ?_ (fun M1 e16 _ => ?_)
    · unfold f_X5_trades
      rw [show f_X4_hasHouse M 1 a = nI 0 from by rw [p_hasH h0, if_neg c1], if_pos z00]; rfl
    · simp only [f_X6_trades, f_X6_trades_j38, f_X6_trades_j39, f_X6_trades_j79, f_X6_trades_j81]
      rw [if_pos (show f_X6_isHouse (ju M1 16 11 0 0) a = 0 from by rw [m_isHouse (J_R hJ e16) (wg_of hf), if_neg c1]; rfl), if_neg (by decide), if_neg n1]; rfl
end Do
