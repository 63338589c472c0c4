/-! trade -/
section Asks
variable {M : jm} {S : St} {σ : vl}
theorem RW_debtO {o : Nat} (hR : RW (M o) σ) {w h d : Nat} (hw : w < 6) (hh : h < 8) : RW (ju M o 9 (w * 8 + h) (nI d - nI 1) o) (debt σ w h d) := by
  refine ⟨?_, ?_, ?_⟩
  · rw [ju_f (by omega)]; show _ = nI (debt σ w h d 0 0); rw [debt_lo (by omega)]; exact hR.1
  · rw [ju_f (by omega), debt_lo (by omega)]; exact hR.2.1
  · have : vH (debt σ w h d) = vH σ := debt_lo (by omega)
    rw [this]; exact RB_debt hR.2.2 hw hh
def swp (σ : vl) (w h o : Nat) : vl := debt (debt σ w h 0) o h (σ (20 + w) h)
def trf (σ : vl) (w h o : Nat) (a : Int32 × Int32) : Int32 × Int32 := if σ (20 + o) h = 0 then lsf (fun o => burden (swp σ w h o)) o a else a
theorem wf_swp (hf : wf σ) {w h o : Nat} (hw : w < vW σ) (hh : h < vH σ) (ho : o < vW σ) : wf (swp σ w h o) := by
  have h1 : wf (debt σ w h 0) := wf_debt hf hw hh (by omega)
  have eW : vW (debt σ w h 0) = vW σ := debt_lo (by omega)
  have eH : vH (debt σ w h 0) = vH σ := debt_lo (by omega)
  exact wf_debt h1 (by rw [eW]; exact ho) (by rw [eH]; exact hh) (hf.2.1.2.2.2.2 w h)
theorem x_trade (hJ : JJ M S) {w h : Nat} (hw : w < vW (sv S)) (hh : h < vH (sv S)) (hd : (sv S) (20 + w) h ≠ 0) : ∃ A, f_X5_trade_l62 (nI w) (nI h) 10000 M (-9) (nI (burden (sv S))) 0 = some ((ff (trf (sv S) w h) (vW (sv S)) 0 (-nI 9, nI (burden (sv S)))).1, A) ∧ frC M A := by
  obtain ⟨h0, h5, hB⟩ := J_C hJ; have hf := J_f hJ; have hH := hf.1; have hW := hf.2.1.2.1
  refine loopE (L := fun k (a : jm × Int32 × Int32) i => f_X5_trade_l62 (nI w) (nI h) k a.1 a.2.1 a.2.2 i) (P := fun i a => (∀ o, o ≠ 2 → a.1 o = M o) ∧ a.2 = ff (trf (sv S) w h) i 0 (-nI 9, nI (burden (sv S)))) (Z := fun r => ∃ A, r = some ((ff (trf (sv S) w h) (vW (sv S)) 0 (-nI 9, nI (burden (sv S)))).1, A) ∧ frC M A) (n := vW (sv S)) ?_ ?_ (vW (sv S)) 0 10000 (M, -9, nI (burden (sv S))) (by omega) (by omega) ⟨fun _ _ => rfl, rfl⟩
  · rintro k ⟨A, v⟩ i hi ⟨p1, p2⟩
    simp only at p1 p2
    subst p2
    have e1 : A 1 = M 1 := p1 1 (by omega)
    have eo : f_X4_owes A 1 (nI i) (nI h) = some (if (sv S) (20 + i) h = 0 then nI 0 else nI 1) := p_owes (σ := sv S) (N := vH (sv S)) (by rw [e1]; exact hB) hf.2.1 (by omega) (by omega)
    by_cases z : (sv S) (20 + i) h = 0
    · obtain ⟨B, b1, b2, b3⟩ := p_becomeRW (M := A) (o := 2) (o1 := 1) (σ := sv S) (by omega) (by rw [e1]; exact hJ.1.1)
      have r1 : RW (ju B 2 9 (w * 8 + h) (nI 0 - nI 1) 2) (debt (sv S) w h 0) := RW_debtO b3 (by omega) (by omega)
      have r2 : RW (ju (ju B 2 9 (w * 8 + h) (nI 0 - nI 1)) 2 9 (i * 8 + h) (nI ((sv S) (20 + w) h) - nI 1) 2) (swp (sv S) w h i) := RW_debtO r1 (by omega) (by omega)
      have hfs := wf_swp hf hw hh hi
      refine ⟨(ju (ju B 2 9 (w * 8 + h) (nI 0 - nI 1)) 2 9 (i * 8 + h) (nI ((sv S) (20 + w) h) - nI 1), ff (trf (sv S) w h) (i + 1) 0 (-nI 9, nI (burden (sv S)))), ?_, fun o ho => by show ju (ju B 2 9 (w * 8 + h) (nI 0 - nI 1)) 2 9 (i * 8 + h) (nI ((sv S) (20 + w) h) - nI 1) o = M o; rw [ju_ne ho, ju_ne ho, b2 o ho, p1 o ho], rfl⟩
      have eB : ju B 2 9 (w * 8 + h) (nI 0 - nI 1) 1 = M 1 := by rw [ju_ne (by omega), b2 1 (by omega), e1]
      simp only [f_X5_trade_l62]
      rw [if_neg (by rw [e1, h5, q_le (by omega) (by omega)]; omega), eo, q_jb, if_pos z, if_pos z00, b1, q_jb, p_setDebt (by omega) (by omega), q_jb, show (-1 : Int32) = nI 0 - nI 1 from rfl, show (0 : Int32) = nI 0 from rfl, p_ageBehind (σ := sv S) (N := vH (sv S)) (by rw [eB]; exact hB) hf.2.1 hw hh (by omega), q_jb, p_setDebt (by omega) (by omega), q_jb]
      have eburd := p_burden (M := ju (ju B 2 9 (w * 8 + h) (nI 0 - nI 1)) 2 9 (i * 8 + h) (nI (dk (sv S) w h 0) - nI 1)) (o := 2) r2.1 r2.2.2 hfs.2.1
      rw [eburd, q_jb, show nI i + 1 = nI (i + 1) from nI_add i 1, ff_succ, Nat.zero_add]
      unfold trf
      rw [if_pos z]
      unfold lsf
      split <;> rfl
    · refine ⟨(A, ff (trf (sv S) w h) (i + 1) 0 (-nI 9, nI (burden (sv S)))), ?_, p1, rfl⟩
      simp only [f_X5_trade_l62]
      rw [if_neg (by rw [e1, h5, q_le (by omega) (by omega)]; omega), eo, q_jb, if_neg z, if_neg z10, show nI i + 1 = nI (i + 1) from nI_add i 1, ff_succ, Nat.zero_add]
      have ek : ∀ a, trf (sv S) w h i a = a := fun a => by unfold trf; rw [if_neg z]
      rw [ek]
  · rintro k ⟨A, v⟩ ⟨p1, p2⟩
    simp only at p1 p2
    subst p2
    refine ⟨A, ?_, fun o h1 _ _ => p1 o h1⟩
    simp only [f_X5_trade_l62]
    rw [if_pos (by rw [p1 1 (by omega), h5, q_le (by omega) (by omega)]; omega)]
theorem mq_trade {N : jm} (hc1 : RM (N 16) σ) (hf : wf σ) {w h : Nat} (hw : w < vW σ) (hh : h < vH σ) (hd : σ (20 + w) h ≠ 0) : ∃ M2, f_X6_trade_j36 N (nI w) (nI h) 0 = some ((ff (trf σ w h) (vW σ) 0 (-nI 9, nI (burden σ))).1, M2) ∧ RM (M2 16) σ ∧ frT N M2 := by
  have hH := hf.1; have hW := hf.2.1.2.1
  have hg := wg_of hf
  obtain ⟨M1, e1, r1, k1, f1⟩ := m_think hc1
  unfold f_X6_trade_j36
  rw [if_pos n0, m_heavy hc1 hg, q_jb, e1, q_jb]
  refine loopE (L := fun k (a : jm × Int32 × Int32) i => f_X6_trade_l64 (nI w) (nI h) k a.1 a.2.1 a.2.2 i) (P := fun i a => RM (a.1 16) σ ∧ KM (a.1 16 21) σ ∧ frT N a.1 ∧ a.2 = ff (trf σ w h) i 0 (-nI 9, nI (burden σ))) (Z := fun r => ∃ A, r = some ((ff (trf σ w h) (vW σ) 0 (-nI 9, nI (burden σ))).1, A) ∧ RM (A 16) σ ∧ frT N A) (n := vW σ) ?_ ?_ (vW σ) 0 10000 (M1, -9, nI (burden σ)) (by omega) (by omega) ⟨r1, k1, f1, rfl⟩
  · rintro k ⟨A, v⟩ i hi ⟨p1, p2, p3, p4⟩
    simp only at p1 p2 p3 p4
    subst p4
    have v1 : A 16 9 (7 * i + h) = nI (σ (20 + i) h) := p1.2.2.2.2.2 i (by omega) h (by omega)
    have v2 : A 16 9 (7 * w + h) = nI (σ (20 + w) h) := p1.2.2.2.2.2 w (by omega) h (by omega)
    have hdi := hf.2.1.2.2.2.2 i h
    by_cases z : σ (20 + i) h = 0
    · have hwi : ¬ i = w := fun q => hd (by rw [← q]; exact z)
      have hfs := wf_swp hf hw hh hi
      have ev : debt (debt σ i h (σ (20 + w) h)) w h 0 = swp σ w h i := by
        show vu (vu σ (20 + i) h _) (20 + w) h 0 = vu (vu σ (20 + w) h 0) (20 + i) h _
        rw [vu_comm (by omega)]
      have rd := RM_debt (RM_debt p1 (w := i) (h := h) (d := σ (20 + w) h) (by omega)) (w := w) (h := h) (d := 0) (by omega)
      rw [ev] at rd
      have kB : KM (ju (ju A 16 9 (7 * i + h) (nI (σ (20 + w) h))) 16 9 (7 * w + h) (nI 0) 16 21) σ := by rw [ju_f (by omega), ju_f (by omega)]; exact p2
      obtain ⟨C, c1, c2, c3⟩ := m_again kB hg
      refine ⟨(C, ff (trf σ w h) (i + 1) 0 (-nI 9, nI (burden σ))), ?_, c2, by show KM (C 16 21) σ; rw [frA_21 c3]; exact kB, frT_trans p3 (frT_of (frA_trans (frA_trans (frA_ju (by omega)) (frA_ju (by omega))) c3)), rfl⟩
      simp only [f_X6_trade_l64, f_X6_trade_j147]
      rw [if_neg (by rw [p1.2.1, q_le (by omega) (by omega)]; omega), idx7, idx7, q_gd (by omega) (by omega), q_cl (by omega), q_cl (by omega), if_pos (show A 16 9 (7 * i + h) = 0 by rw [v1, z]; rfl), q_gd (by omega) (by omega), q_gd (by omega) (by omega), q_gd (by omega) (by omega), v2, show (0 : Int32) = nI 0 from rfl, m_heavy rd (wg_of hfs), q_jb, c1, q_jb, show nI i + 1 = nI (i + 1) from nI_add i 1, ff_succ, Nat.zero_add]
      unfold trf
      rw [if_pos z]
      unfold lsf
      split
      · rfl
      · rfl
    · refine ⟨(A, ff (trf σ w h) (i + 1) 0 (-nI 9, nI (burden σ))), ?_, p1, p2, p3, rfl⟩
      simp only [f_X6_trade_l64]
      rw [if_neg (by rw [p1.2.1, q_le (by omega) (by omega)]; omega), idx7, q_gd (by omega) (by omega), q_cl (by omega), if_neg (show ¬ A 16 9 (7 * i + h) = 0 by rw [v1, show (0 : Int32) = nI 0 from rfl, q_eq (by omega) (by omega)]; exact z), show nI i + 1 = nI (i + 1) from nI_add i 1, ff_succ, Nat.zero_add]
      have ek : ∀ a, trf σ w h i a = a := fun a => by unfold trf; rw [if_neg z]
      rw [ek]
  · rintro k ⟨A, v⟩ ⟨p1, p2, p3, p4⟩
    simp only at p1 p2 p3 p4
    subst p4
    refine ⟨A, ?_, p1, p3⟩
    simp only [f_X6_trade_l64]
    rw [if_pos (by rw [p1.2.1, q_le (by omega) (by omega)]; omega)]
theorem ok_trade (hJ : JJ M S) (a b : Int32) : OK (f_X5_trade M a b) (fun M1 => f_X6_trade M1 a b) := by
  obtain ⟨h0, h5, hB⟩ := J_C hJ; have hf := J_f hJ; have hH := hf.1; have hW := hf.2.1.2.1
  by_cases c1 : okv (vW (sv S)) a = true
  · by_cases c2 : okv (vH (sv S)) b = true
    · obtain ⟨w, hw, rfl⟩ := okv_ex (by omega) c1
      obtain ⟨h, hh, rfl⟩ := okv_ex (by omega) c2
      have hd := hf.2.1.2.2.2.2 w h
      by_cases z : (sv S) (20 + w) h = 0
      · refine OK_ref (k := 3) (by omega) hJ ?_ (fun M1 e16 _ => ?_)
        · simp only [f_X5_trade, p_hasW h5, p_hasH h0, c1, c2, if_true, z10, if_false, p_owes hB hf.2.1 (show w < 6 by omega) (show h < 8 by omega), q_jb, z, z00]; rfl
        · have r1 := J_R hJ e16
          simp only [f_X6_trade, f_X6_trade_j36]
          rw [m_wbOK r1 (wg_of hf) hw hh, if_pos z00, idx7, q_gd (by omega) (by omega), q_cl (by omega), if_pos (show ju M1 16 11 0 0 16 9 (7 * w + h) = 0 by rw [r1.2.2.2.2.2 w (by omega) h (by omega), z]; rfl), if_neg n3]; rfl
      · obtain ⟨A, a1, a2⟩ := x_trade hJ hw hh z
        refine OK_q hJ (M1 := A) (r := (ff (trf (sv S) w h) (vW (sv S)) 0 (-nI 9, nI (burden (sv S)))).1) ?_ a2 (fun hR hg => ?_)
        · simp only [f_X5_trade, p_hasW h5, p_hasH h0, c1, c2, if_true, z10, if_false, p_owes hB hf.2.1 (show w < 6 by omega) (show h < 8 by omega), q_jb, z]
          rw [p_burden h0 hB hf.2.1, q_jb]; exact a1
        · show ∃ M2, f_X6_trade A (nI w) (nI h) = _ ∧ _
          unfold f_X6_trade f_X6_trade_j35
          have hc1 : RM ((ju A 16 11 0 0) 16) (sv S) := RM_ct hR
          have hc2 : frK A (ju A 16 11 0 0) := frK_ct A
          generalize ju A 16 11 0 0 = N at hc1 hc2 ⊢
          obtain ⟨C, g1, g2, g3⟩ := mq_trade hc1 hf hw hh z
          refine ⟨C, ?_, g2, frK_trans hc2 (frK_of g3)⟩
          rw [m_wbOK hc1 hg hw hh, if_pos z00, idx7, q_gd (by omega) (by omega), q_cl (by omega), if_neg (show ¬ N 16 9 (7 * w + h) = 0 by rw [hc1.2.2.2.2.2 w (by omega) h (by omega), show (0 : Int32) = nI 0 from rfl, q_eq (by omega) (by omega)]; exact z)]
          exact g1
    · refine OK_ref (k := 1) (by omega) hJ ?_ (fun M1 e16 _ => ?_)
      · unfold f_X5_trade
        rw [show f_X4_hasWalker M 1 a = nI 1 from by rw [p_hasW h5, if_pos c1], if_neg z10]
        rw [show f_X4_hasHouse M 1 b = nI 0 from by rw [p_hasH h0, if_neg c2], if_pos z00]; rfl
      · simp only [f_X6_trade, f_X6_trade_j35, f_X6_trade_j36]
        rw [m_wb2 (J_R hJ e16) (wg_of hf) c2, if_neg (by decide), if_neg n1]; rfl
  · refine OK_ref (k := 1) (by omega) hJ ?_ (fun M1 e16 _ => ?_)
    · unfold f_X5_trade
      rw [show f_X4_hasWalker M 1 a = nI 0 from by rw [p_hasW h5, if_neg c1], if_pos z00]; rfl
    · simp only [f_X6_trade, f_X6_trade_j35, f_X6_trade_j36]
      rw [m_wb1 (J_R hJ e16) (wg_of hf) c1, if_neg (by decide), if_neg n1]; rfl
end Asks
