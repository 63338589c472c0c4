/-! lights, goals, visits, trades, evenings -/
section Do
variable {M M1 M2 : jm} {S : St} {σ : vl}
theorem RW_debt (hR : RW (M 1) σ) {w h d : Nat} (hw : w < 6) (hh : h < 8) : RW (ju M 1 9 (w * 8 + h) (nI d - nI 1) 1) (debt σ w h d) := by
  refine ⟨?_, ?_, ?_⟩
  · rw [ju_f (by omega)]; show _ = nI (debt σ w h d 0 0); rw [debt_lo (by omega)]; exact hR.1
  · rw [ju_f (by omega), debt_lo (by omega)]; exact hR.2.1
  · have : vH (debt σ w h d) = vH σ := debt_lo (by omega)
    rw [this]; exact RB_debt hR.2.2 hw hh
theorem vu_comm {F i x F' i' y : Nat} (h : ¬ (F = F' ∧ i = i')) : vu (vu σ F i x) F' i' y = vu (vu σ F' i' y) F i x := by
  funext a b
  unfold vu
  by_cases e1 : a = F' ∧ b = i'
  · rw [if_pos e1, if_neg (by omega), if_pos e1]
  · rw [if_neg e1]
    by_cases e2 : a = F ∧ b = i
    · rw [if_pos e2, if_pos e2]
    · rw [if_neg e2, if_neg e2, if_neg e1]
/-- the pair of states after a change that is kept -/
theorem OK_do {a : Option (Int32 × jm)} {b : jm → Option (Int32 × jm)} {r : Int32} {B C : jm} {τ : vl} (hJ : JJ M S) (hτ : wf τ) (ha : a = some (r, B)) (hB : RW (B 1) τ) {A : jm} (hA : JC A (push S)) (hBA : ∀ o, o ≠ 1 → B o = A o) (hb : b B = some (r, C)) {D : jm} (hD : JR D (push S)) (hDo : ∀ o, o ≠ 16 → C o = B o) (hC : RM (C 16) τ) (hCD : ∀ f, kp f → C 16 f = D 16 f) : OK a b :=
  ⟨r, B, C, setv (push S) τ, ha, hb, JC_16 hDo (JC_v hB (fun o h1 _ _ _ _ => hBA o h1) hA), JR_v hC hCD hD, wS_v hτ (wS_push hJ.2.2)⟩
theorem ok_lights (hJ : JJ M S) (a : Int32) : OK (f_X5_lights M a) (fun M1 => f_X6_lights M1 a) := by
  obtain ⟨h0, h5, hB⟩ := J_C hJ; have hf := J_f hJ; have hH := hf.1; have hW := hf.2.1.2.1
  by_cases c1 : okv (vH (sv S)) a = true
  · obtain ⟨h, hh, rfl⟩ := okv_ex (by omega) c1
    have hl := (hf.2.1.2.2.1 h hh).2.2.2
    obtain ⟨A, a1, a2, a3, a4⟩ := p_keep hJ.2.2 hJ.1
    obtain ⟨B, b1, b2, b3⟩ := p_turn (M := A) (o := 1) (σ := sv S) (by rw [a3]; exact hJ.1.1) hf (h := h) (by omega)
    rw [if_pos hh] at b1 b3
    have e16 : B 16 = M 16 := by rw [b2 16 (by omega), a4]
    have hc1 := JR_ct e16 hJ.2.1
    obtain ⟨D, d1, d2, d3⟩ := m_keepTurn (M := ju B 16 11 0 0) hJ.2.2 hc1
    have hD4 : D 16 4 h = nI ((sv S) 4 h) := (d2.1.2.2.2.1 h hh).2.2.2
    have es : 1 - nI ((sv S) 4 h) = nI (1 - (sv S) 4 h) := pk_sub (a := 1) (b := (sv S) 4 h) hl
    refine OK_do (r := nI (1 - (sv S) 4 h)) (A := A) (B := B) (C := ju D 16 4 h (nI (1 - (sv S) 4 h))) (D := D) hJ (wf_turn (h := h) hf) ?_ b3 a2 b2 ?_ d2 (fun o ho => by rw [ju_ne ho, d3 o ho, ju_ne ho]) (RM_house d2.1 (by omega)) (fun f hk => by unfold kp at hk; exact ju_f (by omega))
    · unfold f_X5_lights
      rw [show f_X4_hasHouse M 1 (nI h) = nI 1 from by rw [p_hasH h0, if_pos c1], if_neg z10]
      have eN : vH (turnH (sv S) h) = vH (sv S) := by show vu (sv S) 4 h (1 - (sv S) 4 h) 0 0 = _; rw [vu_ne (by omega)]; rfl
      rw [a1, q_jb, b1, q_jb2, p_isLit b3.2.2 (by rw [eN]; exact hh) (by rw [eN]; omega)]
      have e4 : turnH (sv S) h 4 h = 1 - (sv S) 4 h := vu_same
      rw [e4]
      by_cases z : 1 - (sv S) 4 h = 1
      · rw [if_pos z, if_neg z10, z]; rfl
      · rw [if_neg z, if_pos z00, show 1 - (sv S) 4 h = 0 by omega]; rfl
    · show f_X6_lights B (nI h) = _
      unfold f_X6_lights
      rw [show f_X6_isHouse (ju B 16 11 0 0) (nI h) = nI 1 by rw [m_isHouse hc1.1 (wg_of hf), if_pos c1], if_neg z10, d1, q_jb, q_gd (by omega) (by omega), q_gd (by omega) (by omega), q_gd (by omega) (by omega), q_cl (by omega), hD4, es, ju_self]
  · refine OK_ref (k := 1) (by omega) hJ ?_ (fun M1 e16 _ => ?_)
    · unfold f_X5_lights
      rw [show f_X4_hasHouse M 1 a = nI 0 from by rw [p_hasH h0, if_neg c1], if_pos z00]; rfl
    · simp only [f_X6_lights]
      rw [if_pos (show f_X6_isHouse (ju M1 16 11 0 0) a = 0 from by rw [m_isHouse (J_R hJ e16) (wg_of hf), if_neg c1]; rfl)]; rfl
theorem ok_goals (hJ : JJ M S) (a b : Int32) : OK (f_X5_goals M a b) (fun M1 => f_X6_goals M1 a b) := by
  obtain ⟨h0, h5, hB⟩ := J_C hJ; have hf := J_f hJ; have hH := hf.1; have hW := hf.2.1.2.1
  by_cases c1 : okv (vW (sv S)) a = true
  · by_cases c2 : okv 49 b = true
    · obtain ⟨w, hw, rfl⟩ := okv_ex (by omega) c1
      obtain ⟨c, hc, rfl⟩ := okv_ex (by omega) c2
      obtain ⟨A, a1, a2, a3, a4⟩ := p_keep hJ.2.2 hJ.1
      obtain ⟨B, b1, b2, b3⟩ := p_aim (M := A) (o := 1) (σ := sv S) (by rw [a3]; exact hJ.1.1) hf (w := w) (c := c) (by omega) (by omega)
      rw [if_pos (show w < vW (sv S) ∧ c < 49 from ⟨hw, hc⟩)] at b1 b3
      have e16 : B 16 = M 16 := by rw [b2 16 (by omega), a4]
      have hc1 := JR_ct e16 hJ.2.1
      obtain ⟨D, d1, d2, d3⟩ := m_keepTurn (M := ju B 16 11 0 0) hJ.2.2 hc1
      refine OK_do (r := nI ((sv S) 7 w)) (A := A) (B := B) (C := ju D 16 7 w (nI c)) (D := D) hJ (wf_aim (w := w) hf hc) ?_ b3 a2 b2 ?_ d2 (fun o ho => by rw [ju_ne ho, d3 o ho, ju_ne ho]) (RM_goal d2.1) (fun f hk => by unfold kp at hk; exact ju_f (by omega))
      · unfold f_X5_goals
        rw [show f_X4_hasWalker M 1 (nI w) = nI 1 from by rw [p_hasW h5, if_pos c1], if_neg z10]
        rw [p_isCell', if_pos c2, if_neg z10, q_gd (by omega) (by omega), a1, q_jb, b1, q_jb2, q_cl (by omega), (hB.2.2.1 w hw).2.1]
      · show f_X6_goals B (nI w) (nI c) = _
        unfold f_X6_goals
        rw [show f_X6_isWalker (ju B 16 11 0 0) (nI w) = nI 1 by rw [m_isWalker hc1.1 (wg_of hf), if_pos c1], if_neg z10, m_isCell, if_pos c2, if_neg z10, d1, q_jb, q_gd (by omega) (by omega), q_gd (by omega) (by omega), q_cl (by omega), (d2.1.2.2.2.2.1 w hw).2.1]; rfl
    · refine OK_ref (k := 1) (by omega) hJ ?_ (fun M1 e16 _ => ?_)
      · unfold f_X5_goals
        rw [show f_X4_hasWalker M 1 a = nI 1 from by rw [p_hasW h5, if_pos c1], if_neg z10]
        rw [p_isCell', if_neg c2, if_pos z00]; rfl
      · simp only [f_X6_goals]
        rw [if_neg (show ¬ f_X6_isWalker (ju M1 16 11 0 0) a = 0 from by rw [m_isWalker (J_R hJ e16) (wg_of hf), if_pos c1]; decide), m_isCell, if_neg c2, if_pos z00]; rfl
  · refine OK_ref (k := 1) (by omega) hJ ?_ (fun M1 e16 _ => ?_)
    · unfold f_X5_goals
      rw [show f_X4_hasWalker M 1 a = nI 0 from by rw [p_hasW h5, if_neg c1], if_pos z00]; rfl
    · simp only [f_X6_goals]
      rw [if_pos (show f_X6_isWalker (ju M1 16 11 0 0) a = 0 from by rw [m_isWalker (J_R hJ e16) (wg_of hf), if_neg c1]; rfl)]; rfl
theorem ok_evenings (hJ : JJ M S) (a : Int32) : OK (f_X5_evenings M a) (fun M1 => f_X6_evenings M1 a) := by
  obtain ⟨h0, h5, hB⟩ := J_C hJ; have hf := J_f hJ; have hH := hf.1; have hW := hf.2.1.2.1
  have h10 : M 1 10 0 = nI (sv S 10 0) := hJ.1.1.2.1
  have h999 := hf.2.2.2
  by_cases q1 : (1 : Int32) ≤ a
  · by_cases q2 : 60 < a
    · have q3 : ¬ a ≤ 60 := fun z => by rw [Int32.lt_iff_toInt_lt] at q2; rw [Int32.le_iff_toInt_le] at z; omega
      refine OK_ref (k := 6) (by omega) hJ ?_ (fun M1 e16 _ => ?_)
      · unfold f_X5_evenings
        rw [if_pos q1, if_pos q2]; rfl
      · simp only [f_X6_evenings, f_X6_evenings_j34, f_X6_evenings_j35]
        have e : f_X6_wrongNumber a 1 60 = -6 := by unfold f_X6_wrongNumber; rw [if_pos q1, if_neg q3]
        rw [e, if_neg (by decide), if_neg n6]; rfl
    · obtain ⟨n, hn, rfl⟩ := nI_of (x := a) (fun z => by
        rw [Int32.lt_iff_toInt_lt] at z
        rw [Int32.le_iff_toInt_le] at q1
        have e0 : (0 : Int32).toInt = 0 := rfl
        have e1 : (1 : Int32).toInt = 1 := rfl
        omega)
      rw [show (1 : Int32) = nI 1 from rfl, q_le (by omega) hn] at q1
      rw [show (60 : Int32) = nI 60 from rfl, q_lt (by omega) hn] at q2
      have x1 : (1 : Int32) ≤ nI n := by rw [show (1 : Int32) = nI 1 from rfl, q_le (by omega) hn]; exact q1
      have x2 : ¬ 60 < nI n := r_hi' (n := 60) (c := 60) (by omega) (by decide) rfl
      have x3 : nI n ≤ 60 := r_hi (n := 60) (c := 60) (by omega) (by decide) rfl
      have ew : f_X6_wrongNumber (nI n) 1 60 = 0 := by unfold f_X6_wrongNumber; rw [if_pos x1, if_pos x3]
      by_cases q3 : (sv S) 10 0 + n ≤ 999
      · obtain ⟨A, a1, a2, a3, a4⟩ := p_keep hJ.2.2 hJ.1
        obtain ⟨B, b1, b2, b3⟩ := p_pass (M := A) (o := 1) (σ := sv S) (by rw [a3]; exact hJ.1.1) hf (n := n) (by omega)
        rw [if_pos (show 1 ≤ n ∧ n ≤ 60 ∧ (sv S) 10 0 + n ≤ 999 from ⟨q1, by omega, q3⟩)] at b1 b3
        have e16 : B 16 = M 16 := by rw [b2 16 (by omega), a4]
        have hc1 := JR_ct e16 hJ.2.1
        obtain ⟨D, d1, d2, d3⟩ := m_keepTurn (M := ju B 16 11 0 0) hJ.2.2 hc1
        obtain ⟨C, g1, g2, g3⟩ := m_goEvenings d2.1 (wg_of hf) (n := n) (by omega)
        have hfe : wf (evN (sv S) n) := wf_ev hf q3
        refine OK_do (r := nI (debts (evN (sv S) n) 0)) (A := A) (B := B) (C := C) (D := D) hJ hfe ?_ b3 a2 b2 ?_ d2 (fun o ho => by rw [g3.1 o ho, d3 o ho, ju_ne ho]) g2 (fun f hk => by unfold kp at hk; exact g3.2 f (by omega) (by omega) (by omega))
        · unfold f_X5_evenings
          rw [if_pos x1, if_neg x2, h10, nI_add, if_pos (r_hi (c := 999) q3 (by decide) rfl), a1, q_jb, b1, q_jb2, show (0 : Int32) = nI 0 from rfl, p_debtsBehind b3.1 b3.2.2 hfe.2.1 (by omega), q_jb]
        · show f_X6_evenings B (nI n) = _
          unfold f_X6_evenings f_X6_evenings_j34 f_X6_evenings_j35
          have h10' : ju B 16 11 0 0 16 10 0 = nI ((sv S) 10 0) := hc1.1.2.2.1
          rw [ew, if_pos rfl, h10', nI_add, if_pos (r_hi (c := 999) q3 (by decide) rfl), if_pos n0, d1, q_jb, g1, q_jb, m_allDebts g2 (wg_of hfe), q_jb]; rfl
      · have x4 : ¬ nI ((sv S) 10 0 + n) ≤ 999 := by rw [show (999 : Int32) = nI 999 from rfl, q_le (by omega) (by omega)]; exact q3
        refine OK_ref (k := 6) (by omega) hJ ?_ (fun M1 e16 _ => ?_)
        · unfold f_X5_evenings
          rw [if_pos x1, if_neg x2, h10, nI_add, if_neg x4]; rfl
        · simp only [f_X6_evenings, f_X6_evenings_j34, f_X6_evenings_j35]
          have h10' : ju M1 16 11 0 0 16 10 0 = nI ((sv S) 10 0) := (JR_ct e16 hJ.2.1).1.2.2.1
          rw [ew, if_pos rfl, h10', nI_add, if_neg x4, if_neg n6]; rfl
  · refine OK_ref (k := 4) (by omega) hJ ?_ (fun M1 e16 _ => ?_)
    · unfold f_X5_evenings
      rw [if_neg q1]; rfl
    · simp only [f_X6_evenings, f_X6_evenings_j34, f_X6_evenings_j35]
      have e : f_X6_wrongNumber a 1 60 = -4 := by unfold f_X6_wrongNumber; rw [if_neg q1]
      rw [e, if_neg (by decide), if_neg n4]; rfl
end Do
