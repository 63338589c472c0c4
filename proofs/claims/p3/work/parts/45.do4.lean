section Do
variable {M M1 M2 : jm} {S : St} {σ : vl}
theorem OK_new {a : Option (Int32 × jm)} {b : jm → Option (Int32 × jm)} {r : Int32} {B C : jm} {τ : vl} (hJ : JJ M S) (hτ : wf τ) (ha : a = some (r, ju B 12 2 0 (nI 0))) (hB : RW (B 1) τ) (hBM : ∀ o, o ≠ 1 → B o = M o) (hb : b (ju B 12 2 0 (nI 0)) = some (r, ju C 16 29 0 (nI 0))) (hC : RM (C 16) τ) (hCo : ∀ o, o ≠ 16 → C o = ju B 12 2 0 (nI 0) o) (hCk : ∀ f, 11 < f → C 16 f = M 16 f) : OK a b :=
  ⟨r, _, _, setn (setv S τ) 0 0, ha, hb, JC_16 (fun o ho => by rw [ju_ne ho, hCo o ho]) (JC_0 (x := 0) (Nat.zero_le _) (JC_v hB (fun o h1 _ _ _ _ => hBM o h1) hJ.1) rfl), JR_0 (JR_v hC (fun f hf => by unfold kp at hf; exact hCk f (by omega)) hJ.2.1), wS_0 (wS_v hτ hJ.2.2)⟩
theorem i_ge (v : Int32) {n : Nat} (hn : n < 2 ^ 30) {c d : Int32} (hc : c = nI n) (hd : d = nI (n + 1)) : c < v ↔ d ≤ v := by
  subst hc hd
  rw [Int32.lt_iff_toInt_lt, Int32.le_iff_toInt_le, nI_toInt (by omega), nI_toInt (by omega)]; omega
theorem ok_house (hJ : JJ M S) (a b c : Int32) : OK (f_X5_house M a b c) (fun M1 => f_X6_house M1 a b c) := by
  obtain ⟨h0, h5, hB⟩ := J_C hJ; have hf := J_f hJ; have hH := hf.1; have hW := hf.2.1.2.1
  by_cases c1 : okv 6 a = true
  · obtain ⟨k, hk, rfl⟩ := okv_ex (by omega) c1
    have y1 : ¬ nI k < (0 : Int32) := r_lo' (by omega)
    have y2 : nI k < (6 : Int32) := by rw [show (6 : Int32) = nI 6 from rfl, q_lt (by omega) (by omega)]; exact hk
    have y3 : f_X6_in (nI k).toInt64 0 5 = nI 1 := by rw [m_inL (nI k) 5 6 (by decide) (by decide), if_pos c1]
    rcases rng b 9 (by decide) (show (9 : Int32) = nI 9 from rfl) with ⟨q1, q2⟩ | ⟨q1, q2, q3, q4⟩ | ⟨f, hf9, rfl⟩
    · refine OK_ref (k := 4) (by omega) hJ ?_ (fun M1 e16 _ => ?_)
      · unfold f_X5_house
        rw [if_neg y1, if_pos y2, if_neg q2]; rfl
      · simp only [f_X6_house, f_X6_house_j29, f_X6_house_j50, f_X6_house_j52, f_X6_house_j70, f_X6_house_j72]
        rw [y3, if_neg z10, wn_lo q2, if_neg (by decide), if_neg (by decide), if_neg n4]; rfl
    · refine OK_ref (k := 6) (by omega) hJ ?_ (fun M1 e16 _ => ?_)
      · unfold f_X5_house
        rw [if_neg y1, if_pos y2, if_pos q1, if_pos ((i_ge b (n := 9) (by omega) (c := 9) (d := 10) rfl rfl).mp q3)]; rfl
      · simp only [f_X6_house, f_X6_house_j29, f_X6_house_j50, f_X6_house_j52, f_X6_house_j70, f_X6_house_j72]
        rw [y3, if_neg z10, wn_hi q1 q4, if_neg (by decide), if_neg (by decide), if_neg n6]; rfl
    · have y4 : (0 : Int32) ≤ nI f := r_lo (by omega)
      have y5 : ¬ (10 : Int32) ≤ nI f := by rw [show (10 : Int32) = nI 10 from rfl, q_le (by omega) (by omega)]; omega
      have y6 : f_X6_wrongNumber (nI f) 0 9 = 0 := wn_ok (c := 9) hf9 (by decide) rfl
      by_cases q : vH (sv S) < 7
      · have y7 : M 1 0 0 < 7 := by rw [h0, show (7 : Int32) = nI 7 from rfl, q_lt (by omega) (by omega)]; exact q
        by_cases c3 : okv 49 c = true
        · obtain ⟨g, hg, rfl⟩ := okv_ex (by omega) c3
          obtain ⟨B, b1, b2, b3⟩ := p_addHouse (M := M) (o := 1) hJ.1.1 hf (k := k) (f := f) (c := g) (by omega) (by omega) (by omega)
          have qq : k < 6 ∧ f < 10 ∧ g < 49 ∧ vH (sv S) < 7 := ⟨hk, by omega, hg, q⟩
          rw [if_pos qq] at b1 b3
          have e16 : ju B 12 2 0 (nI 0) 16 = M 16 := by rw [ju_ne (by omega), b2 16 (by omega)]
          have r1 := J_R hJ e16
          obtain ⟨C, g1, g2, g3, g4⟩ := m_houseComes r1 (wg_of hf) (k := k) (f := f) (c := g) (by omega) (by omega)
          have qq2 : k < 6 ∧ g < 49 ∧ vH (sv S) < 7 := ⟨hk, hg, q⟩
          rw [if_pos qq2] at g1 g4
          have es : nI (vH (sv S) + 1) - 1 = nI (vH (sv S)) := pk_sub (a := vH (sv S) + 1) (b := 1) (by omega)
          refine OK_new (r := nI (vH (sv S))) hJ (wf_addH hf q hk (by omega) hg) ?_ b3 b2 ?_ g4 (fun o ho => by rw [g2 o ho, ju_ne ho]) (fun F hF => by rw [g3 F (by omega), ju_f (by omega), e16])
          · unfold f_X5_house f_X0_forget
            rw [if_neg y1, if_pos y2, if_pos y4, if_neg y5, if_pos y7, p_isCell', if_pos c3, if_neg z10, b1, q_jb2, q_jb, ju_ne (show (1 : Nat) ≠ 12 by omega), b3.1, addH_H, es]; rfl
          · show f_X6_house (ju B 12 2 0 (nI 0)) (nI k) (nI f) (nI g) = _
            simp only [f_X6_house, f_X6_house_j29, f_X6_house_j50, f_X6_house_j52, f_X6_house_j70, f_X6_house_j72]
            rw [y3, if_neg z10, y6, if_pos rfl, if_neg (show ¬ ju (ju B 12 2 0 (nI 0)) 16 11 0 0 16 0 0 = 7 by rw [r1.1, show (7 : Int32) = nI 7 from rfl, q_eq (by omega) (by omega)]; omega), if_pos rfl, m_isCell, if_pos c3, if_neg z10, if_pos n0, g1, q_jb2, ju_g (show (0 : Nat) ≠ 29 by omega), g4.1, addH_H, es]; rfl
        · refine OK_ref (k := 1) (by omega) hJ ?_ (fun M1 e16 _ => ?_)
          · unfold f_X5_house
            rw [if_neg y1, if_pos y2, if_pos y4, if_neg y5, if_pos y7, p_isCell', if_neg c3, if_pos z00]; rfl
          · have r1 := J_R hJ e16
            simp only [f_X6_house, f_X6_house_j29, f_X6_house_j50, f_X6_house_j52, f_X6_house_j70, f_X6_house_j72]
            rw [y3, if_neg z10, y6, if_pos rfl, if_neg (show ¬ ju M1 16 11 0 0 16 0 0 = 7 by rw [r1.1, show (7 : Int32) = nI 7 from rfl, q_eq (by omega) (by omega)]; omega), if_pos rfl, m_isCell, if_neg c3, if_pos z00, if_neg n1]; rfl
      · refine OK_ref (k := 6) (by omega) hJ ?_ (fun M1 e16 _ => ?_)
        · unfold f_X5_house
          rw [if_neg y1, if_pos y2, if_pos y4, if_neg y5, if_neg (by rw [h0, show (7 : Int32) = nI 7 from rfl, q_lt (by omega) (by omega)]; exact q)]; rfl
        · have r1 := J_R hJ e16
          simp only [f_X6_house, f_X6_house_j29, f_X6_house_j50, f_X6_house_j52, f_X6_house_j70, f_X6_house_j72]
          rw [y3, if_neg z10, y6, if_pos rfl, if_pos (show ju M1 16 11 0 0 16 0 0 = 7 by rw [r1.1, show vH (sv S) = 7 by omega]; rfl), if_neg (by decide), if_neg n6]; rfl
  · refine OK_ref (k := 2) (by omega) hJ ?_ (fun M1 e16 _ => ?_)
    · unfold f_X5_house
      by_cases y1 : a < 0
      · rw [if_pos y1]; rfl
      · rw [if_neg y1, if_neg (show ¬ a < (6 : Int32) from fun z => c1 (okv_iff.mpr ⟨by
          rw [show nI 0 = (0 : Int32) from rfl, Int32.le_iff_toInt_le]
          rw [Int32.lt_iff_toInt_lt] at y1
          omega, z⟩))]; rfl
    · simp only [f_X6_house, f_X6_house_j29, f_X6_house_j50, f_X6_house_j52, f_X6_house_j70, f_X6_house_j72]
      rw [m_inL a 5 6 (by decide) (by decide), if_neg c1, if_pos z00, if_neg (by decide), if_neg (by decide), if_neg n2]; rfl
theorem ok_walker (hJ : JJ M S) (a b c : Int32) : OK (f_X5_walker M a b c) (fun M1 => f_X6_walker M1 a b c) := by
  obtain ⟨h0, h5, hB⟩ := J_C hJ; have hf := J_f hJ; have hH := hf.1; have hW := hf.2.1.2.1
  by_cases c1 : okv 49 a = true
  · by_cases c2 : okv 49 b = true
    · rcases rng c 2 (by decide) (show (2 : Int32) = nI 2 from rfl) with ⟨q1, q2⟩ | ⟨q1, q2, q3, q4⟩ | ⟨s, hs, rfl⟩
      · refine OK_ref (k := 4) (by omega) hJ ?_ (fun M1 e16 _ => ?_)
        · unfold f_X5_walker
          rw [p_isCell', if_pos c1, if_neg z10, p_isCell', if_pos c2, if_neg z10, if_neg q2]; rfl
        · simp only [f_X6_walker, f_X6_walker_j28, f_X6_walker_j29, f_X6_walker_j50, f_X6_walker_j52]
          rw [m_isCell, if_pos c1, if_neg z10, m_isCell, if_pos c2, if_neg z10, wn_lo q2, if_neg (by decide), if_neg n4]; rfl
      · refine OK_ref (k := 6) (by omega) hJ ?_ (fun M1 e16 _ => ?_)
        · unfold f_X5_walker
          rw [p_isCell', if_pos c1, if_neg z10, p_isCell', if_pos c2, if_neg z10, if_pos q1, if_pos q3]; rfl
        · simp only [f_X6_walker, f_X6_walker_j28, f_X6_walker_j29, f_X6_walker_j50, f_X6_walker_j52]
          rw [m_isCell, if_pos c1, if_neg z10, m_isCell, if_pos c2, if_neg z10, wn_hi q1 q4, if_neg (by decide), if_neg n6]; rfl
      · have y4 : (0 : Int32) ≤ nI s := r_lo (by omega)
        have y5 : ¬ (2 : Int32) < nI s := r_hi' (c := 2) hs (by decide) rfl
        have y6 : f_X6_wrongNumber (nI s) 0 2 = 0 := wn_ok (c := 2) hs (by decide) rfl
        by_cases q : vW (sv S) < 6
        · obtain ⟨x, hx, rfl⟩ := okv_ex (by omega) c1
          obtain ⟨g, hg, rfl⟩ := okv_ex (by omega) c2
          have y7 : M 1 5 0 < 6 := by rw [h5, show (6 : Int32) = nI 6 from rfl, q_lt (by omega) (by omega)]; exact q
          obtain ⟨B, b1, b2, b3⟩ := p_addWalker (M := M) (o := 1) hJ.1.1 hf (a := x) (g := g) (s := s) (by omega) (by omega) (by omega)
          have qq : x < 49 ∧ g < 49 ∧ s ≤ 2 ∧ vW (sv S) < 6 := ⟨hx, hg, hs, q⟩
          rw [if_pos qq] at b1 b3
          have e16 : ju B 12 2 0 (nI 0) 16 = M 16 := by rw [ju_ne (by omega), b2 16 (by omega)]
          have r1 := J_R hJ e16
          obtain ⟨C, g1, g2, g3, g4⟩ := m_walkerComes r1 (wg_of hf) (a := x) (g := g) (s := s) (by omega) (by omega) (by omega)
          rw [if_pos qq] at g1 g4
          have es : nI (vW (sv S) + 1) - 1 = nI (vW (sv S)) := pk_sub (a := vW (sv S) + 1) (b := 1) (by omega)
          refine OK_new (r := nI (vW (sv S))) hJ (wf_addW hf q hx hg hs) ?_ b3 b2 ?_ g4 (fun o ho => by rw [g2 o ho, ju_ne ho]) (fun F hF => by rw [g3 F (by omega), ju_f (by omega), e16])
          · unfold f_X5_walker f_X0_forget
            rw [p_isCell', if_pos c1, if_neg z10, p_isCell', if_pos c2, if_neg z10, if_pos y4, if_neg y5, if_pos y7, b1, q_jb2, q_jb, ju_ne (show (1 : Nat) ≠ 12 by omega), b3.2.2.1, addW_W, es]; rfl
          · show f_X6_walker (ju B 12 2 0 (nI 0)) (nI x) (nI g) (nI s) = _
            simp only [f_X6_walker, f_X6_walker_j28, f_X6_walker_j29, f_X6_walker_j50, f_X6_walker_j52]
            rw [m_isCell, if_pos c1, if_neg z10, m_isCell, if_pos c2, if_neg z10, y6, if_pos rfl, if_neg (show ¬ ju (ju B 12 2 0 (nI 0)) 16 11 0 0 16 5 0 = 6 by rw [r1.2.1, show (6 : Int32) = nI 6 from rfl, q_eq (by omega) (by omega)]; omega), if_pos n0, g1, q_jb2, ju_g (show (5 : Nat) ≠ 29 by omega), g4.2.1, addW_W, es]; rfl
        · refine OK_ref (k := 6) (by omega) hJ ?_ (fun M1 e16 _ => ?_)
          · unfold f_X5_walker
            rw [p_isCell', if_pos c1, if_neg z10, p_isCell', if_pos c2, if_neg z10, if_pos y4, if_neg y5, if_neg (by rw [h5, show (6 : Int32) = nI 6 from rfl, q_lt (by omega) (by omega)]; exact q)]; rfl
          · have r1 := J_R hJ e16
            simp only [f_X6_walker, f_X6_walker_j28, f_X6_walker_j29, f_X6_walker_j50, f_X6_walker_j52]
            rw [m_isCell, if_pos c1, if_neg z10, m_isCell, if_pos c2, if_neg z10, y6, if_pos rfl, if_pos (show ju M1 16 11 0 0 16 5 0 = 6 by rw [r1.2.1, show vW (sv S) = 6 by omega]; rfl), if_neg n6]; rfl
    · refine OK_ref (k := 1) (by omega) hJ ?_ (fun M1 e16 _ => ?_)
      · unfold f_X5_walker
        rw [p_isCell', if_pos c1, if_neg z10, p_isCell', if_neg c2, if_pos z00]; rfl
      · simp only [f_X6_walker, f_X6_walker_j28, f_X6_walker_j29, f_X6_walker_j50, f_X6_walker_j52]
        rw [m_isCell, if_pos c1, if_neg z10, m_isCell, if_neg c2, if_pos z00, if_neg (by decide), if_neg n1]; rfl
  · refine OK_ref (k := 1) (by omega) hJ ?_ (fun M1 e16 _ => ?_)
    · unfold f_X5_walker
      rw [p_isCell', if_neg c1, if_pos z00]; rfl
    · simp only [f_X6_walker, f_X6_walker_j28, f_X6_walker_j29, f_X6_walker_j50, f_X6_walker_j52]
      rw [m_isCell, if_neg c1, if_pos z00, if_neg (by decide), if_neg n1]; rfl
end Do
