/-! feed, row, empties, judge, count, image, restore -/
section Asks
variable {M M1 M2 : jm} {S : St} {σ : vl}
theorem JR_ct (e : M1 16 = M 16) (hJ : JR M S) : JR (ju M1 16 11 0 0) S := by
  have h1 := JR_fr e hJ
  exact JR_sc (RM_ct h1.1) (fun f hf => by unfold kp at hf; exact ju_f (by omega)) h1
theorem JC_16 (h : ∀ o, o ≠ 16 → M2 o = M1 o) (hJ : JC M1 S) : JC M2 S := JC_fr (fun o a _ _ _ => h o a) hJ
theorem ok_feed (hJ : JJ M S) (a : Int32) : OK (f_X5_feed M a) (fun M1 => f_X6_feed M1 a) := by
  obtain ⟨jc, jr, jw⟩ := hJ
  have hl := jw.2.2.2.2.2.1
  have c6 : M 13 1 0 = nI (sln S) := jc.2.2.2.2.2.1
  have r6 : ∀ M1, M1 16 = M 16 → ju M1 16 11 0 0 16 14 0 = nI (sln S) := fun M1 e => (JR_ct e jr).2.2.2.2.2.1
  rcases rng a 255 (by decide) (show (255 : Int32) = nI 255 from rfl) with ⟨q1, q2⟩ | ⟨q1, q2, q3, q4⟩ | ⟨n, hn, rfl⟩
  · refine OK_ref (k := 4) (by omega) ⟨jc, jr, jw⟩ ?_ (fun M1 e16 _ => ?_)
    · unfold f_X5_feed
      rw [if_neg q2]; rfl
    · simp only [f_X6_feed]
      rw [if_neg q2]; rfl
  · refine OK_ref (k := 6) (by omega) ⟨jc, jr, jw⟩ ?_ (fun M1 e16 _ => ?_)
    · unfold f_X5_feed
      rw [if_pos q1, if_pos q3]; rfl
    · simp only [f_X6_feed]
      rw [if_pos q1, if_pos q3]; rfl
  · by_cases hx : sln S < 96
    · have ea : f_X1_areFull M = nI 0 := by
        unfold f_X1_areFull
        rw [c6, if_pos (by rw [show (96 : Int32) = nI 96 from rfl, q_lt (by omega) (by omega)]; exact hx)]; rfl
      have e1 : nI (sln S) + 1 = nI (sln S + 1) := nI_add _ 1
      refine ⟨nI (sln S + 1), ju (ju M 13 0 (sln S) (nI n)) 13 1 0 (nI (sln S + 1)), ju (ju (ju (ju (ju M 13 0 (sln S) (nI n)) 13 1 0 (nI (sln S + 1))) 16 11 0 0) 16 13 (sln S) (nI n)) 16 14 0 (nI (sln S + 1)), setn (setl S 1 (sln S) n) 2 (sln S + 1), ?_, ?_, ?_, ?_, wS_L hx (by omega) jw⟩
      · unfold f_X5_feed
        rw [if_pos (r_lo (by omega)), if_neg (r_hi' (c := 255) hn (by decide) rfl), ea, if_pos z00]
        unfold f_X1_take
        rw [ea, if_pos z00, c6, q_gd hx (by omega), q_cl (by omega), ju_g (show (1 : Nat) ≠ 0 by omega), c6, e1, ju_self, q_jb2]
      · show f_X6_feed _ (nI n) = _
        have e16 : ju (ju M 13 0 (sln S) (nI n)) 13 1 0 (nI (sln S + 1)) 16 = M 16 := by rw [ju_ne (by omega), ju_ne (by omega)]
        have r6' := r6 _ e16
        unfold f_X6_feed
        rw [if_pos (r_lo (by omega)), if_neg (r_hi' (c := 255) hn (by decide) rfl), r6', if_neg (by rw [show (96 : Int32) = nI 96 from rfl, q_eq (by omega) (by omega)]; omega), q_gd hx (by omega), q_cl (by omega), ju_g (show (14 : Nat) ≠ 13 by omega), r6', e1, ju_self]
      · exact JC_16 (fun o ho => by rw [ju_ne ho, ju_ne ho, ju_ne ho]) (JC_L hx jc)
      · exact JR_L hx (JR_ct (by rw [ju_ne (by omega), ju_ne (by omega)]) jr)
    · have e96 : sln S = 96 := by omega
      refine OK_ref (k := 6) (by omega) ⟨jc, jr, jw⟩ ?_ (fun M1 e16 _ => ?_)
      · unfold f_X5_feed
        have ea : f_X1_areFull M = nI 1 := by
          unfold f_X1_areFull
          rw [c6, if_neg (by rw [show (96 : Int32) = nI 96 from rfl, q_lt (by omega) (by omega)]; exact hx)]; rfl
        rw [if_pos (r_lo (by omega)), if_neg (r_hi' (c := 255) hn (by decide) rfl), ea, if_neg z10]; rfl
      · simp only [f_X6_feed]
        rw [if_pos (r_lo (by omega)), if_neg (r_hi' (c := 255) hn (by decide) rfl), r6 M1 e16, e96, if_pos (by rfl)]; rfl
theorem ok_row (hJ : JJ M S) (a : Int32) : OK (f_X5_row M a) (fun M1 => f_X6_row M1 a) := by
  obtain ⟨jc, jr, jw⟩ := hJ
  have hl := jw.2.2.2.2.2.2.2.1
  have c6 : M 0 9 0 = nI (srn S) := jc.2.2.2.2.2.2.2.1
  have r6 : ∀ M1, M1 16 = M 16 → ju M1 16 11 0 0 16 36 0 = nI (srn S) := fun M1 e => (JR_ct e jr).2.2.2.2.2.2.2.1
  rcases rng a 99 (by decide) (show (99 : Int32) = nI 99 from rfl) with ⟨q1, q2⟩ | ⟨q1, q2, q3, q4⟩ | ⟨n, hn, rfl⟩
  · refine OK_ref (k := 4) (by omega) ⟨jc, jr, jw⟩ ?_ (fun M1 e16 _ => ?_)
    · unfold f_X5_row
      rw [if_neg q2]; rfl
    · simp only [f_X6_row]
      rw [if_neg q2]; rfl
  · refine OK_ref (k := 6) (by omega) ⟨jc, jr, jw⟩ ?_ (fun M1 e16 _ => ?_)
    · unfold f_X5_row
      rw [if_pos q1, if_pos q3]; rfl
    · simp only [f_X6_row]
      rw [if_pos q1, if_pos q3]; rfl
  · by_cases hx : srn S < 12
    · have e1 : nI (srn S) + 1 = nI (srn S + 1) := nI_add _ 1
      refine ⟨nI (srn S + 1), ju (ju M 0 8 (srn S) (nI n)) 0 9 0 (nI (srn S + 1)), ju (ju (ju (ju (ju M 0 8 (srn S) (nI n)) 0 9 0 (nI (srn S + 1))) 16 11 0 0) 16 35 (srn S) (nI n)) 16 36 0 (nI (srn S + 1)), setn (setl S 2 (srn S) n) 3 (srn S + 1), ?_, ?_, ?_, ?_, wS_N hx hn jw⟩
      · unfold f_X5_row
        rw [if_pos (r_lo (by omega)), if_neg (r_hi' (c := 99) hn (by decide) rfl), c6, if_pos (by rw [show (12 : Int32) = nI 12 from rfl, q_lt (by omega) (by omega)]; exact hx), q_gd hx (by omega), q_cl (by omega), ju_g (show (9 : Nat) ≠ 8 by omega), c6, e1, ju_self]
      · show f_X6_row _ (nI n) = _
        have e16 : ju (ju M 0 8 (srn S) (nI n)) 0 9 0 (nI (srn S + 1)) 16 = M 16 := by rw [ju_ne (by omega), ju_ne (by omega)]
        have r6' := r6 _ e16
        unfold f_X6_row
        rw [if_pos (r_lo (by omega)), if_neg (r_hi' (c := 99) hn (by decide) rfl), r6', if_neg (by rw [show (12 : Int32) = nI 12 from rfl, q_eq (by omega) (by omega)]; omega), q_gd hx (by omega), q_cl (by omega), ju_g (show (36 : Nat) ≠ 35 by omega), r6', e1, ju_self]
      · exact JC_16 (fun o ho => by rw [ju_ne ho, ju_ne ho, ju_ne ho]) (JC_N hx jc)
      · exact JR_N hx (JR_ct (by rw [ju_ne (by omega), ju_ne (by omega)]) jr)
    · have e96 : srn S = 12 := by omega
      refine OK_ref (k := 6) (by omega) ⟨jc, jr, jw⟩ ?_ (fun M1 e16 _ => ?_)
      · unfold f_X5_row
        rw [if_pos (r_lo (by omega)), if_neg (r_hi' (c := 99) hn (by decide) rfl), c6, if_neg (by rw [show (12 : Int32) = nI 12 from rfl, q_lt (by omega) (by omega)]; exact hx)]; rfl
      · simp only [f_X6_row]
        rw [if_pos (r_lo (by omega)), if_neg (r_hi' (c := 99) hn (by decide) rfl), r6 M1 e16, e96, if_pos (by rfl)]; rfl
theorem ok_empties (hJ : JJ M S) : OK (f_X5_empties M) (fun M1 => f_X6_empties M1) := by
  obtain ⟨jc, jr, jw⟩ := hJ
  have c6 : M 0 9 0 = nI (srn S) := jc.2.2.2.2.2.2.2.1
  have e16 : ju M 0 9 0 (nI 0) 16 = M 16 := ju_ne (by omega)
  have r6 : ju (ju M 0 9 0 (nI 0)) 16 11 0 0 16 36 0 = nI (srn S) := (JR_ct e16 jr).2.2.2.2.2.2.2.1
  refine ⟨nI (srn S), ju M 0 9 0 (nI 0), ju (ju (ju M 0 9 0 (nI 0)) 16 11 0 0) 16 36 0 (nI 0), setn S 3 0, ?_, ?_, ?_, JR_3 (JR_ct e16 jr), wS_3 jw⟩
  · unfold f_X5_empties; rw [c6]; rfl
  · show f_X6_empties _ = _
    unfold f_X6_empties; rw [r6]; rfl
  · exact JC_16 (fun o ho => by rw [ju_ne ho, ju_ne ho]) (JC_3 jc)
-- judge
theorem ok_judge (hJ : JJ M S) : OK (f_X5_judge M) (fun M1 => f_X6_judge M1) := by
  obtain ⟨h0, h5, hB⟩ := J_C hJ; have hf := J_f hJ; have hH := hf.1; have hW := hf.2.1.2.1
  obtain ⟨jc, jr, jw⟩ := hJ
  have hl := jw.2.2.2.2.2.2.2.1
  have c6 : M 0 9 0 = nI (srn S) := jc.2.2.2.2.2.2.2.1
  have e16 : ju M 0 9 0 (nI 0) 16 = M 16 := ju_ne (by omega)
  have r6 : ju (ju M 0 9 0 (nI 0)) 16 11 0 0 16 36 0 = nI (srn S) := (JR_ct e16 jr).2.2.2.2.2.2.2.1
  have hR2 : RM (ju (ju (ju M 0 9 0 (nI 0)) 16 11 0 0) 16 36 0 (nI 0) 16) (sv S) := RM_fe (fun f hf => ju_f (by omega)) (JR_ct e16 jr).1
  have c1 : ju M 0 9 0 (nI 0) 1 = M 1 := ju_ne (by omega)
  have key : ∀ d i k1 k2, i + d = srn S → d < k1 → d < k2 → ∃ r, f_X5_judge_l12 (nI (srn S)) k1 (ju M 0 9 0 (nI 0)) (nI i) = some (r, ju M 0 9 0 (nI 0)) ∧ f_X6_judge_l17 (nI (srn S)) k2 (ju (ju (ju M 0 9 0 (nI 0)) 16 11 0 0) 16 36 0 (nI 0)) (nI i) = some (r, ju (ju (ju M 0 9 0 (nI 0)) 16 11 0 0) 16 36 0 (nI 0)) := by
    intro d
    induction d with
    | zero =>
      intro i k1 k2 hi h1 h2
      obtain ⟨k1, rfl⟩ : ∃ j, k1 = j + 1 := ⟨k1 - 1, by omega⟩
      obtain ⟨k2, rfl⟩ : ∃ j, k2 = j + 1 := ⟨k2 - 1, by omega⟩
      refine ⟨-9, ?_, ?_⟩
      · simp only [f_X5_judge_l12]
        rw [if_pos ((q_le (by omega) (by omega)).mpr (by omega))]
      · simp only [f_X6_judge_l17]
        rw [if_pos ((q_le (by omega) (by omega)).mpr (by omega))]
    | succ d ih =>
      intro i k1 k2 hi h1 h2
      obtain ⟨k1, rfl⟩ : ∃ j, k1 = j + 1 := ⟨k1 - 1, by omega⟩
      obtain ⟨k2, rfl⟩ : ∃ j, k2 = j + 1 := ⟨k2 - 1, by omega⟩
      by_cases q : i < vH (sv S)
      · have w1 : ju M 0 9 0 (nI 0) 0 8 i = nI (srw S i) := by rw [ju_g (by omega)]; exact jc.2.2.2.2.2.2.2.2.1 i (by omega)
        have w2 : ju (ju (ju M 0 9 0 (nI 0)) 16 11 0 0) 16 36 0 (nI 0) 16 35 i = nI (srw S i) := by rw [ju_g (by omega)]; exact (JR_ct e16 jr).2.2.2.2.2.2.2.2.1 i (by omega)
        have hw2 := jw.2.2.2.2.2.2.2.2 i (by omega)
        have hcn := cn_le (fun w => owe (sv S) 0 w i) (vW (sv S))
        obtain ⟨r, x1, x2⟩ := ih (i + 1) k1 k2 (by omega) (by omega) (by omega)
        have a1 : f_X5_judge_l12 (nI (srn S)) (k1 + 1) (ju M 0 9 0 (nI 0)) (nI i) = if cn (fun w => owe (sv S) 0 w i) (vW (sv S)) = srw S i then f_X5_judge_l12 (nI (srn S)) k1 (ju M 0 9 0 (nI 0)) (nI (i + 1)) else some (nI i, ju M 0 9 0 (nI 0)) := by
          simp only [f_X5_judge_l12]
          rw [if_neg (by rw [q_le (by omega) (by omega)]; omega), show f_X4_hasHouse (ju M 0 9 0 (nI 0)) 1 (nI i) = nI 1 by rw [p_hasH (σ := sv S) (by rw [c1]; exact h0), if_pos ((okv_nI (by omega) (by omega)).mpr q)], if_neg z10, show (0 : Int32) = nI 0 from rfl, p_owersBehind (σ := sv S) (N := vH (sv S)) (by rw [c1]; exact hB) hf.2.1 q (by omega), q_jb, q_gd (by omega) (by omega), q_cl (by omega), p_bitCount (by omega), show nI i + 1 = nI (i + 1) from nI_add i 1]
          by_cases z : cn (fun w => owe (sv S) 0 w i) (vW (sv S)) = srw S i
          · rw [if_pos (show nI (cn (fun w => owe (sv S) 0 w i) (vW (sv S))) = ju M 0 9 0 (nI 0) 0 8 i by rw [w1, z]), if_pos z]
          · rw [if_neg (show ¬ nI (cn (fun w => owe (sv S) 0 w i) (vW (sv S))) = ju M 0 9 0 (nI 0) 0 8 i by rw [w1, q_eq (by omega) (by omega)]; exact z), if_neg z]
        have a2 : f_X6_judge_l17 (nI (srn S)) (k2 + 1) (ju (ju (ju M 0 9 0 (nI 0)) 16 11 0 0) 16 36 0 (nI 0)) (nI i) = if cn (fun w => owe (sv S) 0 w i) (vW (sv S)) = srw S i then f_X6_judge_l17 (nI (srn S)) k2 (ju (ju (ju M 0 9 0 (nI 0)) 16 11 0 0) 16 36 0 (nI 0)) (nI (i + 1)) else some (nI i, ju (ju (ju M 0 9 0 (nI 0)) 16 11 0 0) 16 36 0 (nI 0)) := by
          simp only [f_X6_judge_l17]
          rw [if_neg (by rw [q_le (by omega) (by omega)]; omega), if_neg (by rw [hR2.1, q_le (by omega) (by omega)]; omega), q_gd (by omega) (by omega), m_owersOf hR2 (wg_of hf) q, q_jb, m_onesOf (by omega), q_jb, q_cl (by omega), show nI i + 1 = nI (i + 1) from nI_add i 1]
          by_cases z : cn (fun w => owe (sv S) 0 w i) (vW (sv S)) = srw S i
          · rw [if_pos (show ju (ju (ju M 0 9 0 (nI 0)) 16 11 0 0) 16 36 0 (nI 0) 16 35 i = nI (cn (fun w => owe (sv S) 0 w i) (vW (sv S))) by rw [w2, z]), if_pos z]
          · rw [if_neg (show ¬ ju (ju (ju M 0 9 0 (nI 0)) 16 11 0 0) 16 36 0 (nI 0) 16 35 i = nI (cn (fun w => owe (sv S) 0 w i) (vW (sv S))) by rw [w2, q_eq (by omega) (by omega)]; exact fun y => z y.symm), if_neg z]
        rw [a1, a2]
        by_cases z : cn (fun w => owe (sv S) 0 w i) (vW (sv S)) = srw S i
        · rw [if_pos z, if_pos z]; exact ⟨r, x1, x2⟩
        · rw [if_neg z, if_neg z]; exact ⟨_, rfl, rfl⟩
      · refine ⟨nI i, ?_, ?_⟩
        · simp only [f_X5_judge_l12]
          rw [if_neg (by rw [q_le (by omega) (by omega)]; omega), show f_X4_hasHouse (ju M 0 9 0 (nI 0)) 1 (nI i) = nI 0 by rw [p_hasH (σ := sv S) (by rw [c1]; exact h0), if_neg (fun z => q ((okv_nI (by omega) (by omega)).mp z))], if_pos z00]
        · simp only [f_X6_judge_l17]
          rw [if_neg (by rw [q_le (by omega) (by omega)]; omega), if_pos (by rw [hR2.1, q_le (by omega) (by omega)]; omega)]
  obtain ⟨r, x1, x2⟩ := key (srn S) 0 10000 10000 (by omega) (by omega) (by omega)
  refine ⟨r, ju M 0 9 0 (nI 0), ju (ju (ju M 0 9 0 (nI 0)) 16 11 0 0) 16 36 0 (nI 0), setn S 3 0, ?_, ?_, ?_, JR_3 (JR_ct e16 jr), wS_3 jw⟩
  · unfold f_X5_judge; rw [c6]; exact x1
  · show f_X6_judge _ = _
    unfold f_X6_judge; rw [r6]; exact x2
  · exact JC_16 (fun o ho => by rw [ju_ne ho, ju_ne ho]) (JC_3 jc)
end Asks
