/-! oldest: all four -/
section Asks
variable {M : jm} {S : St} {σ : vl}
def lnf (σ : vl) (i j : Nat) (z : Int32) : Int32 := if σ 4 i = 1 ∧ σ 4 j = 1 ∧ stp (σ 3 i) (σ 3 j) ≤ 2 then z + nI 1 else z
def lnv (σ : vl) : Int32 := ff (fun i z => ff (lnf σ i) (vH σ - (i + 1)) (i + 1) z) (vH σ) 0 (nI 0)
theorem p_lane (h0 : M 1 0 0 = nI (vH σ)) (hB : RB (M 1) σ (vH σ)) (hf : wf σ) : f_X5_lane M = some (lnv σ) := by
  have hH := hf.1; have hW := hf.2.1.2.1
  unfold f_X5_lane
  rw [show (0 : Int32) = nI 0 from rfl, loop0 (L := fun k a i => f_X5_lane_l4 M k a i) (f := fun i z => ff (lnf σ i) (vH σ - (i + 1)) (i + 1) z) (K := fun a => some a) (n := vH σ)]
  · rfl
  · intro k z i hi
    simp only [f_X5_lane_l4]
    rw [if_neg (by rw [h0, q_le (by omega) (by omega)]; omega), show nI i + 1 = nI (i + 1) from nI_add i 1]
    have := loopA (fun kk a j => f_X5_lane_l19 M (f_X5_lane_l4 M k) (nI i) kk a j) (lnf σ i) (fun a => f_X5_lane_l4 M k a (nI (i + 1))) (vH σ) ?_ ?_ (vH σ - (i + 1)) (i + 1) 10000 z (by omega) (by omega)
    · exact this
    · intro kk z j hj
      simp only [f_X5_lane_l19, f_X5_lane_j56, f_X5_lane_j57]
      rw [if_neg (by rw [h0, q_le (by omega) (by omega)]; omega), p_isLit hB hi (by omega), p_isLit hB hj (by omega), show nI j + 1 = nI (j + 1) from nI_add j 1, q_gd (by omega) (by omega), q_gd (by omega) (by omega), q_cl (by omega), q_cl (by omega), (hB.2.1 i hi).2.2.1, (hB.2.1 j hj).2.2.1, p_steps _ (hf.2.1.2.2.1 i hi).2.2.1 _ (hf.2.1.2.2.1 j hj).2.2.1]
      have hs := stp_lt _ (hf.2.1.2.2.1 i hi).2.2.1 _ (hf.2.1.2.2.1 j hj).2.2.1
      unfold lnf
      by_cases e1 : σ 4 i = 1
      · rw [if_pos e1, if_neg z10]
        by_cases e2 : σ 4 j = 1
        · rw [if_pos e2, if_neg z10, if_neg (by decide)]
          by_cases e3 : stp (σ 3 i) (σ 3 j) ≤ 2
          · rw [if_neg (by rw [show (2 : Int32) = nI 2 from rfl, q_lt (by omega) (by omega)]; omega), if_pos ⟨e1, e2, e3⟩]; rfl
          · rw [if_pos (by rw [show (2 : Int32) = nI 2 from rfl, q_lt (by omega) (by omega)]; omega), if_neg (fun z => e3 z.2.2)]
        · rw [if_neg e2, if_pos z00, if_pos trivial, if_neg (fun z => e2 z.2.1)]
      · rw [if_neg e1, if_pos z00, if_pos trivial, if_neg (fun z => e1 z.1)]
    · intro kk z
      simp only [f_X5_lane_l19]
      rw [if_pos (by rw [h0, q_le (by omega) (by omega)]; omega), show nI i + 1 = nI (i + 1) from nI_add i 1]
  · intro k z
    simp only [f_X5_lane_l4]
    rw [if_pos (by rw [h0, q_le (by omega) (by omega)]; omega)]
  · omega
theorem m_lane {N : jm} (hc1 : RM (N 16) σ) (hf : wg σ) : f_X6_laneTwos N = some (lnv σ) := by
  have hH := hf.1; have hW := hf.2.1.2.1
  unfold f_X6_laneTwos
  rw [show (0 : Int32) = nI 0 from rfl, loop0 (L := fun k a i => f_X6_laneTwos_l4 N k a i) (f := fun i z => ff (lnf σ i) (vH σ - (i + 1)) (i + 1) z) (K := fun a => some a) (n := vH σ)]
  · rfl
  · intro k z i hi
    simp only [f_X6_laneTwos_l4]
    rw [if_neg (by rw [hc1.1, q_le (by omega) (by omega)]; omega), show nI i + 1 = nI (i + 1) from nI_add i 1]
    have := loopA (fun kk a j => f_X6_laneTwos_l16 N (f_X6_laneTwos_l4 N k) (nI i) kk a j) (lnf σ i) (fun a => f_X6_laneTwos_l4 N k a (nI (i + 1))) (vH σ) ?_ ?_ (vH σ - (i + 1)) (i + 1) 10000 z (by omega) (by omega)
    · exact this
    · intro kk z j hj
      have a4 := (hf.2.1.2.2.1 i hi).2.2.2
      have b4 := (hf.2.1.2.2.1 j hj).2.2.2
      have hs := stp_lt _ (hf.2.1.2.2.1 i hi).2.2.1 _ (hf.2.1.2.2.1 j hj).2.2.1
      simp only [f_X6_laneTwos_l16]
      rw [if_neg (by rw [hc1.1, q_le (by omega) (by omega)]; omega), q_gd (by omega) (by omega), q_gd (by omega) (by omega), q_cl (by omega), q_cl (by omega), (hc1.2.2.2.1 i hi).2.2.2, (hc1.2.2.2.1 j hj).2.2.2, nI_add, show nI j + 1 = nI (j + 1) from nI_add j 1, q_gd (by omega) (by omega), q_gd (by omega) (by omega), (hc1.2.2.2.1 i hi).2.2.1, (hc1.2.2.2.1 j hj).2.2.1, m_stepsOf _ (hf.2.1.2.2.1 i hi).2.2.1 _ (hf.2.1.2.2.1 j hj).2.2.1, add0]
      unfold lnf
      by_cases e : σ 4 i + σ 4 j = 2
      · rw [if_pos (by rw [e]; rfl)]
        by_cases e3 : stp (σ 3 i) (σ 3 j) ≤ 2
        · rw [if_neg (by rw [show (2 : Int32) = nI 2 from rfl, q_lt (by omega) (by omega)]; omega), if_pos ⟨by omega, by omega, e3⟩]; rfl
        · rw [if_pos (by rw [show (2 : Int32) = nI 2 from rfl, q_lt (by omega) (by omega)]; omega), if_neg (fun z => e3 z.2.2)]
      · rw [if_neg (by rw [show (2 : Int32) = nI 2 from rfl, q_eq (by omega) (by omega)]; exact e), if_neg (fun z => e (by omega))]
    · intro kk z
      simp only [f_X6_laneTwos_l16]
      rw [if_pos (by rw [hc1.1, q_le (by omega) (by omega)]; omega), show nI i + 1 = nI (i + 1) from nI_add i 1]
  · intro k z
    simp only [f_X6_laneTwos_l4]
    rw [if_pos (by rw [hc1.1, q_le (by omega) (by omega)]; omega)]
  · omega
theorem m_dark {N : jm} (hc1 : RM (N 16) σ) (hf : wg σ) : f_X6_darkBits N = some (nI (bs (fun h => decide (σ 4 h = 0)) (vH σ))) := by
  have hH := hf.1; have hW := hf.2.1.2.1
  unfold f_X6_darkBits
  rw [show (0 : Int32) = nI 0 from rfl, loop0 (L := fun k a i => f_X6_darkBits_l4 N k a i) (f := fun i z => if decide (σ 4 i = 0) then z ||| bi i else z) (K := fun a => some a) (n := vH σ)]
  · rw [ff_bs (fun h => decide (σ 4 h = 0)) _ (by omega)]
  · intro k z i hi
    have h4 := (hf.2.1.2.2.1 i hi).2.2.2
    simp only [f_X6_darkBits_l4]
    rw [if_neg (by rw [hc1.1, q_le (by omega) (by omega)]; omega), q_gd (by omega) (by omega), q_cl (by omega)]
    simp (disch := omega) only [q_lit, nI_add, (hc1.2.2.2.1 i hi).2.2.2, q_eq, q_or0]
    by_cases e : σ 4 i = 0
    · rw [if_pos e]; simp [e]; rfl
    · rw [if_neg e]; simp [e]
  · intro k z
    simp only [f_X6_darkBits_l4]
    rw [if_pos (by rw [hc1.1, q_le (by omega) (by omega)]; omega)]
  · omega
theorem ok_oldest (hJ : JJ M S) (a : Int32) : OK (f_X5_oldest M a) (fun M1 => f_X6_oldest M1 a) := by
  obtain ⟨h0, h5, hB⟩ := J_C hJ; have hf := J_f hJ; have hH := hf.1; have hW := hf.2.1.2.1
  have hg := wg_of hf
  have hm := olds_le hg
  have fin : ∀ r : Int32, f_X5_oldest M a = some (r, M) → (∀ N, RM (N 16) (sv S) → ju M 16 11 0 0 = N → f_X6_oldest M a = some (r, N)) → OK (f_X5_oldest M a) (fun M1 => f_X6_oldest M1 a) := by
    intro r ha hb
    exact OK_q hJ ha (frC_refl M) (fun hR _ => ⟨ju M 16 11 0 0, hb _ (RM_ct hR) rfl, RM_ct hR, frK_ct M⟩)
  by_cases c1 : okv 4 a = true
  · obtain ⟨j, hj, rfl⟩ := okv_ex (by omega) c1
    have hj' : j = 0 ∨ j = 1 ∨ j = 2 ∨ j = 3 := by omega
    rcases hj' with rfl | rfl | rfl | rfl
    · refine fin (if olds (sv S) = 0 then nI 0 else nI (olds (sv S)) - nI 1) ?_ (fun N hN e => ?_)
      · unfold f_X5_oldest
        rw [if_pos (by decide), p_highestAge h0 hB hf, q_jb]
        by_cases z : olds (sv S) = 0
        · rw [if_pos z, z]; rfl
        · rw [if_neg z, show nI (olds (sv S)) - nI 1 = nI (olds (sv S) - 1) from pk_sub (by omega)]
          by_cases z2 : olds (sv S) - 1 = 0
          · rw [z2]; rfl
          · rw [if_pos (by rw [show (0 : Int32) = nI 0 from rfl, q_lt (by omega) (by omega)]; omega)]
      · unfold f_X6_oldest
        rw [e, if_pos (by decide), m_oldestAge hN hg, q_jb, q_jb]
        by_cases z : olds (sv S) = 0
        · rw [if_pos (by rw [z]; rfl), if_pos z]; rfl
        · rw [if_neg (by rw [show (0 : Int32) = nI 0 from rfl, q_eq (by omega) (by omega)]; exact z), if_neg z]; rfl
    · obtain ⟨r, x1, x2⟩ := by_eq (N := ju M 16 11 0 0) h0 hB hf (RM_ct hJ.2.1.1)
      refine fin r ?_ (fun N hN e => ?_)
      · unfold f_X5_oldest
        rw [if_neg (by decide), if_pos (by decide), x1, q_jb]
      · unfold f_X6_oldest
        rw [if_neg (by decide), if_pos (by decide), x2, q_jb, e]
    · refine fin (lnv (sv S)) ?_ (fun N hN e => ?_)
      · unfold f_X5_oldest
        rw [if_neg (by decide), if_neg (by decide), if_pos (by decide), p_lane h0 hB hf, q_jb]
      · unfold f_X6_oldest
        rw [if_neg (by decide), if_neg (by decide), if_pos (by decide), e, m_lane hN hg, q_jb]
    · refine fin (nI (bs (fun h => decide ((sv S) 4 h = 0)) (vH (sv S)))) ?_ (fun N hN e => ?_)
      · unfold f_X5_oldest
        rw [if_neg (by decide), if_neg (by decide), if_neg (by decide), if_pos (by decide), h0, dark_bits hg (fun h hh => (hB.2.1 h hh).2.2.2)]
      · unfold f_X6_oldest
        rw [if_neg (by decide), if_neg (by decide), if_neg (by decide), if_pos (by decide), e, m_dark hN hg, q_jb]
  · have nn : ∀ j, j < 4 → ¬ a = nI j := fun j hj => okv_ne (by omega) c1 hj
    refine OK_ref (k := 2) (by omega) hJ ?_ (fun M1 e16 _ => ?_)
    · unfold f_X5_oldest
      rw [if_neg (show ¬ a = (0 : Int32) from nn 0 (by omega)), if_neg (show ¬ a = (1 : Int32) from nn 1 (by omega)), if_neg (show ¬ a = (2 : Int32) from nn 2 (by omega)), if_neg (show ¬ a = (3 : Int32) from nn 3 (by omega))]; rfl
    · simp only [f_X6_oldest]
      rw [if_neg (show ¬ a = (0 : Int32) from nn 0 (by omega)), if_neg (show ¬ a = (1 : Int32) from nn 1 (by omega)), if_neg (show ¬ a = (2 : Int32) from nn 2 (by omega)), if_neg (show ¬ a = (3 : Int32) from nn 3 (by omega))]; rfl
end Asks
