/-! street, forgiven -/
section Asks
variable {M : jm} {S : St} {σ : vl}
def stq (σ : vl) (r w h : Nat) : Nat := if σ 3 h / 7 = r then mb σ w h 0 else 0
theorem div7 {x : Nat} (h : x < 49) : nI x / 7 = nI (x / 7) := pk_div (a := x) (d := 7) (by omega) (by omega) (by omega)
theorem mb_now {w h : Nat} : mb σ w h 0 = if σ (20 + w) h = 0 then 0 else mns (σ 1 h) (σ 2 h) (σ (20 + w) h - 1) := rfl
theorem m_street {N : jm} (hc1 : RM (N 16) σ) (hf : wg σ) (r : Nat) (hr : r < 7) : f_X6_street_l27 (nI r) 10000 N 0 0 = some (nI 0 + nI (sm (fun w => sm (fun h => stq σ r w h) (vH σ)) (vW σ)), N) := by
  have hH := hf.1; have hW := hf.2.1.2.1
  rw [show (0 : Int32) = nI 0 from rfl, loop0 (L := fun k a i => f_X6_street_l27 (nI r) k N a i) (f := fun w z => z + nI (sm (fun h => stq σ r w h) (vH σ))) (K := fun a => some (a, N)) (n := vW σ)]
  · rw [ff_smz (fun w => sm (fun h => stq σ r w h) (vH σ))]
  · intro k z i hi
    simp only [f_X6_street_l27]
    rw [if_neg (by rw [hc1.2.1, q_le (by omega) (by omega)]; omega), show (0 : Int32) = nI 0 from rfl, loop0 (L := fun kk a j => f_X6_street_l38 (f_X6_street_l27 (nI r) k) (nI r) (nI i) kk N a j) (f := fun h z => z + nI (stq σ r i h)) (K := fun a => f_X6_street_l27 (nI r) k N a (nI (i + 1))) (n := vH σ) (k := 10000)]
    · rw [ff_smz (fun h => stq σ r i h)]
    · intro kk z j hj
      have hd := hf.2.1.2.2.2.2 i j
      have k3 := (hf.2.1.2.2.1 j hj).2.2.1
      have v9 : N 16 9 (7 * i + j) = nI (σ (20 + i) j) := hc1.2.2.2.2.2 i (by omega) j (by omega)
      simp only [f_X6_street_l38]
      rw [if_neg (by rw [hc1.1, q_le (by omega) (by omega)]; omega), idx7, q_gd (by omega) (by omega), q_cl (by omega), show nI j + 1 = nI (j + 1) from nI_add j 1]
      unfold stq
      rw [mb_now]
      by_cases e : σ (20 + i) j = 0
      · rw [if_pos (show N 16 9 (7 * i + j) ≤ 0 by rw [v9, e]; decide), if_pos e, show (if σ 3 j / 7 = r then 0 else 0) = 0 by split <;> rfl]; rfl
      · rw [if_neg (show ¬ N 16 9 (7 * i + j) ≤ 0 by rw [v9, show (0 : Int32) = nI 0 from rfl, q_pos (by omega)]; exact e), if_neg e, q_gd (by omega) (by omega), q_cl (by omega)]
        by_cases q : σ 3 j / 7 = r
        · rw [if_pos (show N 16 3 j / 7 = nI r by rw [(hc1.2.2.2.1 j hj).2.2.1, div7 k3, q]), if_pos q, v9, show nI (σ (20 + i) j) - 1 = nI (σ (20 + i) j - 1) from pk_sub (a := σ (20 + i) j) (b := 1) (by omega), m_minutesOf hc1 hf hj (by omega), q_jb]
        · rw [if_neg (show ¬ N 16 3 j / 7 = nI r by rw [(hc1.2.2.2.1 j hj).2.2.1, div7 k3, q_eq (by omega) (by omega)]; exact q), if_neg q]; rfl
    · intro kk z
      simp only [f_X6_street_l38]
      rw [if_pos (by rw [hc1.1, q_le (by omega) (by omega)]; omega), show nI i + 1 = nI (i + 1) from nI_add i 1]
    · omega
  · intro k z
    simp only [f_X6_street_l27]
    rw [if_pos (by rw [hc1.2.1, q_le (by omega) (by omega)]; omega)]
  · omega
theorem ok_street (hJ : JJ M S) (a : Int32) : OK (f_X5_street M a) (fun M1 => f_X6_street M1 a) := by
  obtain ⟨h0, h5, hB⟩ := J_C hJ; have hf := J_f hJ; have hH := hf.1; have hW := hf.2.1.2.1
  by_cases c1 : okv 7 a = true
  · obtain ⟨r, hr, rfl⟩ := okv_ex (by omega) c1
    refine OK_q hJ (M1 := M) (r := nI 0 + nI (sm (fun h => sm (fun w => stq (sv S) r w h) (vW (sv S))) (vH (sv S)))) ?_ (frC_refl M) (fun hR hg => ?_)
    · unfold f_X5_street
      rw [if_neg (r_lo' (by omega)), if_pos (by rw [show (7 : Int32) = nI 7 from rfl, q_lt (by omega) (by omega)]; exact hr), show (0 : Int32) = nI 0 from rfl]
      rw [loop0 (L := fun k a i => f_X5_street_l20 (nI r) k M a i) (f := fun h z => z + nI (sm (fun w => stq (sv S) r w h) (vW (sv S)))) (K := fun a => some (a, M)) (n := vH (sv S))]
      · rw [ff_smz (fun h => sm (fun w => stq (sv S) r w h) (vW (sv S)))]
      · intro k z i hi
        have k3 := (hf.2.1.2.2.1 i hi).2.2.1
        simp only [f_X5_street_l20]
        rw [if_neg (by rw [h0, q_le (by omega) (by omega)]; omega), q_gd (by omega) (by omega), q_cl (by omega), (hB.2.1 i hi).2.2.1, div7 k3, show nI i + 1 = nI (i + 1) from nI_add i 1]
        by_cases q : (sv S) 3 i / 7 = r
        · rw [if_pos (by rw [q]), show (0 : Int32) = nI 0 from rfl, loop0 (L := fun kk a j => f_X5_street_l53 (f_X5_street_l20 (nI r) k) (nI r) (nI i) kk M a j) (f := fun w z => z + nI (stq (sv S) r w i)) (K := fun a => f_X5_street_l20 (nI r) k M a (nI (i + 1))) (n := vW (sv S)) (k := 10000)]
          · rw [ff_smz (fun w => stq (sv S) r w i)]
          · intro kk z j hj
            simp only [f_X5_street_l53]
            rw [if_neg (by rw [h5, q_le (by omega) (by omega)]; omega), show (0 : Int32) = nI 0 from rfl, p_minutesBehind hB hf.2.1 hj hi (by omega), q_jb, show nI j + 1 = nI (j + 1) from nI_add j 1]
            unfold stq
            rw [if_pos q]
          · intro kk z
            simp only [f_X5_street_l53]
            rw [if_pos (by rw [h5, q_le (by omega) (by omega)]; omega), show nI i + 1 = nI (i + 1) from nI_add i 1]
          · omega
        · have e0 : sm (fun w => stq (sv S) r w i) (vW (sv S)) = 0 := by
            rw [sm_congr (g := fun _ => 0) _ (fun w _ => by unfold stq; rw [if_neg q]), sm_0]
          rw [if_neg (by rw [q_eq (by omega) (by omega)]; exact q), e0, show z + nI 0 = z from add0 z]
      · intro k z
        simp only [f_X5_street_l20]
        rw [if_pos (by rw [h0, q_le (by omega) (by omega)]; omega)]
      · omega
    · show ∃ M2, f_X6_street M (nI r) = _ ∧ _
      unfold f_X6_street
      have hc1 : RM ((ju M 16 11 0 0) 16) (sv S) := RM_ct hR
      have hc2 : frK M (ju M 16 11 0 0) := frK_ct M
      generalize ju M 16 11 0 0 = N at hc1 hc2 ⊢
      refine ⟨N, ?_, hc1, hc2⟩
      rw [m_inL (nI r) 6 7 (by decide) (by decide), if_pos c1, if_neg z10, m_street hc1 hg r hr, sm_swap]
  · refine OK_ref (k := 1) (by omega) hJ ?_ (fun M1 e16 _ => ?_)
    · unfold f_X5_street
      by_cases y1 : a < 0
      · rw [if_pos y1]; rfl
      · rw [if_neg y1, if_neg (show ¬ a < (7 : Int32) from fun z => c1 (okv_iff.mpr ⟨by
          rw [show nI 0 = (0 : Int32) from rfl, Int32.le_iff_toInt_le]
          rw [Int32.lt_iff_toInt_lt] at y1
          omega, z⟩))]; rfl
    · simp only [f_X6_street]
      rw [m_inL a 6 7 (by decide) (by decide), if_neg c1, if_pos z00]; rfl
-- forgiven
def fgv (σ : vl) (w h : Nat) (z : Int32) : Int32 := if σ (20 + w) h = 0 then z else z + (nI (mns (σ 1 h) (σ 2 h) (σ (20 + w) h - 1)) - nI (mns (σ 1 h) (σ 2 h) 0))
theorem ok_forgiven (hJ : JJ M S) : OK0 M (f_X5_forgiven M) (fun M1 => f_X6_forgiven M1) := by
  obtain ⟨h0, h5, hB⟩ := J_C hJ; have hf := J_f hJ; have hH := hf.1; have hW := hf.2.1.2.1
  refine OK0_q hJ (r := ff (fun w z => ff (fgv (sv S) w) (vH (sv S)) 0 z) (vW (sv S)) 0 (nI 0)) ?_ (fun hR hg => ?_)
  · unfold f_X5_forgiven
    rw [show (0 : Int32) = nI 0 from rfl, loop0 (L := fun k a i => f_X5_forgiven_l4 M k a i) (f := fun w z => ff (fgv (sv S) w) (vH (sv S)) 0 z) (K := fun a => some a) (n := vW (sv S))]
    · intro k z i hi
      simp only [f_X5_forgiven_l4]
      rw [if_neg (by rw [h5, q_le (by omega) (by omega)]; omega), show (0 : Int32) = nI 0 from rfl, loop0 (L := fun kk a j => f_X5_forgiven_l17 M (f_X5_forgiven_l4 M k) (nI i) kk a j) (f := fgv (sv S) i) (K := fun a => f_X5_forgiven_l4 M k a (nI (i + 1))) (n := vH (sv S)) (k := 10000)]
      · intro kk z j hj
        have hd := hf.2.1.2.2.2.2 i j
        simp only [f_X5_forgiven_l17]
        rw [if_neg (by rw [h0, q_le (by omega) (by omega)]; omega), p_owes hB hf.2.1 (show i < 6 by omega) (show j < 8 by omega), q_jb, show nI j + 1 = nI (j + 1) from nI_add j 1]
        unfold fgv
        by_cases e : (sv S) (20 + i) j = 0
        · rw [if_pos e, if_pos z00, if_pos e]
        · rw [if_neg e, if_neg z10, if_neg e, show (0 : Int32) = nI 0 from rfl, p_minutesBehind hB hf.2.1 hi hj (by omega), q_jb, p_minutesOf hB hf.2.1 hj (by omega), q_jb, mb_now, if_neg e]
      · intro kk z
        simp only [f_X5_forgiven_l17]
        rw [if_pos (by rw [h0, q_le (by omega) (by omega)]; omega), show nI i + 1 = nI (i + 1) from nI_add i 1]
      · omega
    · intro k z
      simp only [f_X5_forgiven_l4]
      rw [if_pos (by rw [h5, q_le (by omega) (by omega)]; omega)]
    · omega
  · show ∃ M2, f_X6_forgiven M = _ ∧ _
    unfold f_X6_forgiven
    have hc1 : RM ((ju M 16 11 0 0) 16) (sv S) := RM_ct hR
    have hc2 : frK M (ju M 16 11 0 0) := frK_ct M
    generalize ju M 16 11 0 0 = N at hc1 hc2 ⊢
    refine ⟨N, ?_, hc1, hc2⟩
    rw [show (0 : Int32) = nI 0 from rfl, loop0 (L := fun k a i => f_X6_forgiven_l9 k N a i) (f := fun w z => ff (fgv (sv S) w) (vH (sv S)) 0 z) (K := fun a => some (a, N)) (n := vW (sv S))]
    · intro k z i hi
      simp only [f_X6_forgiven_l9]
      rw [if_neg (by rw [hc1.2.1, q_le (by omega) (by omega)]; omega), show (0 : Int32) = nI 0 from rfl, loop0 (L := fun kk a j => f_X6_forgiven_l19 (f_X6_forgiven_l9 k) (nI i) kk N a j) (f := fgv (sv S) i) (K := fun a => f_X6_forgiven_l9 k N a (nI (i + 1))) (n := vH (sv S)) (k := 10000)]
      · intro kk z j hj
        have hd := hf.2.1.2.2.2.2 i j
        have v9 : N 16 9 (7 * i + j) = nI ((sv S) (20 + i) j) := hc1.2.2.2.2.2 i (by omega) j (by omega)
        simp only [f_X6_forgiven_l19]
        rw [if_neg (by rw [hc1.1, q_le (by omega) (by omega)]; omega), idx7, q_gd (by omega) (by omega), q_cl (by omega), show nI j + 1 = nI (j + 1) from nI_add j 1]
        unfold fgv
        by_cases e : (sv S) (20 + i) j = 0
        · rw [if_pos (show N 16 9 (7 * i + j) ≤ 0 by rw [v9, e]; decide), if_pos e, add0]
        · rw [if_neg (show ¬ N 16 9 (7 * i + j) ≤ 0 by rw [v9, show (0 : Int32) = nI 0 from rfl, q_pos (by omega)]; exact e), if_neg e, v9, show nI ((sv S) (20 + i) j) - 1 = nI ((sv S) (20 + i) j - 1) from pk_sub (a := (sv S) (20 + i) j) (b := 1) (by omega), m_minutesOf hc1 hg hj (by omega), q_jb, show (0 : Int32) = nI 0 from rfl, m_minutesOf hc1 hg hj (by omega), q_jb]
      · intro kk z
        simp only [f_X6_forgiven_l19]
        rw [if_pos (by rw [hc1.1, q_le (by omega) (by omega)]; omega), show nI i + 1 = nI (i + 1) from nI_add i 1]
      · omega
    · intro k z
      simp only [f_X6_forgiven_l9]
      rw [if_pos (by rw [hc1.2.1, q_le (by omega) (by omega)]; omega)]
    · omega
end Asks
