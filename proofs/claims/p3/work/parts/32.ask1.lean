/-! the questions, one after another: helpers -/
theorem z10 : ¬ (nI 1 = (0 : Int32)) := by decide
theorem z00 : nI 0 = (0 : Int32) := rfl
theorem okv_ne {n j : Nat} {v : Int32} (hn : n < 2 ^ 31) (h : ¬ okv n v = true) (hj : j < n) : ¬ v = nI j := by
  rintro rfl; exact h ((okv_nI hn (by omega)).mpr hj)
theorem rng (v : Int32) (n : Nat) (hn : n < 2 ^ 30) {c : Int32} (hc : c = nI n) : (v < 0 ∧ ¬ 0 ≤ v) ∨ (0 ≤ v ∧ ¬ v < 0 ∧ c < v ∧ ¬ v ≤ c) ∨ ∃ j, j ≤ n ∧ v = nI j := by
  subst hc
  by_cases h1 : v < 0
  · left
    refine ⟨h1, fun z => ?_⟩
    rw [Int32.lt_iff_toInt_lt] at h1
    rw [Int32.le_iff_toInt_le] at z
    omega
  · have h1' : (0 : Int32) ≤ v := by
      rw [Int32.lt_iff_toInt_lt] at h1
      rw [Int32.le_iff_toInt_le]
      omega
    by_cases h2 : nI n < v
    · right; left
      refine ⟨h1', h1, h2, fun z => ?_⟩
      rw [Int32.lt_iff_toInt_lt] at h2
      rw [Int32.le_iff_toInt_le] at z
      omega
    · right; right
      obtain ⟨j, hj, rfl⟩ := nI_of (x := v) h1
      exact ⟨j, by rw [q_lt (by omega) hj] at h2; omega, rfl⟩
theorem r_lo {j : Nat} (hj : j < 2 ^ 31) : (0 : Int32) ≤ nI j := by rw [show (0 : Int32) = nI 0 from rfl, q_le (by omega) hj]; omega
theorem r_lo' {j : Nat} (hj : j < 2 ^ 31) : ¬ nI j < (0 : Int32) := by rw [show (0 : Int32) = nI 0 from rfl, q_lt hj (by omega)]; omega
theorem r_hi {j n : Nat} (hj : j ≤ n) (hn : n < 2 ^ 31) {c : Int32} (hc : c = nI n) : nI j ≤ c := by rw [hc, q_le (by omega) hn]; omega
theorem r_hi' {j n : Nat} (hj : j ≤ n) (hn : n < 2 ^ 31) {c : Int32} (hc : c = nI n) : ¬ c < nI j := by rw [hc, q_lt hn (by omega)]; omega
theorem wn_lo {v c : Int32} (h : ¬ 0 ≤ v) : f_X6_wrongNumber v 0 c = -4 := by unfold f_X6_wrongNumber; rw [if_neg h]
theorem wn_hi {v c : Int32} (h : 0 ≤ v) (h2 : ¬ v ≤ c) : f_X6_wrongNumber v 0 c = -6 := by unfold f_X6_wrongNumber; rw [if_pos h, if_neg h2]
theorem wn_ok {j n : Nat} {c : Int32} (h : j ≤ n) (hn : n < 2 ^ 30) (hc : c = nI n) : f_X6_wrongNumber (nI j) 0 c = 0 := by unfold f_X6_wrongNumber; rw [if_pos (r_lo (by omega)), if_pos (r_hi h (by omega) hc)]
theorem wb_0 {v c : Int32} (n : Nat) (hn : n < 2 ^ 30) (hc : c = nI n - nI 1) : f_X6_wrongBit 0 v c = if okv n v = true then 0 else -2 := by
  unfold f_X6_wrongBit
  rw [if_pos rfl, hc, m_inN v n hn]
  by_cases h : okv n v = true
  · rw [if_pos h, if_pos h, if_neg z10]
  · rw [if_neg h, if_neg h, if_pos z00]
theorem wb_no {v c w : Int32} (h : ¬ w = 0) : f_X6_wrongBit w v c = w := by unfold f_X6_wrongBit; rw [if_neg h]
theorem n4 : ¬ (0 : Int32) ≤ -4 := by decide
theorem n6 : ¬ (0 : Int32) ≤ -6 := by decide
theorem n3 : ¬ (0 : Int32) ≤ -3 := by decide
theorem n2 : ¬ (0 : Int32) ≤ -2 := by decide
theorem n1 : ¬ (0 : Int32) ≤ -1 := by decide
theorem n0 : (0 : Int32) ≤ 0 := by decide
section Asks
variable {M : jm} {S : St}
theorem J_C (hJ : JJ M S) : M 1 0 0 = nI (vH (sv S)) ∧ M 1 5 0 = nI (vW (sv S)) ∧ RB (M 1) (sv S) (vH (sv S)) := ⟨hJ.1.1.1, hJ.1.1.2.2.1, hJ.1.1.2.2⟩
theorem m_wbOK {M : jm} {σ : vl} (hR : RM (M 16) σ) (hf : wg σ) {w h : Nat} (hw : w < vW σ) (hh : h < vH σ) : f_X6_wrongBoth M (nI w) (nI h) = nI 0 := by
  have hH := hf.1
  have hW := hf.2.1.2.1
  rw [m_wrongBoth hR hf, if_pos (show okv (vW σ) (nI w) = true ∧ okv (vH σ) (nI h) = true from ⟨(okv_nI (by omega) (by omega)).mpr hw, (okv_nI (by omega) (by omega)).mpr hh⟩)]
theorem m_wb1 {M : jm} {σ : vl} (hR : RM (M 16) σ) (hf : wg σ) {a b : Int32} (c : ¬ okv (vW σ) a = true) : f_X6_wrongBoth M a b = -1 := by
  rw [m_wrongBoth hR hf, if_neg (fun z => c z.1)]; rfl
theorem m_wb2 {M : jm} {σ : vl} (hR : RM (M 16) σ) (hf : wg σ) {a b : Int32} (c : ¬ okv (vH σ) b = true) : f_X6_wrongBoth M a b = -1 := by
  rw [m_wrongBoth hR hf, if_neg (fun z => c z.2)]; rfl
theorem J_R (hJ : JJ M S) {M1 : jm} (e : M1 16 = M 16) : RM ((ju M1 16 11 0 0) 16) (sv S) := RM_ct (by rw [e]; exact hJ.2.1.1)
theorem J_f (hJ : JJ M S) : wf (sv S) := hJ.2.2.1
-- the age of a debt
theorem mq_age {M : jm} {σ : vl} (hR : RM (M 16) σ) (hf : wg σ) {w h : Nat} (hw : w < vW σ) (hh : h < vH σ) : ∃ M2, f_X6_age M (nI w) (nI h) = some (if σ (20 + w) h = 0 then -nI 9 else nI (σ (20 + w) h) - nI 1, M2) ∧ RM (M2 16) σ ∧ frK M M2 := by
  have hH := hf.1
  have hW := hf.2.1.2.1
  unfold f_X6_age
  have hc1 : RM ((ju M 16 11 0 0) 16) σ := RM_ct hR; have hc2 : frK M (ju M 16 11 0 0) := frK_ct M; generalize ju M 16 11 0 0 = N at hc1 hc2 ⊢
  have hd := hf.2.1.2.2.2.2 w h
  have ei : 7 * nI w + nI h = nI (7 * w + h) := by rw [show (7 : Int32) = nI 7 from rfl, pk_mul, nI_add]
  refine ⟨N, ?_, hc1, hc2⟩
  rw [m_wbOK hc1 hf hw hh, if_pos (by decide), ei, q_gd (by omega) (by omega), q_cl (by omega), hc1.2.2.2.2.2 w (by omega) h (by omega)]
  by_cases z : σ (20 + w) h = 0
  · rw [z, if_pos (show nI 0 = (0 : Int32) from rfl), if_pos rfl]; rfl
  · rw [if_neg (show ¬ nI (σ (20 + w) h) = (0 : Int32) from fun q => z ((q_eq (by omega) (by omega)).mp q)), if_neg z]; rfl
theorem ok_age (hJ : JJ M S) (a b : Int32) : OK (f_X5_age M a b) (fun M1 => f_X6_age M1 a b) := by
  obtain ⟨h0, h5, hB⟩ := J_C hJ
  have hf := J_f hJ
  have hH := hf.1
  have hW := hf.2.1.2.1
  by_cases c1 : okv (vW (sv S)) a = true
  · by_cases c2 : okv (vH (sv S)) b = true
    · obtain ⟨w, hw, rfl⟩ := okv_ex (by omega) c1
      obtain ⟨h, hh, rfl⟩ := okv_ex (by omega) c2
      have hd := hf.2.1.2.2.2.2 w h
      refine OK_q hJ (M1 := M) (r := if (sv S) (20 + w) h = 0 then -nI 9 else nI ((sv S) (20 + w) h) - nI 1) ?_ (frC_refl M) (fun hR hg => mq_age hR hg hw hh)
      simp only [f_X5_age, p_hasW h5, p_hasH h0, c1, c2, if_true, z10, if_false, p_owes hB hf.2.1 (show w < 6 by omega) (show h < 8 by omega), q_jb]
      by_cases z : (sv S) (20 + w) h = 0
      · simp only [z, if_true, z00]; rfl
      · simp only [z, if_false, z10]
        rw [show (0 : Int32) = nI 0 from rfl, p_ageBehind hB hf.2.1 hw hh (by omega), q_jb]; rfl
    · refine OK_ref (k := 1) (by omega) hJ ?_ (fun M1 e16 _ => ?_)
      · simp only [f_X5_age, p_hasW h5, p_hasH h0, c1, c2, if_true, z10, z00, if_false]; rfl
      · simp only [f_X6_age]
        rw [if_neg (by rw [m_wb2 (J_R hJ e16) (wg_of hf) c2]; decide)]; rfl
  · refine OK_ref (k := 1) (by omega) hJ ?_ (fun M1 e16 _ => ?_)
    · simp only [f_X5_age, p_hasW h5, c1, z00, if_true, if_false]; rfl
    · simp only [f_X6_age]
      rw [if_neg (by rw [m_wb1 (J_R hJ e16) (wg_of hf) c1]; decide)]; rfl
-- a house
theorem ok_houseOf (hJ : JJ M S) (a b : Int32) : OK (f_X5_houseOf M a b) (fun M1 => f_X6_houseOf M1 a b) := by
  obtain ⟨h0, h5, hB⟩ := J_C hJ
  have hf := J_f hJ
  have hH := hf.1
  have hW := hf.2.1.2.1
  by_cases c1 : okv (vH (sv S)) a = true
  · by_cases c2 : okv 8 b = true
    · obtain ⟨h, hh, rfl⟩ := okv_ex (by omega) c1
      obtain ⟨j, hj, rfl⟩ := okv_ex (by omega) c2
      obtain ⟨e1, e2, e3, e4⟩ := hB.2.1 h hh
      obtain ⟨k1, k2, k3, k4⟩ := hf.2.1.2.2.1 h hh
      have fin : ∀ r : Int32, f_X5_houseOf M (nI h) (nI j) = some (r, M) → (∀ N, RM (N 16) (sv S) → wg (sv S) → f_X6_in (nI j).toInt64 0 7 = nI 1 → f_X6_isHouse N (nI h) = nI 1 → (if nI j = 0 then (jgd (nI h) 8 (some ((N 16 1 (Int32.toNatClampNeg (nI h))), N))) else (if nI j = 1 then (jgd (nI h) 8 (some ((N 16 2 (Int32.toNatClampNeg (nI h))), N))) else (if nI j = 2 then (jgd (nI h) 8 (some ((N 16 3 (Int32.toNatClampNeg (nI h))), N))) else (if nI j = 3 then (jgd (nI h) 8 (some ((N 16 4 (Int32.toNatClampNeg (nI h))), N))) else (if nI j = 4 then (jb (f_X6_reachOf N (nI h)) fun r7 => (some (r7, N))) else (if nI j = 5 then (jb (f_X6_minutesOf N (nI h) 0) fun r8 => (some (r8, N))) else (if nI j = 6 then (jb (f_X6_owersOf N (nI h)) fun r9 => (some (r9, N))) else (jb (f_X6_seersOf N (nI h)) fun r10 => (some (r10, N)))))))))) = some (r, N)) → OK (f_X5_houseOf M (nI h) (nI j)) (fun M1 => f_X6_houseOf M1 (nI h) (nI j)) := by
        intro r ha hb
        refine OK_q hJ (M1 := M) (r := r) ha (frC_refl M) (fun hR hg => ?_)
        show ∃ M2, f_X6_houseOf M (nI h) (nI j) = some (r, M2) ∧ _
        unfold f_X6_houseOf
        have hc1 : RM ((ju M 16 11 0 0) 16) (sv S) := RM_ct hR
        have hc2 : frK M (ju M 16 11 0 0) := frK_ct M
        generalize ju M 16 11 0 0 = N at hc1 hc2 ⊢
        have e1 : f_X6_in (nI j).toInt64 0 7 = nI 1 := by rw [m_inL (nI j) 7 8 (by decide) (by decide), if_pos c2]
        have e2 : f_X6_isHouse N (nI h) = nI 1 := by rw [m_isHouse hc1 hg, if_pos c1]
        refine ⟨N, ?_, hc1, hc2⟩
        rw [e2, if_neg z10, e1, if_neg z10]
        exact hb N hc1 hg e1 e2
      have A : f_X4_hasHouse M 1 (nI h) = nI 1 := by rw [p_hasH h0, if_pos c1]
      have gd : ∀ {α : Type} (x : Option α), jgd (nI h) 8 x = x := fun x => q_gd (by omega) (by omega)
      have cl : Int32.toNatClampNeg (nI h) = h := q_cl (by omega)
      have hj' : j = 0 ∨ j = 1 ∨ j = 2 ∨ j = 3 ∨ j = 4 ∨ j = 5 ∨ j = 6 ∨ j = 7 := by omega
      rcases hj' with rfl | rfl | rfl | rfl | rfl | rfl | rfl | rfl
      · refine fin (nI ((sv S) 1 h)) ?_ (fun N hR _ _ _ => ?_)
        · unfold f_X5_houseOf; rw [A, if_neg z10, if_pos (by decide), gd, cl, e1]
        · rw [if_pos (by decide), gd, cl, (hR.2.2.2.1 h hh).1]
      · refine fin (nI ((sv S) 2 h)) ?_ (fun N hR _ _ _ => ?_)
        · unfold f_X5_houseOf; rw [A, if_neg z10, if_neg (by decide), if_pos (by decide), gd, cl, e2]
        · rw [if_neg (by decide), if_pos (by decide), gd, cl, (hR.2.2.2.1 h hh).2.1]
      · refine fin (nI ((sv S) 3 h)) ?_ (fun N hR _ _ _ => ?_)
        · unfold f_X5_houseOf; rw [A, if_neg z10, if_neg (by decide), if_neg (by decide), if_pos (by decide), gd, cl, e3]
        · rw [if_neg (by decide), if_neg (by decide), if_pos (by decide), gd, cl, (hR.2.2.2.1 h hh).2.2.1]
      · refine fin (nI ((sv S) 4 h)) ?_ (fun N hR _ _ _ => ?_)
        · unfold f_X5_houseOf; rw [A, if_neg z10, if_neg (by decide), if_neg (by decide), if_neg (by decide), if_pos (by decide), p_isLit hB hh (by omega)]
          by_cases z : (sv S) 4 h = 1
          · rw [if_pos z, if_neg z10, z]; rfl
          · rw [if_neg z, if_pos z00, show (sv S) 4 h = 0 by omega]; rfl
        · rw [if_neg (by decide), if_neg (by decide), if_neg (by decide), if_pos (by decide), gd, cl, (hR.2.2.2.1 h hh).2.2.2]
      · refine fin (nI (rch ((sv S) 1 h) ((sv S) 2 h))) ?_ (fun N hR hg _ _ => ?_)
        · unfold f_X5_houseOf; rw [A, if_neg z10, if_neg (by decide), if_neg (by decide), if_neg (by decide), if_neg (by decide), if_pos (by decide), gd, gd, cl, e1, e2, p_reach _ k1 _ k2]
        · rw [if_neg (by decide), if_neg (by decide), if_neg (by decide), if_neg (by decide), if_pos (by decide), m_reachOf hR hg hh, q_jb]
      · refine fin (nI (mns ((sv S) 1 h) ((sv S) 2 h) 0)) ?_ (fun N hR hg _ _ => ?_)
        · unfold f_X5_houseOf; rw [A, if_neg z10, if_neg (by decide), if_neg (by decide), if_neg (by decide), if_neg (by decide), if_neg (by decide), if_pos (by decide), show (0 : Int32) = nI 0 from rfl, p_minutesOf hB hf.2.1 hh (by omega), q_jb]
        · rw [if_neg (by decide), if_neg (by decide), if_neg (by decide), if_neg (by decide), if_neg (by decide), if_pos (by decide), show (0 : Int32) = nI 0 from rfl, m_minutesOf hR hg hh (by omega), q_jb]
      · refine fin (nI (bs (fun w => owe (sv S) 0 w h) (vW (sv S)))) ?_ (fun N hR hg _ _ => ?_)
        · unfold f_X5_houseOf; rw [A, if_neg z10, if_neg (by decide), if_neg (by decide), if_neg (by decide), if_neg (by decide), if_neg (by decide), if_neg (by decide), if_pos (by decide), show (0 : Int32) = nI 0 from rfl, p_owersBehind hB hf.2.1 hh (by omega), q_jb]
        · rw [if_neg (by decide), if_neg (by decide), if_neg (by decide), if_neg (by decide), if_neg (by decide), if_neg (by decide), if_pos (by decide), m_owersOf hR hg hh, q_jb]
      · refine fin (nI (bs (fun w => see (sv S) w ((sv S) 6 w) h) (vW (sv S)))) ?_ (fun N hR hg _ _ => ?_)
        · unfold f_X5_houseOf; rw [A, if_neg z10, if_neg (by decide), if_neg (by decide), if_neg (by decide), if_neg (by decide), if_neg (by decide), if_neg (by decide), if_neg (by decide), if_pos (by decide), p_seenBy hB hf.2.1 hh, q_jb]
        · rw [if_neg (by decide), if_neg (by decide), if_neg (by decide), if_neg (by decide), if_neg (by decide), if_neg (by decide), if_neg (by decide), m_seersOf hR hg hh, q_jb]
    · have nn : ∀ j, j < 8 → ¬ b = nI j := fun j hj => okv_ne (by omega) c2 hj
      refine OK_ref (k := 2) (by omega) hJ ?_ (fun M1 e16 _ => ?_)
      · simp only [f_X5_houseOf, p_hasH h0, c1, if_true, z10, if_false]
        rw [if_neg (show ¬ b = (0 : Int32) from nn 0 (by omega)), if_neg (show ¬ b = (1 : Int32) from nn 1 (by omega)), if_neg (show ¬ b = (2 : Int32) from nn 2 (by omega)), if_neg (show ¬ b = (3 : Int32) from nn 3 (by omega)), if_neg (show ¬ b = (4 : Int32) from nn 4 (by omega)), if_neg (show ¬ b = (5 : Int32) from nn 5 (by omega)), if_neg (show ¬ b = (6 : Int32) from nn 6 (by omega)), if_neg (show ¬ b = (7 : Int32) from nn 7 (by omega))]; rfl
      · have e := m_isHouse (J_R hJ e16) (wg_of hf) a
        simp only [f_X6_houseOf]
        rw [if_neg (show ¬ f_X6_isHouse (ju M1 16 11 0 0) a = 0 by rw [e, if_pos c1]; decide), if_pos (by rw [m_inL b 7 8 (by decide) (by decide), if_neg c2]; rfl)]
        unfold f_X6_houseOf_j25
        rw [if_neg (show ¬ f_X6_isHouse (ju M1 16 11 0 0) a = 0 by rw [e, if_pos c1]; decide)]; rfl
  · refine OK_ref (k := 1) (by omega) hJ ?_ (fun M1 e16 _ => ?_)
    · simp only [f_X5_houseOf, p_hasH h0, c1, z00, if_true, if_false]; rfl
    · have e := m_isHouse (J_R hJ e16) (wg_of hf) a
      simp only [f_X6_houseOf]
      rw [if_pos (show f_X6_isHouse (ju M1 16 11 0 0) a = 0 by rw [e, if_neg c1]; rfl)]
      unfold f_X6_houseOf_j25
      rw [if_pos (show f_X6_isHouse (ju M1 16 11 0 0) a = 0 by rw [e, if_neg c1]; rfl)]; rfl
end Asks
