/-! richest, spread, a walker -/
section Asks
variable {M : jm} {S : St} {σ : vl}
theorem p_mostOwed (h0 : M 1 0 0 = nI (vH σ)) (hB : RB (M 1) σ (vH σ)) (hf : wf σ) : f_X5_mostOwed M = some (ff (amf (fun h => cn (fun w => owe σ 0 w h) (vW σ))) (vH σ) 0 (-nI 9, nI 0)).1 := by
  have hH := hf.1; have hW := hf.2.1.2.1
  unfold f_X5_mostOwed
  simp only [q_lit]
  rw [loop0 (L := fun k (a : Int32 × Int32) i => f_X5_mostOwed_l7 M k a.1 a.2 i) (f := amf (fun h => cn (fun w => owe σ 0 w h) (vW σ))) (K := fun a => some a.1) (n := vH σ) (a := (-nI 9, nI 0))]
  · intro k a i hi
    simp only [f_X5_mostOwed_l7]
    rw [if_neg (by rw [h0, q_le (by omega) (by omega)]; omega), show (0 : Int32) = nI 0 from rfl, p_owersBehind hB hf.2.1 hi (by omega), q_jb, p_bitCount (by omega), show nI i + 1 = nI (i + 1) from nI_add i 1]
    unfold amf
    split <;> rfl
  · intro k a
    simp only [f_X5_mostOwed_l7]
    rw [if_pos (by rw [h0, q_le (by omega) (by omega)]; omega)]
  · omega
theorem p_debtor (h0 : M 1 0 0 = nI (vH σ)) (hB : RB (M 1) σ (vH σ)) (hf : wf σ) : f_X5_debtor M = some (ff (amf (price σ 0)) (vW σ) 0 (-nI 9, nI 0)).1 := by
  have hH := hf.1; have hW := hf.2.1.2.1
  have h5 := hB.1
  unfold f_X5_debtor
  simp only [q_lit]
  rw [loop0 (L := fun k (a : Int32 × Int32) i => f_X5_debtor_l7 M k a.1 a.2 i) (f := amf (price σ 0)) (K := fun a => some a.1) (n := vW σ) (a := (-nI 9, nI 0))]
  · intro k a i hi
    simp only [f_X5_debtor_l7]
    rw [if_neg (by rw [h5, q_le (by omega) (by omega)]; omega), show (0 : Int32) = nI 0 from rfl, p_priceBehind h0 hB hf.2.1 hi (by omega), q_jb, show nI i + 1 = nI (i + 1) from nI_add i 1]
    unfold amf
    split <;> rfl
  · intro k a
    simp only [f_X5_debtor_l7]
    rw [if_pos (by rw [h5, q_le (by omega) (by omega)]; omega)]
  · omega
theorem m_rich {N : jm} (hc1 : RM (N 16) σ) (hf : wg σ) (v : Int32) (n : Nat) (g : Nat → Nat) (hn : n ≤ 7) (h1 : (v = 0 ∧ n = vH σ ∧ g = fun h => cn (fun w => owe σ 0 w h) (vW σ)) ∨ (v = 1 ∧ n = vW σ ∧ g = price σ 0)) : f_X6_richest_l30 v 10000 N (-9) 0 0 = some ((ff (amf g) n 0 (-nI 9, nI 0)).1, N) := by
  have hH := hf.1; have hW := hf.2.1.2.1
  simp only [q_lit]
  rw [loop0 (L := fun k (a : Int32 × Int32) i => f_X6_richest_l30 v k N a.1 a.2 i) (f := amf g) (K := fun a => some (a.1, N)) (n := n) (a := (-nI 9, nI 0))]
  · intro k a i hi
    simp only [f_X6_richest_l30, f_X6_richest_j47, f_X6_richest_j72, f_X6_richest_j86]
    rcases h1 with ⟨rfl, rfl, rfl⟩ | ⟨rfl, rfl, rfl⟩
    · rw [if_pos rfl, if_pos rfl, if_neg (by rw [hc1.1, q_le (by omega) (by omega)]; omega), m_owersOf hc1 hf hi, q_jb, m_onesOf (by omega), q_jb, show nI i + 1 = nI (i + 1) from nI_add i 1]
      unfold amf
      by_cases z : nI (cn (fun w => owe σ 0 w i) (vW σ)) ≤ a.2
      · rw [if_pos z, if_pos z, if_pos z]
      · rw [if_neg z, if_neg z, if_neg z]
    · rw [if_neg (show ¬ (1 : Int32) = 0 by decide), if_neg (by rw [hc1.2.1, q_le (by omega) (by omega)]; omega), if_neg (show ¬ (1 : Int32) = 0 by decide), m_priceOf hc1 hf hi, q_jb, show nI i + 1 = nI (i + 1) from nI_add i 1]
      unfold amf
      by_cases z : nI (price σ 0 i) ≤ a.2
      · rw [if_pos z, if_pos z, if_pos z]
      · rw [if_neg z, if_neg z, if_neg z]
  · intro k a
    simp only [f_X6_richest_l30, f_X6_richest_j47]
    rcases h1 with ⟨rfl, rfl, rfl⟩ | ⟨rfl, rfl, rfl⟩
    · rw [if_pos rfl, if_pos (by rw [hc1.1, q_le (by omega) (by omega)]; omega)]
    · rw [if_neg (by decide), if_pos (by rw [hc1.2.1, q_le (by omega) (by omega)]; omega)]
  · omega
theorem ok_richest (hJ : JJ M S) (a : Int32) : OK (f_X5_richest M a) (fun M1 => f_X6_richest M1 a) := by
  obtain ⟨h0, h5, hB⟩ := J_C hJ; have hf := J_f hJ; have hH := hf.1; have hW := hf.2.1.2.1
  by_cases c1 : okv 2 a = true
  · have main : ∀ n g, n ≤ 7 → ((a = 0 ∧ n = vH (sv S) ∧ g = fun h => cn (fun w => owe (sv S) 0 w h) (vW (sv S))) ∨ (a = 1 ∧ n = vW (sv S) ∧ g = price (sv S) 0)) → f_X5_richest M a = some ((ff (amf g) n 0 (-nI 9, nI 0)).1, M) → OK (f_X5_richest M a) (fun M1 => f_X6_richest M1 a) := by
      intro n g hn h1 ha
      refine OK_q hJ ha (frC_refl M) (fun hR hg => ?_)
      show ∃ M2, f_X6_richest M a = _ ∧ _
      unfold f_X6_richest
      have hc1 : RM ((ju M 16 11 0 0) 16) (sv S) := RM_ct hR
      have hc2 : frK M (ju M 16 11 0 0) := frK_ct M
      generalize ju M 16 11 0 0 = N at hc1 hc2 ⊢
      refine ⟨N, ?_, hc1, hc2⟩
      rw [m_inL a 1 2 (by decide) (by decide), if_pos c1, if_neg z10]
      exact m_rich hc1 hg a n g hn h1
    obtain ⟨j, hj, rfl⟩ := okv_ex (by omega) c1
    have hj' : j = 0 ∨ j = 1 := by omega
    rcases hj' with rfl | rfl
    · refine main (vH (sv S)) (fun h => cn (fun w => owe (sv S) 0 w h) (vW (sv S))) (by omega) (Or.inl ⟨rfl, rfl, rfl⟩) ?_
      unfold f_X5_richest f_X5_richest_j16
      rw [if_pos z00, if_pos z00, p_mostOwed h0 hB hf, q_jb]
    · refine main (vW (sv S)) (price (sv S) 0) (by omega) (Or.inr ⟨rfl, rfl, rfl⟩) ?_
      unfold f_X5_richest f_X5_richest_j16
      rw [if_neg z10, if_pos (show nI 1 = (1 : Int32) from rfl), if_neg z10, p_debtor h0 hB hf, q_jb]
  · refine OK_ref (k := 2) (by omega) hJ ?_ (fun M1 e16 _ => ?_)
    · unfold f_X5_richest
      rw [if_neg (show ¬ a = (0 : Int32) from okv_ne (j := 0) (by omega) c1 (by omega)), if_neg (show ¬ a = (1 : Int32) from okv_ne (j := 1) (by omega) c1 (by omega))]; rfl
    · simp only [f_X6_richest]
      rw [if_pos (by rw [m_inL a 1 2 (by decide) (by decide), if_neg c1]; rfl)]; rfl
-- spread
theorem p_debtless (h0 : M 1 0 0 = nI (vH σ)) (hB : RB (M 1) σ (vH σ)) (hf : wf σ) : f_X5_debtless M = some (nI (bs (fun w => decide (bs (owe σ 0 w) (vH σ) = 0)) (vW σ))) := by
  have hH := hf.1; have hW := hf.2.1.2.1
  have h5 := hB.1
  unfold f_X5_debtless
  simp only [q_lit]
  rw [loop0 (L := fun k a i => f_X5_debtless_l4 M k a i) (f := fun w z => if decide (bs (owe σ 0 w) (vH σ) = 0) then z ||| bi w else z) (K := fun a => some a) (n := vW σ)]
  · rw [ff_bs (fun w => decide (bs (owe σ 0 w) (vH σ) = 0)) _ (by omega)]
  · intro k a i hi
    have hb := bs_lt8 (p := owe σ 0 i) (n := vH σ) (by omega)
    simp only [f_X5_debtless_l4]
    rw [if_neg (by rw [h5, q_le (by omega) (by omega)]; omega)]
    simp (disch := omega) only [q_lit, nI_add, p_owesBehind h0 hB hf.2.1 hi (show 0 ≤ 99 by omega), q_jb, q_eq]
    by_cases z : bs (owe σ 0 i) (vH σ) = 0
    · rw [if_pos z]; simp [z]; rfl
    · rw [if_neg z]; simp [z]
  · intro k a
    simp only [f_X5_debtless_l4]
    rw [if_pos (by rw [h5, q_le (by omega) (by omega)]; omega)]
  · omega
theorem p_owedByOne (h0 : M 1 0 0 = nI (vH σ)) (hB : RB (M 1) σ (vH σ)) (hf : wf σ) : f_X5_owedByOne M = some (nI (bs (fun h => decide (cn (fun w => owe σ 0 w h) (vW σ) = 1)) (vH σ))) := by
  have hH := hf.1; have hW := hf.2.1.2.1
  unfold f_X5_owedByOne
  simp only [q_lit]
  rw [loop0 (L := fun k a i => f_X5_owedByOne_l4 M k a i) (f := fun h z => if decide (cn (fun w => owe σ 0 w h) (vW σ) = 1) then z ||| bi h else z) (K := fun a => some a) (n := vH σ)]
  · rw [ff_bs (fun h => decide (cn (fun w => owe σ 0 w h) (vW σ) = 1)) _ (by omega)]
  · intro k a i hi
    have hb := cn_le (fun w => owe σ 0 w i) (vW σ)
    simp only [f_X5_owedByOne_l4]
    rw [if_neg (by rw [h0, q_le (by omega) (by omega)]; omega), show (0 : Int32) = nI 0 from rfl, p_owersBehind hB hf.2.1 hi (by omega), q_jb, p_bitCount (by omega)]
    simp (disch := omega) only [q_lit, nI_add, q_eq]
    by_cases z : cn (fun w => owe σ 0 w i) (vW σ) = 1
    · rw [if_pos z]; simp [z]; rfl
    · rw [if_neg z]; simp [z]
  · intro k a
    simp only [f_X5_owedByOne_l4]
    rw [if_pos (by rw [h0, q_le (by omega) (by omega)]; omega)]
  · omega
theorem m_spread0 {N : jm} (hc1 : RM (N 16) σ) (hf : wg σ) : f_X6_spread_l26 0 10000 N 0 0 = some (nI (bs (fun w => decide (bs (owe σ 0 w) (vH σ) = 0)) (vW σ)), N) := by
  have hH := hf.1; have hW := hf.2.1.2.1
  simp only [q_lit]
  rw [loop0 (L := fun k a i => f_X6_spread_l26 (nI 0) k N a i) (f := fun w z => if decide (bs (owe σ 0 w) (vH σ) = 0) then z ||| bi w else z) (K := fun a => some (a, N)) (n := vW σ)]
  · rw [ff_bs (fun w => decide (bs (owe σ 0 w) (vH σ) = 0)) _ (by omega)]
  · intro k a i hi
    have hb := bs_lt8 (p := owe σ 0 i) (n := vH σ) (by omega)
    simp only [f_X6_spread_l26]
    rw [if_neg (by rw [hc1.2.1, q_le (by omega) (by omega)]; omega), if_pos z00, m_owesBits hc1 hf hi, q_jb]
    simp (disch := omega) only [q_lit, nI_add, q_eq, q_or0]
    by_cases z : bs (owe σ 0 i) (vH σ) = 0
    · rw [if_pos z]; simp [z]; rfl
    · rw [if_neg z]; simp [z]
  · intro k a
    have e : ∀ k, f_X6_spread_l64 (nI 0) (k + 1) N a 0 = some (a, N) := by
      intro k
      simp only [f_X6_spread_l64]
      split
      · rfl
      · rw [if_neg (by decide)]
    simp only [f_X6_spread_l26, f_X6_spread_j62]
    rw [if_pos (by rw [hc1.2.1, q_le (by omega) (by omega)]; omega)]
    exact e 9999
  · omega
theorem m_spread1 {N : jm} (hc1 : RM (N 16) σ) (hf : wg σ) : f_X6_spread_l26 1 10000 N 0 0 = some (nI (bs (fun h => decide (cn (fun w => owe σ 0 w h) (vW σ) = 1)) (vH σ)), N) := by
  have hH := hf.1; have hW := hf.2.1.2.1
  have e0 : ∀ k, f_X6_spread_l26 1 (k + 1) N 0 0 = f_X6_spread_l64 1 10000 N 0 0 := by
    intro k
    simp only [f_X6_spread_l26, f_X6_spread_j62]
    split
    · rfl
    · rw [if_neg (by decide)]
  rw [show f_X6_spread_l26 1 10000 N 0 0 = f_X6_spread_l64 1 10000 N 0 0 from e0 9999]
  simp only [q_lit]
  rw [loop0 (L := fun k a i => f_X6_spread_l64 (nI 1) k N a i) (f := fun h z => if decide (cn (fun w => owe σ 0 w h) (vW σ) = 1) then z ||| bi h else z) (K := fun a => some (a, N)) (n := vH σ)]
  · rw [ff_bs (fun h => decide (cn (fun w => owe σ 0 w h) (vW σ) = 1)) _ (by omega)]
  · intro k a i hi
    have hb := cn_le (fun w => owe σ 0 w i) (vW σ)
    simp only [f_X6_spread_l64]
    rw [if_neg (by rw [hc1.1, q_le (by omega) (by omega)]; omega), if_pos (show nI 1 = (1 : Int32) from rfl), m_owersOf hc1 hf hi, q_jb, m_onesOf (by omega), q_jb]
    simp (disch := omega) only [q_lit, nI_add, q_eq, q_or0]
    by_cases z : cn (fun w => owe σ 0 w i) (vW σ) = 1
    · rw [if_pos z]; simp [z]; rfl
    · rw [if_neg z]; simp [z]
  · intro k a
    simp only [f_X6_spread_l64]
    rw [if_pos (by rw [hc1.1, q_le (by omega) (by omega)]; omega)]
  · omega
theorem ok_spread (hJ : JJ M S) (a : Int32) : OK (f_X5_spread M a) (fun M1 => f_X6_spread M1 a) := by
  obtain ⟨h0, h5, hB⟩ := J_C hJ; have hf := J_f hJ; have hH := hf.1; have hW := hf.2.1.2.1
  by_cases c1 : okv 2 a = true
  · have main : ∀ r, (∀ N, RM (N 16) (sv S) → f_X6_spread_l26 a 10000 N 0 0 = some (r, N)) → f_X5_spread M a = some (r, M) → OK (f_X5_spread M a) (fun M1 => f_X6_spread M1 a) := by
      intro r hm ha
      refine OK_q hJ ha (frC_refl M) (fun hR hg => ?_)
      show ∃ M2, f_X6_spread M a = _ ∧ _
      unfold f_X6_spread
      have hc1 : RM ((ju M 16 11 0 0) 16) (sv S) := RM_ct hR
      have hc2 : frK M (ju M 16 11 0 0) := frK_ct M
      generalize ju M 16 11 0 0 = N at hc1 hc2 ⊢
      refine ⟨N, ?_, hc1, hc2⟩
      rw [m_inL a 1 2 (by decide) (by decide), if_pos c1, if_neg z10]
      exact hm N hc1
    obtain ⟨j, hj, rfl⟩ := okv_ex (by omega) c1
    have hj' : j = 0 ∨ j = 1 := by omega
    rcases hj' with rfl | rfl
    · refine main _ (fun N hN => m_spread0 hN (wg_of hf)) ?_
      unfold f_X5_spread f_X5_spread_j16
      rw [if_pos z00, if_pos z00, p_debtless h0 hB hf, q_jb]
    · refine main _ (fun N hN => m_spread1 hN (wg_of hf)) ?_
      unfold f_X5_spread f_X5_spread_j16
      rw [if_neg z10, if_pos (show nI 1 = (1 : Int32) from rfl), if_neg z10, p_owedByOne h0 hB hf, q_jb]
  · refine OK_ref (k := 2) (by omega) hJ ?_ (fun M1 e16 _ => ?_)
    · unfold f_X5_spread
      rw [if_neg (show ¬ a = (0 : Int32) from okv_ne (j := 0) (by omega) c1 (by omega)), if_neg (show ¬ a = (1 : Int32) from okv_ne (j := 1) (by omega) c1 (by omega))]; rfl
    · simp only [f_X6_spread]
      rw [if_pos (by rw [m_inL a 1 2 (by decide) (by decide), if_neg c1]; rfl)]; rfl
-- a walker
theorem ok_walkerOf (hJ : JJ M S) (a b : Int32) : OK (f_X5_walkerOf M a b) (fun M1 => f_X6_walkerOf M1 a b) := by
  obtain ⟨h0, h5, hB⟩ := J_C hJ; have hf := J_f hJ; have hH := hf.1; have hW := hf.2.1.2.1
  by_cases c1 : okv (vW (sv S)) a = true
  · by_cases c2 : okv 6 b = true
    · obtain ⟨w, hw, rfl⟩ := okv_ex (by omega) c1
      obtain ⟨j, hj, rfl⟩ := okv_ex (by omega) c2
      obtain ⟨e1, e2, e3⟩ := hB.2.2.1 w hw
      obtain ⟨k1, k2, k3⟩ := hf.2.1.2.2.2.1 w hw
      have fin : ∀ r : Int32, f_X5_walkerOf M (nI w) (nI j) = some (r, M) → (∀ N, RM (N 16) (sv S) → wg (sv S) → (if nI j = 0 then (jgd (nI w) 6 (some ((N 16 6 (Int32.toNatClampNeg (nI w))), N))) else (if nI j = 1 then (jgd (nI w) 6 (some ((N 16 7 (Int32.toNatClampNeg (nI w))), N))) else (if nI j = 2 then (jgd (nI w) 6 (some ((N 16 8 (Int32.toNatClampNeg (nI w))), N))) else (if nI j = 3 then (jb (f_X6_owesBits N (nI w)) fun r7 => (some (r7, N))) else (if nI j = 4 then (jgd (nI w) 6 (jb (f_X6_seenFrom N (nI w) (N 16 6 (Int32.toNatClampNeg (nI w)))) fun r8 => (some (r8, N)))) else (jb (f_X6_priceOf N (nI w)) fun r9 => (some (r9, N)))))))) = some (r, N)) → OK (f_X5_walkerOf M (nI w) (nI j)) (fun M1 => f_X6_walkerOf M1 (nI w) (nI j)) := by
        intro r ha hb
        refine OK_q hJ (M1 := M) (r := r) ha (frC_refl M) (fun hR hg => ?_)
        show ∃ M2, f_X6_walkerOf M (nI w) (nI j) = some (r, M2) ∧ _
        unfold f_X6_walkerOf
        have hc1 : RM ((ju M 16 11 0 0) 16) (sv S) := RM_ct hR
        have hc2 : frK M (ju M 16 11 0 0) := frK_ct M
        generalize ju M 16 11 0 0 = N at hc1 hc2 ⊢
        refine ⟨N, ?_, hc1, hc2⟩
        rw [show f_X6_isWalker N (nI w) = nI 1 by rw [m_isWalker hc1 hg, if_pos c1], if_neg z10, show f_X6_in (nI j).toInt64 0 5 = nI 1 by rw [m_inL (nI j) 5 6 (by decide) (by decide), if_pos c2], if_neg z10]
        exact hb N hc1 hg
      have A : f_X4_hasWalker M 1 (nI w) = nI 1 := by rw [p_hasW h5, if_pos c1]
      have gd : ∀ {α : Type} (x : Option α), jgd (nI w) 6 x = x := fun x => q_gd (by omega) (by omega)
      have cl : Int32.toNatClampNeg (nI w) = w := q_cl (by omega)
      have hj' : j = 0 ∨ j = 1 ∨ j = 2 ∨ j = 3 ∨ j = 4 ∨ j = 5 := by omega
      rcases hj' with rfl | rfl | rfl | rfl | rfl | rfl
      · refine fin (nI ((sv S) 6 w)) ?_ (fun N hR _ => ?_)
        · unfold f_X5_walkerOf; rw [A, if_neg z10, if_pos (by decide), gd, cl, e1]
        · rw [if_pos (by decide), gd, cl, (hR.2.2.2.2.1 w hw).1]
      · refine fin (nI ((sv S) 7 w)) ?_ (fun N hR _ => ?_)
        · unfold f_X5_walkerOf; rw [A, if_neg z10, if_neg (by decide), if_pos (by decide), gd, cl, e2]
        · rw [if_neg (by decide), if_pos (by decide), gd, cl, (hR.2.2.2.2.1 w hw).2.1]
      · refine fin (nI ((sv S) 8 w)) ?_ (fun N hR _ => ?_)
        · unfold f_X5_walkerOf; rw [A, if_neg z10, if_neg (by decide), if_neg (by decide), if_pos (by decide), gd, cl, e3]
        · rw [if_neg (by decide), if_neg (by decide), if_pos (by decide), gd, cl, (hR.2.2.2.2.1 w hw).2.2]
      · refine fin (nI (bs (owe (sv S) 0 w) (vH (sv S)))) ?_ (fun N hR hg => ?_)
        · unfold f_X5_walkerOf; rw [A, if_neg z10, if_neg (by decide), if_neg (by decide), if_neg (by decide), if_pos (by decide), show (0 : Int32) = nI 0 from rfl, p_owesBehind h0 hB hf.2.1 hw (by omega), q_jb]
        · rw [if_neg (by decide), if_neg (by decide), if_neg (by decide), if_pos (by decide), m_owesBits hR hg hw, q_jb]
      · refine fin (nI (bs (see (sv S) w ((sv S) 6 w)) (vH (sv S)))) ?_ (fun N hR hg => ?_)
        · unfold f_X5_walkerOf; rw [A, if_neg z10, if_neg (by decide), if_neg (by decide), if_neg (by decide), if_neg (by decide), if_pos (by decide), gd, cl, e1, p_seesFrom h0 hB hf.2.1 hw k1, q_jb]
        · rw [if_neg (by decide), if_neg (by decide), if_neg (by decide), if_neg (by decide), if_pos (by decide), gd, cl, (hR.2.2.2.2.1 w hw).1, m_seenFrom hR hg hw k1, q_jb]
      · refine fin (nI (price (sv S) 0 w)) ?_ (fun N hR hg => ?_)
        · unfold f_X5_walkerOf; rw [A, if_neg z10, if_neg (by decide), if_neg (by decide), if_neg (by decide), if_neg (by decide), if_neg (by decide), if_pos (by decide), show (0 : Int32) = nI 0 from rfl, p_priceBehind h0 hB hf.2.1 hw (by omega), q_jb]
        · rw [if_neg (by decide), if_neg (by decide), if_neg (by decide), if_neg (by decide), if_neg (by decide), m_priceOf hR hg hw, q_jb]
    · have nn : ∀ j, j < 6 → ¬ b = nI j := fun j hj => okv_ne (by omega) c2 hj
      refine OK_ref (k := 2) (by omega) hJ ?_ (fun M1 e16 _ => ?_)
      · unfold f_X5_walkerOf
        rw [show f_X4_hasWalker M 1 a = nI 1 from by rw [p_hasW h5, if_pos c1], if_neg z10]
        rw [if_neg (show ¬ b = (0 : Int32) from nn 0 (by omega)), if_neg (show ¬ b = (1 : Int32) from nn 1 (by omega)), if_neg (show ¬ b = (2 : Int32) from nn 2 (by omega)), if_neg (show ¬ b = (3 : Int32) from nn 3 (by omega)), if_neg (show ¬ b = (4 : Int32) from nn 4 (by omega)), if_neg (show ¬ b = (5 : Int32) from nn 5 (by omega))]; rfl
      · simp only [f_X6_walkerOf]
        rw [if_neg (show ¬ f_X6_isWalker (ju M1 16 11 0 0) a = 0 from by rw [m_isWalker (J_R hJ e16) (wg_of hf), if_pos c1]; decide), if_pos (by rw [m_inL b 5 6 (by decide) (by decide), if_neg c2]; rfl)]
        unfold f_X6_walkerOf_j25
        rw [if_neg (show ¬ f_X6_isWalker (ju M1 16 11 0 0) a = 0 from by rw [m_isWalker (J_R hJ e16) (wg_of hf), if_pos c1]; decide)]; rfl
  · refine OK_ref (k := 1) (by omega) hJ ?_ (fun M1 e16 _ => ?_)
    · unfold f_X5_walkerOf
      rw [show f_X4_hasWalker M 1 a = nI 0 from by rw [p_hasW h5, if_neg c1], if_pos z00]; rfl
    · simp only [f_X6_walkerOf]
      rw [if_pos (show f_X6_isWalker (ju M1 16 11 0 0) a = 0 from by rw [m_isWalker (J_R hJ e16) (wg_of hf), if_neg c1]; rfl)]
      unfold f_X6_walkerOf_j25
      rw [if_pos (show f_X6_isWalker (ju M1 16 11 0 0) a = 0 from by rw [m_isWalker (J_R hJ e16) (wg_of hf), if_neg c1]; rfl)]; rfl
end Asks
