/-! shut -/
section Asks
variable {M : jm} {S : St} {σ : vl}
def darkH (σ : vl) (h : Nat) : vl := vu σ 4 h 0
def lsf (g : Nat → Nat) (i : Nat) (a : Int32 × Int32) : Int32 × Int32 := if a.2 ≤ nI (g i) then a else (nI i, nI (g i))
theorem lsf_inv {g : Nat → Nat} {b : Nat} {v : Int32} (hb : b < 2 ^ 31) (n : Nat) (hg : ∀ i, i < n → g i < 2 ^ 31) : ∃ l, (ff (lsf g) n 0 (v, nI b)).2 = nI l ∧ l ≤ b := by
  refine ff_inv (f := lsf g) (fun _ (a : Int32 × Int32) => ∃ l, a.2 = nI l ∧ l ≤ b) n 0 (v, nI b) ⟨b, rfl, Nat.le_refl _⟩ ?_
  rintro j _ hj a ⟨l, e, hl⟩
  unfold lsf
  rw [e]
  by_cases c : nI l ≤ nI (g j)
  · rw [if_pos c]; exact ⟨l, e, hl⟩
  · rw [if_neg c]
    rw [q_le (by omega) (hg j (by omega))] at c
    exact ⟨g j, rfl, by omega⟩
theorem dark_lit {h : Nat} (e : σ 4 h = 1) : turnH σ h = darkH σ h := by unfold turnH darkH; rw [e]
theorem dark_dark {h : Nat} (e : σ 4 h = 0) : darkH σ h = σ := by
  funext a b
  unfold darkH vu
  by_cases c : a = 4 ∧ b = h
  · rw [if_pos c, c.1, c.2, e]
  · rw [if_neg c]
theorem wf_dark {h : Nat} (hf : wf σ) (h4 : σ 4 h ≤ 1) : wf (darkH σ h) := by
  by_cases e : σ 4 h = 1
  · rw [← dark_lit e]; exact wf_turn hf
  · rw [dark_dark (by omega)]; exact hf
theorem x_shut (hJ : JJ M S) {n : Nat} (hn : n ≤ 60) : ∃ A, f_X5_shut M (nI n) = some ((ff (lsf (fun h => prices (darkH (sv S) h) n)) (vH (sv S)) 0 (-nI 9, nI (prices (sv S) n))).1, A) ∧ frC M A := by
  obtain ⟨h0, h5, hB⟩ := J_C hJ; have hf := J_f hJ; have hH := hf.1; have hW := hf.2.1.2.1
  unfold f_X5_shut
  rw [if_pos (r_lo (by omega)), if_pos (r_hi (c := 60) hn (by decide) rfl), p_pricesBehind h0 hB hf.2.1 (by omega), q_jb]
  refine loopE (L := fun k (a : jm × Int32 × Int32) i => f_X5_shut_l39 (nI n) k a.1 a.2.1 a.2.2 i) (P := fun i a => (∀ o, o ≠ 2 → a.1 o = M o) ∧ a.2 = ff (lsf (fun h => prices (darkH (sv S) h) n)) i 0 (-nI 9, nI (prices (sv S) n))) (Z := fun r => ∃ A, r = some ((ff (lsf (fun h => prices (darkH (sv S) h) n)) (vH (sv S)) 0 (-nI 9, nI (prices (sv S) n))).1, A) ∧ frC M A) (n := vH (sv S)) ?_ ?_ (vH (sv S)) 0 10000 (M, -9, nI (prices (sv S) n)) (by omega) (by omega) ⟨fun _ _ => rfl, rfl⟩
  · rintro k ⟨A, v⟩ i hi ⟨p1, p2⟩
    simp only at p1 p2
    subst p2
    have h4 := (hf.2.1.2.2.1 i hi).2.2.2
    have hb : prices (sv S) n < 2 ^ 31 := by have := prices_le (n := n) hf.2.1; omega
    have e1 : A 1 = M 1 := p1 1 (by omega)
    have el : f_X4_isLit A 1 (nI i) = if (sv S) 4 i = 1 then nI 1 else nI 0 := p_isLit (σ := sv S) (N := vH (sv S)) (by rw [e1]; exact hB) hi (by omega)
    have hfd := wf_dark (h := i) hf h4
    have hg : prices (darkH (sv S) i) n < 2 ^ 31 := by have := prices_le (n := n) hfd.2.1; omega
    by_cases z : (sv S) 4 i = 1
    · obtain ⟨B, b1, b2, b3⟩ := p_becomeRW (M := A) (o := 2) (o1 := 1) (σ := sv S) (by omega) (by rw [e1]; exact hJ.1.1)
      obtain ⟨C, c1, c2, c3⟩ := p_turn b3 hf (h := i) (by omega)
      rw [if_pos hi] at c1 c3
      rw [dark_lit z] at c3
      refine ⟨(C, ff (lsf (fun h => prices (darkH (sv S) h) n)) (i + 1) 0 (-nI 9, nI (prices (sv S) n))), ?_, fun o ho => by show C o = M o; rw [c2 o ho, b2 o ho, p1 o ho], rfl⟩
      simp only [f_X5_shut_l39]
      rw [if_neg (by rw [e1, h0, q_le (by omega) (by omega)]; omega), el, if_pos z, if_neg z10, b1, q_jb, c1, q_jb2, p_pricesBehind c3.1 c3.2.2 hfd.2.1 (by omega), q_jb, show nI i + 1 = nI (i + 1) from nI_add i 1, ff_succ, Nat.zero_add]
      unfold lsf
      split <;> rfl
    · refine ⟨(A, ff (lsf (fun h => prices (darkH (sv S) h) n)) (i + 1) 0 (-nI 9, nI (prices (sv S) n))), ?_, p1, rfl⟩
      obtain ⟨l, l1, l2⟩ := lsf_inv (g := fun h => prices (darkH (sv S) h) n) (b := prices (sv S) n) (v := -nI 9) hb i (fun j q => by
        show prices (darkH (sv S) j) n < 2 ^ 31
        have := prices_le (n := n) (wf_dark (h := j) hf (hf.2.1.2.2.1 j (by omega)).2.2.2).2.1
        omega)
      simp only [f_X5_shut_l39]
      rw [if_neg (by rw [e1, h0, q_le (by omega) (by omega)]; omega), el, if_neg z, if_pos z00, show nI i + 1 = nI (i + 1) from nI_add i 1, ff_succ, Nat.zero_add]
      have ek : lsf (fun h => prices (darkH (sv S) h) n) i (ff (lsf (fun h => prices (darkH (sv S) h) n)) i 0 (-nI 9, nI (prices (sv S) n))) = ff (lsf (fun h => prices (darkH (sv S) h) n)) i 0 (-nI 9, nI (prices (sv S) n)) := by
        show (if _ ≤ _ then _ else _) = _
        rw [if_pos]
        rw [l1]
        show nI l ≤ nI (prices (darkH (sv S) i) n)
        rw [dark_dark (by omega), q_le (by omega) hb]; exact l2
      rw [ek]
  · rintro k ⟨A, v⟩ ⟨p1, p2⟩
    simp only at p1 p2
    subst p2
    refine ⟨A, ?_, fun o h1 _ _ => p1 o h1⟩
    simp only [f_X5_shut_l39]
    rw [if_pos (by rw [p1 1 (by omega), h0, q_le (by omega) (by omega)]; omega)]
theorem mq_shut (hR : RM (M 16) σ) (hf : wf σ) {n : Nat} (hn : n ≤ 60) : ∃ M2, f_X6_shut M (nI n) = some ((ff (lsf (fun h => prices (darkH σ h) n)) (vH σ) 0 (-nI 9, nI (prices σ n))).1, M2) ∧ RM (M2 16) σ ∧ frK M M2 := by
  have hH := hf.1; have hW := hf.2.1.2.1
  have hg := wg_of hf
  unfold f_X6_shut
  have hc1 : RM ((ju M 16 11 0 0) 16) σ := RM_ct hR; have hc2 : frK M (ju M 16 11 0 0) := frK_ct M; generalize ju M 16 11 0 0 = N at hc1 hc2 ⊢
  obtain ⟨M1, M2, M3, e1, e2, r2, e3, r3, f3, k3⟩ := m_ahead hc1 hg (n := n) (by omega)
  rw [wn_ok (c := 60) hn (by decide) rfl, if_pos n0, e1, q_jb, e2, q_jb, m_allPrices r2 (wg_ev hg), q_jb, e3, q_jb, prices_ev]
  have key : ∃ A, f_X6_shut_l48 (nI n) 10000 M3 (-9) (nI (prices σ n)) 0 = some ((ff (lsf (fun h => prices (darkH σ h) n)) (vH σ) 0 (-nI 9, nI (prices σ n))).1, A) ∧ RM (A 16) σ ∧ frT N A := by
    refine loopE (L := fun k (a : jm × Int32 × Int32) i => f_X6_shut_l48 (nI n) k a.1 a.2.1 a.2.2 i) (P := fun i a => RM (a.1 16) σ ∧ KM (a.1 16 21) σ ∧ frT N a.1 ∧ a.2 = ff (lsf (fun h => prices (darkH σ h) n)) i 0 (-nI 9, nI (prices σ n))) (Z := fun r => ∃ A, r = some ((ff (lsf (fun h => prices (darkH σ h) n)) (vH σ) 0 (-nI 9, nI (prices σ n))).1, A) ∧ RM (A 16) σ ∧ frT N A) (n := vH σ) ?_ ?_ (vH σ) 0 10000 (M3, -9, nI (prices σ n)) (by omega) (by omega) ⟨r3, k3, f3, rfl⟩
    · rintro k ⟨A, v⟩ i hi ⟨p1, p2, p3, p4⟩
      simp only at p1 p2 p3 p4
      subst p4
      have hfd := wf_dark (h := i) hf (hf.2.1.2.2.1 i hi).2.2.2
      have rd : RM (ju A 16 4 i (nI 0) 16) (darkH σ i) := RM_house p1 (by omega)
      obtain ⟨B, b1, b2, b3⟩ := m_goEvenings rd (wg_of hfd) (n := n) (by omega)
      have kB : KM (B 16 21) σ := by rw [fr3_at b3 (by omega), ju_f (by omega)]; exact p2
      obtain ⟨C, c1, c2, c3⟩ := m_again kB hg
      refine ⟨(C, ff (lsf (fun h => prices (darkH σ h) n)) (i + 1) 0 (-nI 9, nI (prices σ n))), ?_, c2, by show KM (C 16 21) σ; rw [frA_21 c3]; exact kB, frT_trans p3 (frT_of (frA_trans (frA_trans (frA_ju (by omega)) (frA_of b3)) c3)), rfl⟩
      simp only [f_X6_shut_l48, f_X6_shut_j93]
      rw [if_neg (by rw [p1.1, q_le (by omega) (by omega)]; omega), q_gd (by omega) (by omega), q_cl (by omega), show (0 : Int32) = nI 0 from rfl, b1, q_jb, m_allPrices b2 (wg_ev (wg_of hfd)), q_jb, c1, q_jb, prices_ev, show nI i + 1 = nI (i + 1) from nI_add i 1, ff_succ, Nat.zero_add]
      unfold lsf
      split
      · rfl
      · rfl
    · rintro k ⟨A, v⟩ ⟨p1, p2, p3, p4⟩
      simp only at p1 p2 p3 p4
      subst p4
      refine ⟨A, ?_, p1, p3⟩
      simp only [f_X6_shut_l48]
      rw [if_pos (by rw [p1.1, q_le (by omega) (by omega)]; omega)]
  obtain ⟨A, a1, a2, a3⟩ := key
  exact ⟨A, a1, a2, frK_trans hc2 (frK_of a3)⟩
theorem ok_shut (hJ : JJ M S) (a : Int32) : OK (f_X5_shut M a) (fun M1 => f_X6_shut M1 a) := by
  have hf := J_f hJ
  rcases rng a 60 (by decide) (show (60 : Int32) = nI 60 from rfl) with ⟨q1, q2⟩ | ⟨q1, q2, q3, q4⟩ | ⟨n, hn, rfl⟩
  · refine OK_ref (k := 4) (by omega) hJ ?_ (fun M1 e16 _ => ?_)
    · unfold f_X5_shut
      rw [if_neg q2]; rfl
    · simp only [f_X6_shut]
      rw [wn_lo q2, if_neg n4]; rfl
  · refine OK_ref (k := 6) (by omega) hJ ?_ (fun M1 e16 _ => ?_)
    · unfold f_X5_shut
      rw [if_pos q1, if_neg q4]; rfl
    · simp only [f_X6_shut]
      rw [wn_hi q1 q4, if_neg n6]; rfl
  · obtain ⟨A, a1, a2⟩ := x_shut hJ hn
    exact OK_q hJ a1 a2 (fun hR _ => mq_shut hR hf hn)
end Asks
