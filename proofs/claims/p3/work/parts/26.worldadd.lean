section PW4
variable {M : jm} {o N : Nat} {σ : vl}
/-- one house more, in its slot -/
theorem RB_house (hR : RB (M o) σ (vH σ)) {k f c : Nat} {M' : jm} {x : Int32} (h5 : M' o 5 0 = M o 5 0) (hx : M' o 4 0 = M o 4 0 ||| bi (vH σ)) (hH : vH σ < 8)
    (h1 : ∀ i, M' o 1 i = if i = vH σ then nI k else M o 1 i) (h2 : ∀ i, M' o 2 i = if i = vH σ then nI f else M o 2 i) (h3 : ∀ i, M' o 3 i = if i = vH σ then nI c else M o 3 i) (h6 : ∀ F, F = 6 ∨ F = 7 ∨ F = 8 ∨ F = 9 → M' o F = M o F) : RB (M' o) (addH σ k f c) (vH σ + 1) := by
  obtain ⟨a, b, d, e⟩ := hR
  refine ⟨by rw [h5, addH_W]; exact a, fun j hj => ?_, fun w hw => ?_, fun w hw j hj => ?_⟩
  · rw [h1, h2, h3, hx, q_or _ hH (by omega)]
    by_cases q : j = vH σ
    · subst q
      rw [if_pos rfl, if_pos rfl, if_pos rfl, addH_1, addH_2, addH_3, addH_4]
      simp
    · rw [if_neg q, if_neg q, if_neg q, addH_lo (by omega) (by omega), addH_lo (by omega) (by omega), addH_lo (by omega) (by omega), addH_lo (by omega) (by omega)]
      obtain ⟨b1, b2, b3, b4⟩ := b j (by omega)
      exact ⟨b1, b2, b3, by rw [b4]; simp [q]⟩
  · rw [addH_W] at hw
    rw [h6 6 (by omega), h6 7 (by omega), h6 8 (by omega), addH_lo (by omega) (by omega), addH_lo (by omega) (by omega), addH_lo (by omega) (by omega)]
    exact d w hw
  · rw [h6 9 (by omega), addH_lo (by omega) (by omega)]
    exact e w hw j hj
theorem p_addHouse (hR : RW (M o) σ) (hf : wf σ) {k f c : Nat} (hk : k < 2 ^ 31) (hff : f < 2 ^ 31) (hc : c < 2 ^ 31) : ∃ M', f_X4_addHouse M o (nI k) (nI f) (nI c) = some (if k < 6 ∧ f < 10 ∧ c < 49 ∧ vH σ < 7 then nI 1 else nI 0, M') ∧ (∀ o', o' ≠ o → M' o' = M o') ∧ RW (M' o) (if k < 6 ∧ f < 10 ∧ c < 49 ∧ vH σ < 7 then addH σ k f c else σ) := by
  have hH := hf.1
  have h0 := hR.1
  unfold f_X4_addHouse
  simp only [p_isCellN hc, h0]
  by_cases q : k < 6 ∧ f < 10 ∧ c < 49 ∧ vH σ < 7
  · obtain ⟨q1, q2, q3, q4⟩ := q
    simp only [if_pos (show k < 6 ∧ f < 10 ∧ c < 49 ∧ vH σ < 7 from ⟨q1, q2, q3, q4⟩), if_pos q3]
    simp (config := { maxSteps := 2000000 }) (disch := omega) only [q_lit, q_lt, q_le, ju_g, h0, q_gd, q_cl]
    simp (config := { maxSteps := 2000000 }) only [show ¬ k < 0 from by omega, show ¬ 6 ≤ k from by omega, show k < 6 from q1, show ¬ f < 0 from by omega, show ¬ 10 ≤ f from by omega, show f < 10 from q2, show vH σ < 7 from q4, if_true, if_false, show ¬ (nI 1 = nI 0) from by decide]
    refine ⟨_, rfl, fun o' ho => ?_, ?_, ?_, ?_⟩
    · simp only [ju_ne ho]
    · rw [ju_self, addH_H, nI_add]
    · simp (disch := omega) only [ju_g]
      rw [addH_lo (by omega) (by omega)]
      exact hR.2.1
    · rw [addH_H]
      refine RB_house (x := 0) hR.2.2 ?_ ?_ (by omega) (fun i => ?_) (fun i => ?_) (fun i => ?_) (fun F hF => ?_)
      · simp [ju]
      · simp [ju]; rfl
      · simp [ju]
      · simp [ju]
      · simp [ju]
      · rcases hF with rfl | rfl | rfl | rfl <;> (funext i; simp [ju])
  · simp only [if_neg q]
    refine ⟨M, ?_, fun _ _ => rfl, hR⟩
    simp (disch := omega) only [q_lit, q_lt, q_le]
    by_cases q1 : k < 6
    · by_cases q2 : f < 10
      · by_cases q3 : c < 49
        · by_cases q4 : vH σ < 7
          · exact absurd ⟨q1, q2, q3, q4⟩ q
          · simp (disch := omega) only [if_neg, if_pos, q1, q2, q3, q4, if_true, if_false, show ¬ k < 0 from by omega, show ¬ 6 ≤ k from by omega, show ¬ f < 0 from by omega, show ¬ 10 ≤ f from by omega, show ¬ (nI 1 = nI 0) from by decide]
        · simp (disch := omega) only [q1, q2, q3, if_true, if_false, show ¬ k < 0 from by omega, show ¬ 6 ≤ k from by omega, show ¬ f < 0 from by omega, show ¬ 10 ≤ f from by omega]
      · simp (disch := omega) only [q1, q2, if_true, if_false, show ¬ k < 0 from by omega, show ¬ 6 ≤ k from by omega, show ¬ f < 0 from by omega, show 10 ≤ f from by omega]
    · simp (disch := omega) only [q1, if_true, if_false, show ¬ k < 0 from by omega, show 6 ≤ k from by omega]
theorem p_addWalker (hR : RW (M o) σ) (hf : wf σ) {a g s : Nat} (ha : a < 2 ^ 31) (hg : g < 2 ^ 31) (hs : s < 2 ^ 31) : ∃ M', f_X4_addWalker M o (nI a) (nI g) (nI s) = some (if a < 49 ∧ g < 49 ∧ s ≤ 2 ∧ vW σ < 6 then nI 1 else nI 0, M') ∧ (∀ o', o' ≠ o → M' o' = M o') ∧ RW (M' o) (if a < 49 ∧ g < 49 ∧ s ≤ 2 ∧ vW σ < 6 then addW σ a g s else σ) := by
  have hW := hf.2.1.2.1
  have h5 := hR.2.2.1
  unfold f_X4_addWalker
  simp only [p_isCellN ha, p_isCellN hg, h5]
  by_cases q : a < 49 ∧ g < 49 ∧ s ≤ 2 ∧ vW σ < 6
  · obtain ⟨q1, q2, q3, q4⟩ := q
    simp only [if_pos (show a < 49 ∧ g < 49 ∧ s ≤ 2 ∧ vW σ < 6 from ⟨q1, q2, q3, q4⟩), if_pos q1, if_pos q2]
    simp (disch := omega) only [q_lit, q_lt, q_le, ju_o, h5, q_gd, q_cl]
    simp only [show ¬ s < 0 from by omega, show ¬ 2 < s from by omega, show vW σ < 6 from q4, if_true, if_false, show ¬ (nI 1 = nI 0) from by decide, show ¬ (5 = 6) from by decide, show ¬ (5 = 7) from by decide, show ¬ (5 = 8) from by decide, false_and, h5]
    simp (disch := omega) only [q_gd, q_cl]
    refine ⟨_, rfl, fun o' ho => ?_, ?_, ?_, ?_⟩
    · simp only [ju_ne ho]
    · simp [ju]; rw [addW_H]; exact hR.1
    · simp [ju]; rw [addW_lo (by omega) (by omega)]; exact hR.2.1
    · rw [addW_H]
      obtain ⟨b1, b2, b3, b4⟩ := hR.2.2
      refine ⟨?_, fun j hj => ?_, fun w hw => ?_, fun w hw j hj => ?_⟩
      · rw [ju_self, addW_W, nI_add]
      · rw [addW_lo (by omega) (by omega), addW_lo (by omega) (by omega), addW_lo (by omega) (by omega), addW_lo (by omega) (by omega)]
        simpa [ju] using b2 j hj
      · rw [addW_W] at hw
        by_cases e : w = vW σ
        · subst e
          rw [addW_6, addW_7, addW_8]
          simp [ju]
        · rw [addW_lo (by omega) (by omega), addW_lo (by omega) (by omega), addW_lo (by omega) (by omega)]
          simpa [ju, e] using b3 w (by omega)
      · rw [addW_lo (by omega) (by omega)]
        simpa [ju] using b4 w hw j hj
  · simp only [if_neg q]
    refine ⟨M, ?_, fun _ _ => rfl, hR⟩
    simp (disch := omega) only [q_lit, q_lt, q_le]
    by_cases q1 : a < 49
    · by_cases q2 : g < 49
      · by_cases q3 : s ≤ 2
        · by_cases q4 : vW σ < 6
          · exact absurd ⟨q1, q2, q3, q4⟩ q
          · simp (disch := omega) only [q1, q2, q3, q4, if_true, if_false, show ¬ s < 0 from by omega, show ¬ 2 < s from by omega, show ¬ (nI 1 = nI 0) from by decide]
        · simp (disch := omega) only [q1, q2, q3, if_true, if_false, show ¬ s < 0 from by omega, show 2 < s from by omega, show ¬ (nI 1 = nI 0) from by decide]
      · simp (disch := omega) only [q1, q2, if_true, if_false, show ¬ (nI 1 = nI 0) from by decide]
    · simp (disch := omega) only [q1, if_true, if_false]
/-- the debts of pairs ahead of (w0, h0), and where walkers ahead of w0 are, n evenings on -/
def mix (σ : vl) (n w0 h0 : Nat) : vl := fun F i => if F = 6 then (if i < w0 then pl σ i n else σ 6 i) else if 20 ≤ F then (if (F - 20 < w0 ∨ (F - 20 = w0 ∧ i < h0)) ∧ i < vH σ then dk σ (F - 20) i n else σ F i) else σ F i
theorem mix_lo {σ : vl} {n w0 h0 F i : Nat} (h : F < 20) (h6 : F ≠ 6) : mix σ n w0 h0 F i = σ F i := by
  unfold mix
  rw [if_neg h6, if_neg (by omega)]
theorem mix_6 {σ : vl} {n w0 h0 i : Nat} : mix σ n w0 h0 6 i = if i < w0 then pl σ i n else σ 6 i := by
  unfold mix
  rw [if_pos rfl]
theorem mix_20 {σ : vl} {n w0 h0 w i : Nat} : mix σ n w0 h0 (20 + w) i = if (w < w0 ∨ (w = w0 ∧ i < h0)) ∧ i < vH σ then dk σ w i n else σ (20 + w) i := by
  unfold mix
  rw [if_neg (by omega), if_pos (by omega), Nat.add_sub_cancel_left]
theorem wb_mix {n w0 h0 : Nat} (hb : wb σ (vH σ)) (h0' : w0 ≤ vW σ) : wb (mix σ n w0 h0) (vH σ) := by
  obtain ⟨b1, b2, b3, b4, b5⟩ := id hb
  refine ⟨b1, by show mix σ n w0 h0 5 0 ≤ 6; rw [mix_lo (by omega) (by omega)]; exact b2, fun j hj => ?_, fun w hw => ?_, fun w h => ?_⟩
  · rw [mix_lo (by omega) (by omega), mix_lo (by omega) (by omega), mix_lo (by omega) (by omega), mix_lo (by omega) (by omega)]; exact b3 j hj
  · have hw : w < vW σ := by have : vW (mix σ n w0 h0) = vW σ := mix_lo (by omega) (by omega); rw [this] at hw; exact hw
    rw [mix_lo (F := 7) (by omega) (by omega), mix_lo (F := 8) (by omega) (by omega), mix_6]
    refine ⟨?_, (b4 w hw).2⟩
    split
    · exact pl_lt hb hw n
    · exact (b4 w hw).1
  · rw [mix_20]
    split
    · exact dk_le hb n
    · exact b5 w h
theorem p_pass (hR : RW (M o) σ) (hf : wf σ) {n : Nat} (hn : n < 2 ^ 30) : ∃ M', f_X4_pass M o (nI n) = some (if 1 ≤ n ∧ n ≤ 60 ∧ σ 10 0 + n ≤ 999 then nI 1 else nI 0, M') ∧ (∀ o', o' ≠ o → M' o' = M o') ∧ RW (M' o) (if 1 ≤ n ∧ n ≤ 60 ∧ σ 10 0 + n ≤ 999 then evN σ n else σ) := by
  have hW := hf.2.1.2.1
  have hH := hf.1
  have hd := hf.2.2.2
  have hb := hf.2.1
  unfold f_X4_pass
  rw [hR.2.1]
  simp (disch := omega) only [q_lit, q_lt, q_le, nI_add]
  by_cases q : 1 ≤ n ∧ n ≤ 60 ∧ σ 10 0 + n ≤ 999
  · simp only [if_pos q]
    rw [if_neg (by omega), if_neg (by omega), if_pos (by omega)]
    have hn60 : n ≤ 99 := by omega
    -- the loop over walkers
    have L : ∀ d w k (M1 : jm), w + d = vW σ → d < k → (∀ o', o' ≠ o → M1 o' = M o') → M1 o 0 0 = nI (vH σ) → M1 o 10 0 = nI (σ 10 0) → RB (M1 o) (mix σ n w 0) (vH σ) → ∃ M', f_X4_pass_l27 o (nI n) k M1 (nI w) = some (nI 1, M') ∧ (∀ o', o' ≠ o → M' o' = M o') ∧ M' o 0 0 = nI (vH σ) ∧ M' o 10 0 = nI (σ 10 0 + n) ∧ RB (M' o) (mix σ n (vW σ) 0) (vH σ) := by
      intro d
      induction d with
      | zero =>
        intro w k M1 h1 h2 h3 h4 h5 h6
        obtain ⟨k, rfl⟩ : ∃ j, k = j + 1 := ⟨k - 1, by omega⟩
        have e : w = vW σ := by omega
        subst e
        have hw5 : M1 o 5 0 = nI (vW σ) := by rw [h6.1]; show nI (mix σ n (vW σ) 0 5 0) = _; rw [mix_lo (by omega) (by omega)]; rfl
        rw [f_X4_pass_l27, hw5, if_pos (by rw [q_le (by omega) (by omega)]; omega), h5, nI_add]
        refine ⟨_, rfl, fun o' ho => by rw [ju_ne ho]; exact h3 o' ho, by rw [ju_f (by omega)]; exact h4, ju_self, ?_⟩
        exact RB_congr (by rw [ju_f (by omega)]) (by rw [ju_f (by omega)]) (fun f hf => ju_f (by omega)) h6
      | succ d ih =>
        intro w k M1 h1 h2 h3 h4 h5 h6
        obtain ⟨k, rfl⟩ : ∃ j, k = j + 1 := ⟨k - 1, by omega⟩
        have hw : w < vW σ := by omega
        have hw5 : M1 o 5 0 = nI (vW σ) := by rw [h6.1]; show nI (mix σ n w 0 5 0) = _; rw [mix_lo (by omega) (by omega)]; rfl
        rw [f_X4_pass_l27, hw5, if_neg (by rw [q_le (by omega) (by omega)]; omega)]
        simp only [q_lit]
        have L2 : ∀ d2 h k2 (M2 : jm), h + d2 = vH σ → d2 < k2 → (∀ o', o' ≠ o → M2 o' = M o') → M2 o 0 0 = nI (vH σ) → M2 o 10 0 = nI (σ 10 0) → RB (M2 o) (mix σ n w h) (vH σ) → ∃ M', f_X4_pass_l37 o (f_X4_pass_l27 o (nI n) k) (nI n) (nI w) k2 M2 (nI h) = some (nI 1, M') ∧ (∀ o', o' ≠ o → M' o' = M o') ∧ M' o 0 0 = nI (vH σ) ∧ M' o 10 0 = nI (σ 10 0 + n) ∧ RB (M' o) (mix σ n (vW σ) 0) (vH σ) := by
          intro d2
          induction d2 with
          | zero =>
            intro h k2 M2 g1 g2 g3 g4 g5 g6
            obtain ⟨k2, rfl⟩ : ∃ j, k2 = j + 1 := ⟨k2 - 1, by omega⟩
            have e : h = vH σ := by omega
            subst e
            rw [f_X4_pass_l37, g4, if_pos (by rw [q_le (by omega) (by omega)]; omega), p_placeBehind g6 (wb_mix hb (by omega)) (by show w < mix σ n w (vH σ) 5 0; rw [mix_lo (by omega) (by omega)]; exact hw) (by omega), q_jb, q_gd (by omega) (by omega), q_cl (by omega)]
            simp only [q_lit, nI_add]
            have ep : pl (mix σ n w (vH σ)) w n = pl σ w n := pl_congr (by rw [mix_6, if_neg (by omega)]) (mix_lo (by omega) (by omega)) n
            rw [ep]
            refine ih (w + 1) k _ (by omega) (by omega) (fun o' ho => by rw [ju_ne ho]; exact g3 o' ho) (by rw [ju_f (by omega)]; exact g4) (by rw [ju_f (by omega)]; exact g5) ?_
            refine RB_ext (σ := vu (mix σ n w (vH σ)) 6 w (pl σ w n)) ?_ (fun j hj => ?_) (fun x hx => ?_) (fun x hx j hj => ?_) (RB_at g6)
            · show mix σ n (w + 1) 0 5 0 = vu (mix σ n w (vH σ)) 6 w (pl σ w n) 5 0
              rw [vu_ne (by omega), mix_lo (by omega) (by omega), mix_lo (by omega) (by omega)]
            · rw [vu_ne (by omega), vu_ne (by omega), vu_ne (by omega), vu_ne (by omega)]
              simp only [mix_lo (show 1 < 20 by omega) (by omega), mix_lo (show 2 < 20 by omega) (by omega), mix_lo (show 3 < 20 by omega) (by omega), mix_lo (show 4 < 20 by omega) (by omega), and_self]
            · refine ⟨?_, by rw [vu_ne (by omega), mix_lo (by omega) (by omega), mix_lo (by omega) (by omega)], by rw [vu_ne (by omega), mix_lo (by omega) (by omega), mix_lo (by omega) (by omega)]⟩
              by_cases q : x = w
              · subst q; rw [vu_same, mix_6, if_pos (by omega)]
              · rw [vu_ne (by omega), mix_6, mix_6]
                by_cases z : x < w
                · rw [if_pos (by omega), if_pos z]
                · rw [if_neg (by omega), if_neg z]
            · rw [vu_ne (by omega), mix_20, mix_20]
              by_cases z : x ≤ w ∧ j < vH σ
              · rw [if_pos (by omega), if_pos (by omega)]
              · rw [if_neg (by omega), if_neg (by omega)]
          | succ d2 ih2 =>
            intro h k2 M2 g1 g2 g3 g4 g5 g6
            obtain ⟨k2, rfl⟩ : ∃ j, k2 = j + 1 := ⟨k2 - 1, by omega⟩
            have hh : h < vH σ := by omega
            rw [f_X4_pass_l37, g4, if_neg (by rw [q_le (by omega) (by omega)]; omega), p_ageBehind g6 (wb_mix hb (by omega)) (by show w < mix σ n w h 5 0; rw [mix_lo (by omega) (by omega)]; exact hw) hh hn60, q_jb, p_setDebt (by omega) (by omega), q_jb]
            simp only [q_lit, nI_add]
            have ed : dk (mix σ n w h) w h n = dk σ w h n := dk_congr (mix_lo (by omega) (by omega)) (mix_lo (by omega) (by omega)) (mix_lo (by omega) (by omega)) (mix_lo (by omega) (by omega)) (by rw [mix_6, if_neg (by omega)]) (mix_lo (by omega) (by omega)) (mix_lo (by omega) (by omega)) (by rw [mix_20, if_neg (by omega)]) n
            rw [ed]
            refine ih2 (h + 1) k2 _ (by omega) (by omega) (fun o' ho => by rw [ju_ne ho]; exact g3 o' ho) (by rw [ju_f (by omega)]; exact g4) (by rw [ju_f (by omega)]; exact g5) ?_
            refine RB_ext (σ := debt (mix σ n w h) w h (dk σ w h n)) ?_ (fun j hj => ?_) (fun x hx => ?_) (fun x hx j hj => ?_) (RB_debt g6 (by omega) (by omega))
            · show mix σ n w (h + 1) 5 0 = debt (mix σ n w h) w h (dk σ w h n) 5 0
              rw [debt_lo (by omega), mix_lo (by omega) (by omega), mix_lo (by omega) (by omega)]
            · rw [debt_lo (by omega), debt_lo (by omega), debt_lo (by omega), debt_lo (by omega)]
              simp only [mix_lo (show 1 < 20 by omega) (by omega), mix_lo (show 2 < 20 by omega) (by omega), mix_lo (show 3 < 20 by omega) (by omega), mix_lo (show 4 < 20 by omega) (by omega), and_self]
            · rw [debt_lo (by omega), debt_lo (by omega), debt_lo (by omega), mix_6, mix_6]
              simp only [mix_lo (show 7 < 20 by omega) (by omega), mix_lo (show 8 < 20 by omega) (by omega), and_self]
            · show mix σ n w (h + 1) (20 + x) j = vu (mix σ n w h) (20 + w) h (dk σ w h n) (20 + x) j
              by_cases z : x = w ∧ j = h
              · obtain ⟨rfl, rfl⟩ := z
                rw [vu_same, mix_20, if_pos (by omega)]
              · rw [vu_ne (by omega), mix_20, mix_20]
                by_cases z2 : (x < w ∨ (x = w ∧ j < h)) ∧ j < vH σ
                · rw [if_pos (by omega), if_pos z2]
                · rw [if_neg (by omega), if_neg z2]
        exact L2 (vH σ) 0 10000 M1 (by omega) (by omega) h3 h4 h5 h6
    obtain ⟨M', e1, e2, e3, e4, e5⟩ := L (vW σ) 0 10000 M (by omega) (by omega) (fun _ _ => rfl) hR.1 hR.2.1 (RB_ext (by show mix σ n 0 0 5 0 = _; rw [mix_lo (by omega) (by omega)]; rfl) (fun j hj => by rw [mix_lo (by omega) (by omega), mix_lo (by omega) (by omega), mix_lo (by omega) (by omega), mix_lo (by omega) (by omega)]; exact ⟨rfl, rfl, rfl, rfl⟩) (fun x hx => by rw [mix_lo (F := 7) (by omega) (by omega), mix_lo (F := 8) (by omega) (by omega), mix_6, if_neg (by omega)]; exact ⟨rfl, rfl, rfl⟩) (fun x hx j hj => by rw [mix_20, if_neg (by omega)]) hR.2.2)
    refine ⟨M', e1, e2, by rw [evN_H]; exact e3, by rw [evN_day]; exact e4, ?_⟩
    rw [evN_H]
    refine RB_ext ?_ (fun j hj => ?_) (fun x hx => ?_) (fun x hx j hj => ?_) e5
    · rw [evN_W]; show _ = mix σ n (vW σ) 0 5 0; rw [mix_lo (by omega) (by omega)]; rfl
    · rw [evN_lo σ n 1 j (by omega), evN_lo σ n 2 j (by omega), evN_lo σ n 3 j (by omega), evN_lo σ n 4 j (by omega), mix_lo (by omega) (by omega), mix_lo (by omega) (by omega), mix_lo (by omega) (by omega), mix_lo (by omega) (by omega)]; exact ⟨rfl, rfl, rfl, rfl⟩
    · have hx : x < vW σ := by have : vW (mix σ n (vW σ) 0) = vW σ := mix_lo (by omega) (by omega); rw [this] at hx; exact hx
      rw [evN_at hx, evN_lo σ n 7 x (by omega), evN_lo σ n 8 x (by omega), mix_lo (F := 7) (by omega) (by omega), mix_lo (F := 8) (by omega) (by omega), mix_6, if_pos hx]; exact ⟨rfl, rfl, rfl⟩
    · rw [mix_20]
      by_cases z : x < vW σ ∧ j < vH σ
      · rw [evN_dk z.1 z.2, if_pos (by omega)]
      · rw [evN_no z, if_neg (by omega)]
  · simp only [if_neg q]
    refine ⟨M, ?_, fun _ _ => rfl, hR⟩
    by_cases q1 : n < 1
    · rw [if_pos q1]
    · rw [if_neg q1]
      by_cases q2 : 60 < n
      · rw [if_pos q2]
      · rw [if_neg q2, if_neg (by omega)]
end PW4
