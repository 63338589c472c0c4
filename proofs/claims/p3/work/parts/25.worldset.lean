/-! what the class's Worlds do to themselves -/
theorem ju_ne {M : jm} {o k i o' : Nat} {x : Int32} (h : o' ≠ o) : ju M o k i x o' = M o' := by
  funext k' i'
  simp only [ju]
  rw [if_neg (fun z => h z.1)]
theorem ju_o {M : jm} {o k i k' i' : Nat} {x : Int32} : ju M o k i x o k' i' = if k' = k ∧ i' = i then x else M o k' i' := by
  simp only [ju, true_and]
theorem ju_f {M : jm} {o k i k' : Nat} {x : Int32} (h : k' ≠ k) : ju M o k i x o k' = M o k' := by
  funext i'
  rw [ju_o, if_neg (fun z => h z.1)]
theorem ju_g {M : jm} {o k i k' i' : Nat} {x : Int32} (h : k' ≠ k) : ju M o k i x o k' i' = M o k' i' := by rw [ju_f h]
theorem ju_self {M : jm} {o k i : Nat} {x : Int32} : ju M o k i x o k i = x := by rw [ju_o, if_pos ⟨rfl, rfl⟩]
theorem RB_congr {g g' : Nat → Nat → Int32} {σ : vl} {N : Nat} (h5 : g' 5 0 = g 5 0) (h4 : g' 4 0 = g 4 0) (h : ∀ f, f = 1 ∨ f = 2 ∨ f = 3 ∨ f = 6 ∨ f = 7 ∨ f = 8 ∨ f = 9 → g' f = g f) (hR : RB g σ N) : RB g' σ N := by
  obtain ⟨a, b, c, d⟩ := hR
  refine ⟨h5.trans a, fun j hj => ?_, fun w hw => ?_, fun w hw j hj => ?_⟩
  · rw [h 1 (by omega), h 2 (by omega), h 3 (by omega), h4]; exact b j hj
  · rw [h 6 (by omega), h 7 (by omega), h 8 (by omega)]; exact c w hw
  · rw [h 9 (by omega)]; exact d w hw j hj
theorem RB_ext {g : Nat → Nat → Int32} {σ τ : vl} {N : Nat} (hW : vW τ = vW σ) (h1 : ∀ j, j < N → τ 1 j = σ 1 j ∧ τ 2 j = σ 2 j ∧ τ 3 j = σ 3 j ∧ τ 4 j = σ 4 j) (h2 : ∀ w, w < vW σ → τ 6 w = σ 6 w ∧ τ 7 w = σ 7 w ∧ τ 8 w = σ 8 w) (h3 : ∀ w, w < 6 → ∀ j, j < 8 → τ (20 + w) j = σ (20 + w) j) (hR : RB g σ N) : RB g τ N := by
  obtain ⟨a, b, c, d⟩ := hR
  refine ⟨by rw [hW]; exact a, fun j hj => ?_, fun w hw => ?_, fun w hw j hj => ?_⟩
  · obtain ⟨q1, q2, q3, q4⟩ := h1 j hj; rw [q1, q2, q3, q4]; exact b j hj
  · rw [hW] at hw; obtain ⟨q1, q2, q3⟩ := h2 w hw; rw [q1, q2, q3]; exact c w hw
  · rw [h3 w hw j hj]; exact d w hw j hj
theorem debt_lo {σ : vl} {w h d F i : Nat} (q : F < 20) : debt σ w h d F i = σ F i := vu_ne (by omega)
section PW3
variable {M : jm} {o N : Nat} {σ : vl}
theorem RB_debt (hR : RB (M o) σ N) {w h d : Nat} (hw : w < 6) (hh : h < 8) : RB (ju M o 9 (w * 8 + h) (nI d - nI 1) o) (debt σ w h d) N := by
  obtain ⟨a, b, c, e⟩ := hR
  have z : ∀ F i, F < 20 → debt σ w h d F i = σ F i := fun F i q => vu_ne (by omega)
  refine ⟨?_, fun j hj => ?_, fun x hx => ?_, fun x hx j hj => ?_⟩
  · rw [ju_f (by omega), a]; show nI (σ 5 0) = nI (debt σ w h d 5 0); rw [z 5 0 (by omega)]
  · rw [ju_f (by omega), ju_f (by omega), ju_f (by omega), ju_f (by omega), z 1 j (by omega), z 2 j (by omega), z 3 j (by omega), z 4 j (by omega)]; exact b j hj
  · have hx : x < vW σ := by have : vW (debt σ w h d) = vW σ := z 5 0 (by omega); rw [this] at hx; exact hx
    rw [ju_f (by omega), ju_f (by omega), ju_f (by omega), z 6 x (by omega), z 7 x (by omega), z 8 x (by omega)]; exact c x hx
  · rw [ju_o]
    by_cases q : x = w ∧ j = h
    · obtain ⟨rfl, rfl⟩ := q
      rw [if_pos ⟨rfl, rfl⟩]
      show _ = nI (vu σ (20 + x) j d (20 + x) j) - nI 1
      rw [vu_same]
    · rw [if_neg (by omega)]
      show _ = nI (vu σ (20 + w) h d (20 + x) j) - nI 1
      rw [vu_ne (by omega)]
      exact e x hx j hj
theorem RB_at (hR : RB (M o) σ N) {w c : Nat} : RB (ju M o 6 w (nI c) o) (vu σ 6 w c) N := by
  obtain ⟨a, b, d, e⟩ := hR
  refine ⟨?_, fun j hj => ?_, fun x hx => ?_, fun x hx j hj => ?_⟩
  · rw [ju_f (by omega), a]; rfl
  · rw [ju_f (by omega), ju_f (by omega), ju_f (by omega), ju_f (by omega), vu_ne (by omega), vu_ne (by omega), vu_ne (by omega), vu_ne (by omega)]; exact b j hj
  · obtain ⟨d1, d2, d3⟩ := d x hx
    rw [ju_o, ju_f (by omega), ju_f (by omega), vu_ne (F' := 7) (by omega), vu_ne (F' := 8) (by omega)]
    refine ⟨?_, d2, d3⟩
    by_cases q : x = w
    · subst q; rw [if_pos ⟨rfl, rfl⟩, vu_same]
    · rw [if_neg (by omega), vu_ne (by omega)]; exact d1
  · rw [ju_f (by omega), vu_ne (by omega)]; exact e x hx j hj
theorem RB_goal (hR : RB (M o) σ N) {w c : Nat} : RB (ju M o 7 w (nI c) o) (aimW σ w c) N := by
  obtain ⟨a, b, d, e⟩ := hR
  show RB _ (vu σ 7 w c) N
  refine ⟨?_, fun j hj => ?_, fun x hx => ?_, fun x hx j hj => ?_⟩
  · rw [ju_f (by omega), a]; rfl
  · rw [ju_f (by omega), ju_f (by omega), ju_f (by omega), ju_f (by omega), vu_ne (by omega), vu_ne (by omega), vu_ne (by omega), vu_ne (by omega)]; exact b j hj
  · obtain ⟨d1, d2, d3⟩ := d x hx
    refine ⟨by rw [ju_f (by omega), vu_ne (by omega)]; exact d1, ?_, by rw [ju_f (by omega), vu_ne (by omega)]; exact d3⟩
    rw [ju_o]
    by_cases q : x = w
    · subst q; rw [if_pos ⟨rfl, rfl⟩, vu_same]
    · rw [if_neg (by omega), vu_ne (by omega)]; exact d2
  · rw [ju_f (by omega), vu_ne (by omega)]; exact e x hx j hj
/-- only the lights change -/
theorem RB_lit (hR : RB (M o) σ N) {x : Int32} {τ : vl} (h1 : ∀ F i, F ≠ 4 → τ F i = σ F i) (h2 : ∀ j, j < N → bt x j = decide (τ 4 j = 1)) : RB (ju M o 4 0 x o) τ N := by
  obtain ⟨a, b, d, e⟩ := hR
  refine ⟨?_, fun j hj => ?_, fun w hx => ?_, fun w hx j hj => ?_⟩
  · rw [ju_f (by omega), a]; show nI (σ 5 0) = nI (τ 5 0); rw [h1 5 0 (by omega)]
  · obtain ⟨b1, b2, b3, b4⟩ := b j hj
    rw [ju_f (by omega), ju_f (by omega), ju_f (by omega), ju_self, h1 1 j (by omega), h1 2 j (by omega), h1 3 j (by omega)]
    exact ⟨b1, b2, b3, h2 j hj⟩
  · have hx : w < vW σ := by have : vW τ = vW σ := h1 5 0 (by omega); rw [this] at hx; exact hx
    rw [ju_f (by omega), ju_f (by omega), ju_f (by omega), h1 6 w (by omega), h1 7 w (by omega), h1 8 w (by omega)]; exact d w hx
  · rw [ju_f (by omega), h1 _ j (by omega)]; exact e w hx j hj
theorem p_become {o1 : Nat} (h : o1 ≠ o) : ∃ M', f_X4_become M o o1 = some M' ∧ (∀ o', o' ≠ o → M' o' = M o') ∧ (∀ f, f = 0 ∨ f = 4 ∨ f = 5 ∨ f = 10 → M' o f 0 = M o1 f 0) ∧ (∀ f, f = 1 ∨ f = 2 ∨ f = 3 ∨ f = 6 ∨ f = 7 ∨ f = 8 ∨ f = 9 → M' o f = M o1 f) := by
  refine ⟨_, rfl, fun o' ho => ?_, fun f hf => ?_, fun f hf => ?_⟩
  · funext k i; simp [ju, jcp, ho]
  · rcases hf with rfl | rfl | rfl | rfl <;> simp [ju, jcp, h]
  · rcases hf with rfl | rfl | rfl | rfl | rfl | rfl | rfl <;> (funext i; simp [ju, jcp, h])
theorem RW_of {g g' : Nat → Nat → Int32} {σ : vl} (h : ∀ f, f = 0 ∨ f = 4 ∨ f = 5 ∨ f = 10 → g' f 0 = g f 0) (h2 : ∀ f, f = 1 ∨ f = 2 ∨ f = 3 ∨ f = 6 ∨ f = 7 ∨ f = 8 ∨ f = 9 → g' f = g f) (hR : RW g σ) : RW g' σ :=
  ⟨(h 0 (by omega)).trans hR.1, (h 10 (by omega)).trans hR.2.1, RB_congr (h 5 (by omega)) (h 4 (by omega)) h2 hR.2.2⟩
theorem p_hasHouse (h0 : M o 0 0 = nI (vH σ)) (hH : vH σ ≤ 8) {h : Nat} (hh : h < 2 ^ 31) : f_X4_hasHouse M o (nI h) = if h < vH σ then nI 1 else nI 0 := by
  unfold f_X4_hasHouse
  rw [h0]
  simp (disch := omega) only [q_lit, q_lt, q_le]
  rw [if_neg (by omega)]
  by_cases q : h < vH σ
  · rw [if_neg (by omega), if_pos q]
  · rw [if_pos (by omega), if_neg q]
theorem p_hasHouse_no (h0 : M o 0 0 = nI (vH σ)) (hH : vH σ ≤ 8) {v : Int32} (hv : ∀ h, h < vH σ → v ≠ nI h) : f_X4_hasHouse M o v = nI 0 := by
  unfold f_X4_hasHouse
  rw [h0]
  by_cases q : v < 0
  · rw [if_pos q]; rfl
  · rw [if_neg q]
    obtain ⟨j, hj, rfl⟩ := nI_of q
    rw [if_pos (by
      rw [q_le (by omega) (by omega)]
      rcases Nat.lt_or_ge j (vH σ) with z | z
      · exact absurd rfl (hv j z)
      · exact z)]
    rfl
theorem p_hasWalker (h5 : M o 5 0 = nI (vW σ)) (hW : vW σ ≤ 6) {w : Nat} (hw : w < 2 ^ 31) : f_X4_hasWalker M o (nI w) = if w < vW σ then nI 1 else nI 0 := by
  unfold f_X4_hasWalker
  rw [h5]
  simp (disch := omega) only [q_lit, q_lt, q_le]
  rw [if_neg (by omega)]
  by_cases q : w < vW σ
  · rw [if_neg (by omega), if_pos q]
  · rw [if_pos (by omega), if_neg q]
theorem p_hasWalker_no (h5 : M o 5 0 = nI (vW σ)) (hW : vW σ ≤ 6) {v : Int32} (hv : ∀ w, w < vW σ → v ≠ nI w) : f_X4_hasWalker M o v = nI 0 := by
  unfold f_X4_hasWalker
  rw [h5]
  by_cases q : v < 0
  · rw [if_pos q]; rfl
  · rw [if_neg q]
    obtain ⟨j, hj, rfl⟩ := nI_of q
    rw [if_pos (by
      rw [q_le (by omega) (by omega)]
      rcases Nat.lt_or_ge j (vW σ) with z | z
      · exact absurd rfl (hv j z)
      · exact z)]
    rfl
theorem p_isCellN {c : Nat} (hc : c < 2 ^ 31) : f_X5_isCell (nI c) = if c < 49 then nI 1 else nI 0 := by
  rw [p_isCell]
  simp (disch := omega) only [q_lt, q_le]
  by_cases q : c < 49
  · rw [if_neg (by omega), if_pos q]
  · rw [if_pos (by omega), if_neg q]
theorem lit_turn {x : Int32} {h : Nat} (hh : h < 8) (hN : N ≤ 8) (b : ∀ j, j < N → bt x j = decide (σ 4 j = 1)) (b2 : ∀ j, j < N → σ 4 j ≤ 1) : ∀ j, j < N → bt (x ^^^ bi h) j = decide (turnH σ h 4 j = 1) := by
  intro j hj
  rw [q_xor _ hh (by omega), b j hj]
  by_cases e : j = h
  · subst e
    show _ = decide (vu σ 4 j _ 4 j = 1)
    rw [vu_same]
    have := b2 j hj
    rcases (show σ 4 j = 0 ∨ σ 4 j = 1 by omega) with q | q <;> simp [q]
  · show _ = decide (vu σ 4 h _ 4 j = 1)
    rw [vu_ne (by omega)]
    simp [e]
theorem p_turn (hR : RW (M o) σ) (hf : wf σ) {h : Nat} (hh : h < 2 ^ 31) : ∃ M', f_X4_turn M o (nI h) = some (if h < vH σ then nI 1 else nI 0, M') ∧ (∀ o', o' ≠ o → M' o' = M o') ∧ RW (M' o) (if h < vH σ then turnH σ h else σ) := by
  have hH := hf.1
  unfold f_X4_turn
  rw [p_hasHouse hR.1 (by omega) hh]
  by_cases q : h < vH σ
  · simp only [if_pos q]
    refine ⟨_, by rw [if_neg (by decide)]; rfl, fun o' ho => ju_ne ho, ?_, ?_, ?_⟩
    · rw [ju_f (by omega)]; exact hR.1
    · rw [ju_f (by omega)]; exact hR.2.1
    · refine RB_lit hR.2.2 (fun F i hF => vu_ne (by omega)) ?_
      exact lit_turn (by omega) (by show vH σ ≤ 8; omega) (fun j hj => (hR.2.2.2.1 j hj).2.2.2) (fun j hj => (hf.2.1.2.2.1 j hj).2.2.2)
  · simp only [if_neg q]
    exact ⟨M, by rw [if_pos (by decide)]; rfl, fun _ _ => rfl, hR⟩
theorem p_aim (hR : RW (M o) σ) (hf : wf σ) {w c : Nat} (hw : w < 2 ^ 31) (hc : c < 2 ^ 31) : ∃ M', f_X4_aim M o (nI w) (nI c) = some (if w < vW σ ∧ c < 49 then nI 1 else nI 0, M') ∧ (∀ o', o' ≠ o → M' o' = M o') ∧ RW (M' o) (if w < vW σ ∧ c < 49 then aimW σ w c else σ) := by
  have hW := hf.2.1.2.1
  unfold f_X4_aim
  rw [p_hasWalker hR.2.2.1 hW hw, p_isCellN hc]
  by_cases q : w < vW σ
  · by_cases q2 : c < 49
    · simp only [if_pos q, if_pos q2, if_pos (show w < vW σ ∧ c < 49 from ⟨q, q2⟩)]
      refine ⟨_, by rw [if_neg (by decide), if_neg (by decide), q_gd (by omega) (by omega), q_cl (by omega)]; rfl, fun o' ho => ju_ne ho, ?_, ?_, RB_goal hR.2.2⟩
      · rw [ju_f (by omega)]; exact hR.1
      · rw [ju_f (by omega)]; exact hR.2.1
    · simp only [if_pos q, if_neg q2, if_neg (show ¬ (w < vW σ ∧ c < 49) from fun z => q2 z.2)]
      exact ⟨M, by rw [if_neg (by decide), if_pos (by decide)]; rfl, fun _ _ => rfl, hR⟩
  · simp only [if_neg q, if_neg (show ¬ (w < vW σ ∧ c < 49) from fun z => q z.1)]
    exact ⟨M, by rw [if_pos (by decide)]; rfl, fun _ _ => rfl, hR⟩
theorem p_addDebt (hR : RW (M o) σ) (hf : wf σ) {w h : Nat} (hw : w < 2 ^ 31) (hh : h < 2 ^ 31) : ∃ M', f_X4_addDebt M o (nI w) (nI h) = some (if w < vW σ ∧ h < vH σ then nI 1 else nI 0, M') ∧ (∀ o', o' ≠ o → M' o' = M o') ∧ RW (M' o) (if w < vW σ ∧ h < vH σ then (if σ (20 + w) h = 0 then debt σ w h 1 else σ) else σ) := by
  have hW := hf.2.1.2.1
  have hH := hf.1
  unfold f_X4_addDebt
  rw [p_hasWalker hR.2.2.1 hW hw, p_hasHouse hR.1 (by omega) hh]
  by_cases q : w < vW σ
  · by_cases q2 : h < vH σ
    · simp only [if_pos q, if_pos q2, if_pos (show w < vW σ ∧ h < vH σ from ⟨q, q2⟩)]
      rw [if_neg (by decide), if_neg (by decide), p_owes hR.2.2 hf.2.1 (by omega) (by omega), q_jb]
      by_cases c : σ (20 + w) h = 0
      · simp only [if_pos c]
        rw [if_pos (by decide), p_setDebt (by omega) (by omega), q_jb]
        refine ⟨_, rfl, fun o' ho => ju_ne ho, ?_, ?_, ?_⟩
        · rw [ju_f (by omega), vH, debt_lo (by omega)]; exact hR.1
        · rw [ju_f (by omega), debt_lo (by omega)]; exact hR.2.1
        · rw [show vH (debt σ w h 1) = vH σ from debt_lo (by omega)]
          exact RB_debt (d := 1) hR.2.2 (by omega) (by omega)
      · simp only [if_neg c]
        rw [if_neg (by decide)]
        exact ⟨M, rfl, fun _ _ => rfl, hR⟩
    · simp only [if_pos q, if_neg q2, if_neg (show ¬ (w < vW σ ∧ h < vH σ) from fun z => q2 z.2)]
      exact ⟨M, by rw [if_neg (by decide), if_pos (by decide)]; rfl, fun _ _ => rfl, hR⟩
  · simp only [if_neg q, if_neg (show ¬ (w < vW σ ∧ h < vH σ) from fun z => q z.1)]
    exact ⟨M, by rw [if_pos (by decide)]; rfl, fun _ _ => rfl, hR⟩
end PW3
