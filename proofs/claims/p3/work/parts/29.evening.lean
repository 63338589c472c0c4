/-! one evening of the reference -/
theorem RM_ext {g : Nat → Nat → Int32} {σ τ : vl} (hR : RM g σ) (h0 : τ 0 0 = σ 0 0) (h5 : τ 5 0 = σ 5 0) (h10 : τ 10 0 = σ 10 0) (h1 : ∀ h, h < vH σ → τ 1 h = σ 1 h ∧ τ 2 h = σ 2 h ∧ τ 3 h = σ 3 h ∧ τ 4 h = σ 4 h) (h2 : ∀ w, w < vW σ → τ 6 w = σ 6 w ∧ τ 7 w = σ 7 w ∧ τ 8 w = σ 8 w) (h3 : ∀ w, w < 6 → ∀ h, h < 7 → τ (20 + w) h = σ (20 + w) h) : RM g τ := by
  obtain ⟨r1, r2, r3, r4, r5, r6⟩ := hR
  have eH : vH τ = vH σ := h0
  have eW : vW τ = vW σ := h5
  refine ⟨by rw [eH]; exact r1, by rw [eW]; exact r2, by rw [h10]; exact r3, fun h hh => ?_, fun w hw => ?_, fun w hw h hh => ?_⟩
  · rw [eH] at hh; obtain ⟨a, b, c, d⟩ := h1 h hh; rw [a, b, c, d]; exact r4 h hh
  · rw [eW] at hw; obtain ⟨a, b, c⟩ := h2 w hw; rw [a, b, c]; exact r5 w hw
  · rw [h3 w hw h hh]; exact r6 w hw h hh
theorem RM_fe {g g' : Nat → Nat → Int32} {σ : vl} (h : ∀ f, f ≤ 10 → g' f = g f) (hR : RM g σ) : RM g' σ := by
  obtain ⟨r1, r2, r3, r4, r5, r6⟩ := hR
  unfold RM
  rw [h 0 (by omega), h 1 (by omega), h 2 (by omega), h 3 (by omega), h 4 (by omega), h 5 (by omega), h 6 (by omega), h 7 (by omega), h 8 (by omega), h 9 (by omega), h 10 (by omega)]
  exact ⟨r1, r2, r3, r4, r5, r6⟩
section RMset
variable {M : jm} {σ : vl}
theorem RM_at (hR : RM (M 16) σ) {w c : Nat} : RM (ju M 16 6 w (nI c) 16) (vu σ 6 w c) := by
  obtain ⟨r1, r2, r3, r4, r5, r6⟩ := hR
  refine ⟨by rw [ju_g (by omega)]; exact r1, by rw [ju_g (by omega)]; exact r2, by rw [ju_g (by omega), vu_ne (by omega)]; exact r3, fun h hh => ?_, fun j hj => ?_, fun j hj h hh => ?_⟩
  · rw [ju_g (by omega), ju_g (by omega), ju_g (by omega), ju_g (by omega), vu_ne (by omega), vu_ne (by omega), vu_ne (by omega), vu_ne (by omega)]; exact r4 h hh
  · rw [ju_g (show 7 ≠ 6 by omega), ju_g (show 8 ≠ 6 by omega), vu_ne (show ¬ (7 = 6 ∧ _) by omega), vu_ne (show ¬ (8 = 6 ∧ _) by omega), ju_o]
    refine ⟨?_, (r5 j hj).2⟩
    by_cases e : j = w
    · subst e; rw [if_pos ⟨rfl, rfl⟩, vu_same]
    · rw [if_neg (fun z => e z.2), vu_ne (fun z => e z.2)]; exact (r5 j hj).1
  · rw [ju_g (by omega), vu_ne (by omega)]; exact r6 j hj h hh
theorem RM_goal (hR : RM (M 16) σ) {w c : Nat} : RM (ju M 16 7 w (nI c) 16) (aimW σ w c) := by
  obtain ⟨r1, r2, r3, r4, r5, r6⟩ := hR
  unfold aimW
  refine ⟨by rw [ju_g (by omega)]; exact r1, by rw [ju_g (by omega)]; exact r2, by rw [ju_g (by omega), vu_ne (by omega)]; exact r3, fun h hh => ?_, fun j hj => ?_, fun j hj h hh => ?_⟩
  · rw [ju_g (by omega), ju_g (by omega), ju_g (by omega), ju_g (by omega), vu_ne (by omega), vu_ne (by omega), vu_ne (by omega), vu_ne (by omega)]; exact r4 h hh
  · rw [ju_g (show 6 ≠ 7 by omega), ju_g (show 8 ≠ 7 by omega), vu_ne (show ¬ (6 = 7 ∧ _) by omega), vu_ne (show ¬ (8 = 7 ∧ _) by omega), ju_o]
    refine ⟨(r5 j hj).1, ?_, (r5 j hj).2.2⟩
    by_cases e : j = w
    · subst e; rw [if_pos ⟨rfl, rfl⟩, vu_same]
    · rw [if_neg (fun z => e z.2), vu_ne (fun z => e z.2)]; exact (r5 j hj).2.1
  · rw [ju_g (by omega), vu_ne (by omega)]; exact r6 j hj h hh
theorem RM_debt (hR : RM (M 16) σ) {w h d : Nat} (hh : h < 7) : RM (ju M 16 9 (7 * w + h) (nI d) 16) (debt σ w h d) := by
  obtain ⟨r1, r2, r3, r4, r5, r6⟩ := hR
  unfold debt
  have e0 : ∀ F i, F < 20 → vu σ (20 + w) h d F i = σ F i := fun F i q => vu_ne (by omega)
  refine ⟨by rw [ju_g (by omega)]; show _ = nI (vu σ (20 + w) h d 0 0); rw [e0 0 0 (by omega)]; exact r1, by rw [ju_g (by omega)]; show _ = nI (vu σ (20 + w) h d 5 0); rw [e0 5 0 (by omega)]; exact r2, by rw [ju_g (by omega), e0 10 0 (by omega)]; exact r3, fun j hj => ?_, fun j hj => ?_, fun j hj i hi => ?_⟩
  · have hj' : j < vH σ := by
      have : vH (vu σ (20 + w) h d) = vH σ := e0 0 0 (by omega)
      omega
    rw [ju_g (by omega), ju_g (by omega), ju_g (by omega), ju_g (by omega), e0 1 j (by omega), e0 2 j (by omega), e0 3 j (by omega), e0 4 j (by omega)]; exact r4 j hj'
  · have hj' : j < vW σ := by
      have : vW (vu σ (20 + w) h d) = vW σ := e0 5 0 (by omega)
      omega
    rw [ju_g (by omega), ju_g (by omega), ju_g (by omega), e0 6 j (by omega), e0 7 j (by omega), e0 8 j (by omega)]; exact r5 j hj'
  · rw [ju_o]
    by_cases e : j = w ∧ i = h
    · obtain ⟨rfl, rfl⟩ := e; rw [if_pos ⟨rfl, rfl⟩, vu_same]
    · rw [if_neg (fun z => e (by omega)), vu_ne (fun z => e (by omega))]; exact r6 j hj i hi
/-- one of the houses' four numbers -/
theorem RM_house (hR : RM (M 16) σ) {F h x : Nat} (hF : F = 1 ∨ F = 2 ∨ F = 3 ∨ F = 4) : RM (ju M 16 F h (nI x) 16) (vu σ F h x) := by
  obtain ⟨r1, r2, r3, r4, r5, r6⟩ := hR
  have e0 : ∀ F' i, 5 ≤ F' ∨ F' = 0 → vu σ F h x F' i = σ F' i := fun F' i q => vu_ne (by omega)
  refine ⟨by rw [ju_g (by omega)]; show _ = nI (vu σ F h x 0 0); rw [e0 0 0 (by omega)]; exact r1, by rw [ju_g (by omega)]; show _ = nI (vu σ F h x 5 0); rw [e0 5 0 (by omega)]; exact r2, by rw [ju_g (by omega), e0 10 0 (by omega)]; exact r3, fun j hj => ?_, fun j hj => ?_, fun j hj i hi => ?_⟩
  · have hj' : j < vH σ := by
      have : vH (vu σ F h x) = vH σ := e0 0 0 (by omega)
      omega
    have k : ∀ F', (F' = 1 ∨ F' = 2 ∨ F' = 3 ∨ F' = 4) → M 16 F' j = nI (σ F' j) → ju M 16 F h (nI x) 16 F' j = nI (vu σ F h x F' j) := by
      intro F' _ q
      rw [ju_o]
      by_cases e : F' = F ∧ j = h
      · rw [if_pos e]; obtain ⟨rfl, rfl⟩ := e; rw [vu_same]
      · rw [if_neg e, vu_ne e]; exact q
    obtain ⟨q1, q2, q3, q4⟩ := r4 j hj'
    exact ⟨k 1 (by omega) q1, k 2 (by omega) q2, k 3 (by omega) q3, k 4 (by omega) q4⟩
  · have hj' : j < vW σ := by
      have : vW (vu σ F h x) = vW σ := e0 5 0 (by omega)
      omega
    rw [ju_g (by omega), ju_g (by omega), ju_g (by omega), e0 6 j (by omega), e0 7 j (by omega), e0 8 j (by omega)]; exact r5 j hj'
  · rw [ju_g (by omega), e0 (20 + j) i (by omega)]; exact r6 j hj i hi
end RMset
/-- debts grow, the day goes on -/
def b0 (d : Nat) : Nat := if d = 0 then 0 else min 100 (d + 1)
def grow (σ : vl) : vl := fun F i => if 20 ≤ F then b0 (σ F i) else if F = 10 ∧ i = 0 then σ 10 0 + 1 else σ F i
/-- the walkers below a0 have gone, those below w0 have seen, and w0 the houses below h0 -/
def stepW (τ : vl) (b : Bool) (a0 w0 h0 : Nat) : vl := fun F i => if F = 6 then (if i < a0 then twd (τ 6 i) (τ 7 i) else τ 6 i) else if 20 ≤ F then (if (F - 20 < w0 ∨ (F - 20 = w0 ∧ i < h0)) ∧ i < vH τ ∧ τ F i = 0 ∧ b = false ∧ see τ (F - 20) (twd (τ 6 (F - 20)) (τ 7 (F - 20))) i = true then 1 else τ F i) else τ F i
def evM (b : Bool) (σ : vl) : vl := stepW (grow σ) b (vW σ) (vW σ) 0
theorem stepW_lo {τ : vl} {b : Bool} {a0 w0 h0 F i : Nat} (h : F < 20) (h6 : F ≠ 6) : stepW τ b a0 w0 h0 F i = τ F i := by
  unfold stepW; rw [if_neg h6, if_neg (by omega)]
theorem stepW_6 {τ : vl} {b : Bool} {a0 w0 h0 i : Nat} : stepW τ b a0 w0 h0 6 i = if i < a0 then twd (τ 6 i) (τ 7 i) else τ 6 i := by
  unfold stepW; rw [if_pos rfl]
theorem stepW_20 {τ : vl} {b : Bool} {a0 w0 h0 w i : Nat} : stepW τ b a0 w0 h0 (20 + w) i = if (w < w0 ∨ (w = w0 ∧ i < h0)) ∧ i < vH τ ∧ τ (20 + w) i = 0 ∧ b = false ∧ see τ w (twd (τ 6 w) (τ 7 w)) i = true then 1 else τ (20 + w) i := by
  unfold stepW; rw [if_neg (by omega), if_pos (by omega), Nat.add_sub_cancel_left]
theorem grow_lo {σ : vl} {F i : Nat} (h : F < 20) (h2 : ¬ (F = 10 ∧ i = 0)) : grow σ F i = σ F i := by
  unfold grow; rw [if_neg (by omega), if_neg h2]
theorem grow_20 {σ : vl} {w i : Nat} : grow σ (20 + w) i = b0 (σ (20 + w) i) := by
  unfold grow; rw [if_pos (by omega)]
theorem grow_10 {σ : vl} : grow σ 10 0 = σ 10 0 + 1 := by
  unfold grow; rw [if_neg (by omega), if_pos ⟨rfl, rfl⟩]
theorem wg_grow {σ : vl} (hf : wg σ) : wg (grow σ) := by
  obtain ⟨f1, ⟨b1, b2, b3, b4, b5⟩, f3⟩ := hf
  refine ⟨by show grow σ 0 0 ≤ 7; rw [grow_lo (by omega) (by omega)]; exact f1, ⟨b1, b2, b3, b4, fun w h => ?_⟩, fun w h q => ?_⟩
  · rw [grow_20]; unfold b0; split <;> omega
  · rw [grow_20, f3 w h q]; rfl
theorem wg_stepW {τ : vl} {b : Bool} {a0 w0 h0 : Nat} (hf : wg τ) (hw : w0 ≤ vW τ) (hw2 : w0 = vW τ → h0 = 0) : wg (stepW τ b a0 w0 h0) := by
  have eH : vH (stepW τ b a0 w0 h0) = vH τ := stepW_lo (by omega) (by omega)
  have eW : vW (stepW τ b a0 w0 h0) = vW τ := stepW_lo (by omega) (by omega)
  obtain ⟨f1, ⟨b1, b2, b3, b4, b5⟩, f3⟩ := hf
  refine ⟨by rw [eH]; exact f1, ⟨by rw [eH]; exact b1, by rw [eW]; exact b2, fun h hh => ?_, fun w hw => ?_, fun w h => ?_⟩, fun w h q => ?_⟩
  · rw [eH] at hh
    rw [stepW_lo (by omega) (by omega), stepW_lo (by omega) (by omega), stepW_lo (by omega) (by omega), stepW_lo (by omega) (by omega)]; exact b3 h hh
  · rw [eW] at hw
    rw [stepW_lo (F := 7) (by omega) (by omega), stepW_lo (F := 8) (by omega) (by omega), stepW_6]
    obtain ⟨q1, q2, q3⟩ := b4 w hw
    refine ⟨?_, q2, q3⟩
    split
    · exact twd_lt _ q1 _ q2
    · exact q1
  · rw [stepW_20]
    have := b5 w h
    split <;> omega
  · rw [eH, eW] at q
    rw [stepW_20, if_neg (by omega)]
    exact f3 w h q
theorem evM_false {σ : vl} (hf : wg σ) : evM false σ = evN σ 1 := by
  have eH : vH (grow σ) = vH σ := grow_lo (by omega) (by omega)
  funext F i
  unfold evM
  by_cases h6 : F = 6
  · subst h6
    rw [stepW_6, grow_lo (by omega) (by omega), grow_lo (by omega) (by omega)]
    unfold evN
    rw [if_pos rfl]; rfl
  · by_cases h20 : 20 ≤ F
    · obtain ⟨w, rfl⟩ : ∃ w, F = 20 + w := ⟨F - 20, by omega⟩
      rw [stepW_20, eH, grow_20]
      by_cases q : w < vW σ ∧ i < vH σ
      · rw [evN_dk q.1 q.2]
        unfold dk
        rw [see_congr (σ := σ) (grow_lo (by omega) (by omega)) (grow_lo (by omega) (by omega)) (grow_lo (by omega) (by omega)) (grow_lo (by omega) (by omega)) (grow_lo (by omega) (by omega)), grow_lo (by omega) (by omega), grow_lo (by omega) (by omega)]
        show _ = if σ (20 + w) i = 0 then (if see σ w (twd (σ 6 w) (σ 7 w)) i = true then 1 else 0) else min 100 (σ (20 + w) i + 1)
        unfold b0
        by_cases z : σ (20 + w) i = 0
        · simp only [z, if_true]
          by_cases z2 : see σ w (twd (σ 6 w) (σ 7 w)) i = true
          · rw [if_pos ⟨Or.inl q.1, q.2, trivial, trivial, z2⟩, if_pos z2]
          · rw [if_neg (fun z => z2 z.2.2.2.2), if_neg z2]
        · simp only [z, if_false]
          rw [if_neg (by omega)]
      · rw [evN_no q, if_neg (by omega), hf.2.2 w i (by omega)]; rfl
    · rw [stepW_lo (by omega) h6]
      by_cases h10 : F = 10 ∧ i = 0
      · obtain ⟨rfl, rfl⟩ := h10
        rw [evN_day, grow_10]
      · rw [grow_lo (by omega) h10]
        unfold evN
        rw [if_neg h6, if_neg h20, if_neg h10]
