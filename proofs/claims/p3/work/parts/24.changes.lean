/-! what changes a village -/
def vu (σ : vl) (F i v : Nat) : vl := fun F' i' => if F' = F ∧ i' = i then v else σ F' i'
def addH (σ : vl) (k f c : Nat) : vl := vu (vu (vu (vu (vu σ 1 (vH σ) k) 2 (vH σ) f) 3 (vH σ) c) 4 (vH σ) 1) 0 0 (vH σ + 1)
def addW (σ : vl) (a g s : Nat) : vl := vu (vu (vu (vu σ 6 (vW σ) a) 7 (vW σ) g) 8 (vW σ) s) 5 0 (vW σ + 1)
def turnH (σ : vl) (h : Nat) : vl := vu σ 4 h (1 - σ 4 h)
def aimW (σ : vl) (w g : Nat) : vl := vu σ 7 w g
def debt (σ : vl) (w h d : Nat) : vl := vu σ (20 + w) h d
/-- n evenings on -/
def evN (σ : vl) (n : Nat) : vl := fun F i => if F = 6 then (if i < vW σ then pl σ i n else σ 6 i) else if 20 ≤ F then (if F - 20 < vW σ ∧ i < vH σ then dk σ (F - 20) i n else σ F i) else if F = 10 ∧ i = 0 then σ 10 0 + n else σ F i
theorem evN_lo (σ : vl) (n F i : Nat) (h : F < 6 ∨ (6 < F ∧ F < 10)) : evN σ n F i = σ F i := by
  unfold evN
  rw [if_neg (by omega), if_neg (by omega), if_neg (by omega)]
theorem evN_W (σ : vl) (n : Nat) : vW (evN σ n) = vW σ := evN_lo σ n 5 0 (by omega)
theorem evN_H (σ : vl) (n : Nat) : vH (evN σ n) = vH σ := evN_lo σ n 0 0 (by omega)
theorem evN_at {σ : vl} {n w : Nat} (hw : w < vW σ) : evN σ n 6 w = pl σ w n := by
  unfold evN
  rw [if_pos rfl, if_pos hw]
theorem evN_dk {σ : vl} {n w h : Nat} (hw : w < vW σ) (hh : h < vH σ) : evN σ n (20 + w) h = dk σ w h n := by
  unfold evN
  rw [if_neg (by omega), if_pos (by omega), Nat.add_sub_cancel_left, if_pos ⟨hw, hh⟩]
theorem evN_no {σ : vl} {n w h : Nat} (q : ¬ (w < vW σ ∧ h < vH σ)) : evN σ n (20 + w) h = σ (20 + w) h := by
  unfold evN
  rw [if_neg (by omega), if_pos (by omega), Nat.add_sub_cancel_left, if_neg q]
theorem evN_day (σ : vl) (n : Nat) : evN σ n 10 0 = σ 10 0 + n := by
  unfold evN
  rw [if_neg (by omega), if_neg (by omega), if_pos ⟨rfl, rfl⟩]
/-- what is seen hangs on the houses and the sight alone -/
theorem see_congr {σ τ : vl} {w c h : Nat} (h1 : τ 1 h = σ 1 h) (h2 : τ 2 h = σ 2 h) (h3 : τ 3 h = σ 3 h) (h4 : τ 4 h = σ 4 h) (h8 : τ 8 w = σ 8 w) : see τ w c h = see σ w c h := by
  unfold see rg
  rw [h1, h2, h3, h4, h8]
theorem pl_congr {σ τ : vl} {w : Nat} (h6 : τ 6 w = σ 6 w) (h7 : τ 7 w = σ 7 w) : ∀ k, pl τ w k = pl σ w k
  | 0 => h6
  | k + 1 => by show twd (pl τ w k) (τ 7 w) = twd (pl σ w k) (σ 7 w); rw [pl_congr h6 h7 k, h7]
theorem dk_congr {σ τ : vl} {w h : Nat} (h1 : τ 1 h = σ 1 h) (h2 : τ 2 h = σ 2 h) (h3 : τ 3 h = σ 3 h) (h4 : τ 4 h = σ 4 h) (h6 : τ 6 w = σ 6 w) (h7 : τ 7 w = σ 7 w) (h8 : τ 8 w = σ 8 w) (h9 : τ (20 + w) h = σ (20 + w) h) : ∀ k, dk τ w h k = dk σ w h k
  | 0 => h9
  | k + 1 => by
    unfold dk
    rw [dk_congr h1 h2 h3 h4 h6 h7 h8 h9 k, pl_congr h6 h7, see_congr h1 h2 h3 h4 h8]
theorem pl_ev {σ : vl} {a w : Nat} (hw : w < vW σ) : ∀ k, pl (evN σ a) w k = pl σ w (a + k)
  | 0 => evN_at hw
  | k + 1 => by
    show twd (pl (evN σ a) w k) (evN σ a 7 w) = twd (pl σ w (a + k)) (σ 7 w)
    rw [pl_ev hw k, evN_lo σ a 7 w (by omega)]
theorem dk_ev {σ : vl} {a w h : Nat} (hw : w < vW σ) (hh : h < vH σ) : ∀ k, dk (evN σ a) w h k = dk σ w h (a + k)
  | 0 => evN_dk hw hh
  | k + 1 => by
    show (if dk (evN σ a) w h k = 0 then (if see (evN σ a) w (pl (evN σ a) w (k + 1)) h then 1 else 0) else min 100 (dk (evN σ a) w h k + 1)) = dk σ w h (a + k + 1)
    rw [dk_ev hw hh k, pl_ev hw, see_congr (evN_lo σ a 1 h (by omega)) (evN_lo σ a 2 h (by omega)) (evN_lo σ a 3 h (by omega)) (evN_lo σ a 4 h (by omega)) (evN_lo σ a 8 w (by omega))]
    rfl
theorem evN_add (σ : vl) (a b : Nat) : evN (evN σ a) b = evN σ (a + b) := by
  funext F i
  by_cases h6 : F = 6
  · subst h6
    by_cases hw : i < vW σ
    · rw [evN_at (by rw [evN_W]; exact hw), pl_ev hw, evN_at hw]
    · have e1 : ∀ n, evN σ n 6 i = σ 6 i := fun n => by unfold evN; rw [if_pos rfl, if_neg hw]
      rw [e1]
      unfold evN
      rw [if_pos rfl, if_neg (by show ¬ i < vW (evN σ a); rw [evN_W]; exact hw)]
      exact e1 a
  · by_cases h20 : 20 ≤ F
    · obtain ⟨w, rfl⟩ : ∃ w, F = 20 + w := ⟨F - 20, by omega⟩
      by_cases q : w < vW σ ∧ i < vH σ
      · rw [evN_dk (by rw [evN_W]; exact q.1) (by rw [evN_H]; exact q.2), dk_ev q.1 q.2, evN_dk q.1 q.2]
      · rw [evN_no (by rw [evN_W, evN_H]; exact q), evN_no q, evN_no q]
    · by_cases h10 : F = 10 ∧ i = 0
      · obtain ⟨rfl, rfl⟩ := h10
        rw [evN_day, evN_day, evN_day]; omega
      · have e : ∀ (τ : vl) n, evN τ n F i = τ F i := fun τ n => by unfold evN; rw [if_neg h6, if_neg h20, if_neg h10]
        rw [e, e, e]
theorem evN_0 (σ : vl) : evN σ 0 = σ := by
  funext F i
  unfold evN
  by_cases h6 : F = 6
  · subst h6; rw [if_pos rfl]; split <;> rfl
  · rw [if_neg h6]
    by_cases h20 : 20 ≤ F
    · rw [if_pos h20]
      split
      · show σ (20 + (F - 20)) i = _; rw [show 20 + (F - 20) = F by omega]
      · rfl
    · rw [if_neg h20]
      split
      · rename_i q; rw [q.1, q.2]; rfl
      · rfl
-- ranges are kept
theorem wb_ev {σ : vl} {n : Nat} (hb : wb σ (vH σ)) : wb (evN σ n) (vH (evN σ n)) := by
  obtain ⟨b1, b2, b3, b4, b5⟩ := id hb
  refine ⟨by rw [evN_H]; exact b1, by rw [evN_W]; exact b2, fun h hh => ?_, fun w hw => ?_, fun w h => ?_⟩
  · rw [evN_H] at hh
    rw [evN_lo σ n 1 h (by omega), evN_lo σ n 2 h (by omega), evN_lo σ n 3 h (by omega), evN_lo σ n 4 h (by omega)]
    exact b3 h hh
  · rw [evN_W] at hw
    rw [evN_at hw, evN_lo σ n 7 w (by omega), evN_lo σ n 8 w (by omega)]
    exact ⟨pl_lt hb hw n, (b4 w hw).2⟩
  · by_cases q : w < vW σ ∧ h < vH σ
    · rw [evN_dk q.1 q.2]; exact dk_le hb n
    · rw [evN_no q]; exact b5 w h
theorem wf_ev {σ : vl} {n : Nat} (hf : wf σ) (hn : σ 10 0 + n ≤ 999) : wf (evN σ n) := by
  obtain ⟨f1, f2, f3, f4⟩ := hf
  refine ⟨by rw [evN_H]; exact f1, wb_ev f2, fun w h q => ?_, by rw [evN_day]; exact hn⟩
  rw [evN_W, evN_H] at q
  rw [evN_no (by omega)]
  exact f3 w h q
theorem vu_same {σ : vl} {F i v : Nat} : vu σ F i v F i = v := by simp [vu]
theorem vu_ne {σ : vl} {F i v F' i' : Nat} (h : ¬ (F' = F ∧ i' = i)) : vu σ F i v F' i' = σ F' i' := by simp only [vu, if_neg h]
theorem wf_turn {σ : vl} {h : Nat} (hf : wf σ) : wf (turnH σ h) := by
  obtain ⟨f1, ⟨b1, b2, b3, b4, b5⟩, f3, f4⟩ := hf
  refine ⟨f1, ⟨b1, b2, fun j hj => ?_, b4, fun w j => ?_⟩, fun w j q => ?_, f4⟩
  · refine ⟨(b3 j hj).1, (b3 j hj).2.1, (b3 j hj).2.2.1, ?_⟩
    by_cases e : j = h
    · subst e; show vu σ 4 j _ 4 j ≤ 1; rw [vu_same]; omega
    · show vu σ 4 h _ 4 j ≤ 1; rw [vu_ne (by omega)]; exact (b3 j hj).2.2.2
  · show vu σ 4 h _ (20 + w) j ≤ 100; rw [vu_ne (by omega)]; exact b5 w j
  · show vu σ 4 h _ (20 + w) j = 0; rw [vu_ne (by omega)]; exact f3 w j q
theorem wf_aim {σ : vl} {w g : Nat} (hf : wf σ) (hg : g < 49) : wf (aimW σ w g) := by
  obtain ⟨f1, ⟨b1, b2, b3, b4, b5⟩, f3, f4⟩ := hf
  refine ⟨f1, ⟨b1, b2, b3, fun j hj => ?_, fun x j => ?_⟩, fun x j q => ?_, f4⟩
  · refine ⟨(b4 j hj).1, ?_, (b4 j hj).2.2⟩
    by_cases e : j = w
    · subst e; show vu σ 7 j _ 7 j < 49; rw [vu_same]; exact hg
    · show vu σ 7 w _ 7 j < 49; rw [vu_ne (by omega)]; exact (b4 j hj).2.1
  · show vu σ 7 w _ (20 + x) j ≤ 100; rw [vu_ne (by omega)]; exact b5 x j
  · show vu σ 7 w _ (20 + x) j = 0; rw [vu_ne (by omega)]; exact f3 x j q
theorem wf_debt {σ : vl} {w h d : Nat} (hf : wf σ) (hw : w < vW σ) (hh : h < vH σ) (hd : d ≤ 100) : wf (debt σ w h d) := by
  obtain ⟨f1, ⟨b1, b2, b3, b4, b5⟩, f3, f4⟩ := hf
  have e : ∀ F i, F < 20 → debt σ w h d F i = σ F i := fun F i q => vu_ne (by omega)
  have eH : vH (debt σ w h d) = vH σ := e 0 0 (by omega)
  have eW : vW (debt σ w h d) = vW σ := e 5 0 (by omega)
  refine ⟨by rw [eH]; exact f1, ⟨by rw [eH]; exact b1, by rw [eW]; exact b2, fun j hj => ?_, fun x hx => ?_, fun x j => ?_⟩, fun x j q => ?_, by rw [e 10 0 (by omega)]; exact f4⟩
  · rw [eH] at hj; rw [e 1 j (by omega), e 2 j (by omega), e 3 j (by omega), e 4 j (by omega)]; exact b3 j hj
  · rw [eW] at hx; rw [e 6 x (by omega), e 7 x (by omega), e 8 x (by omega)]; exact b4 x hx
  · by_cases q : 20 + x = 20 + w ∧ j = h
    · show vu σ (20 + w) h d (20 + x) j ≤ 100; simp only [vu, if_pos q]; exact hd
    · show vu σ (20 + w) h d (20 + x) j ≤ 100; rw [vu_ne q]; exact b5 x j
  · rw [eH, eW] at q
    show vu σ (20 + w) h d (20 + x) j = 0
    rw [vu_ne (by omega)]
    exact f3 x j q
theorem addH_lo {σ : vl} {k f c F i : Nat} (h : ¬ (F = 0 ∧ i = 0)) (h2 : ¬ (1 ≤ F ∧ F ≤ 4 ∧ i = vH σ)) : addH σ k f c F i = σ F i := by
  unfold addH
  rw [vu_ne h, vu_ne (by omega), vu_ne (by omega), vu_ne (by omega), vu_ne (by omega)]
theorem addH_H {σ : vl} {k f c : Nat} : vH (addH σ k f c) = vH σ + 1 := by show addH σ k f c 0 0 = _; unfold addH; rw [vu_same]
theorem addH_W {σ : vl} {k f c : Nat} : vW (addH σ k f c) = vW σ := addH_lo (by omega) (by omega)
theorem addH_1 {σ : vl} {k f c : Nat} : addH σ k f c 1 (vH σ) = k := by unfold addH; rw [vu_ne (by omega), vu_ne (by omega), vu_ne (by omega), vu_ne (by omega), vu_same]
theorem addH_2 {σ : vl} {k f c : Nat} : addH σ k f c 2 (vH σ) = f := by unfold addH; rw [vu_ne (by omega), vu_ne (by omega), vu_ne (by omega), vu_same]
theorem addH_3 {σ : vl} {k f c : Nat} : addH σ k f c 3 (vH σ) = c := by unfold addH; rw [vu_ne (by omega), vu_ne (by omega), vu_same]
theorem addH_4 {σ : vl} {k f c : Nat} : addH σ k f c 4 (vH σ) = 1 := by unfold addH; rw [vu_ne (by omega), vu_same]
theorem wb_addH {σ : vl} {k f c : Nat} (hb : wb σ (vH σ)) (hH : vH σ ≤ 7) (hk : k < 6) (hf : f < 10) (hc : c < 49) : wb (addH σ k f c) (vH σ + 1) := by
  obtain ⟨b1, b2, b3, b4, b5⟩ := hb
  refine ⟨by omega, by rw [addH_W]; exact b2, fun j hj => ?_, fun w hw => ?_, fun w j => ?_⟩
  · by_cases e : j = vH σ
    · subst e; rw [addH_1, addH_2, addH_3, addH_4]; omega
    · rw [addH_lo (by omega) (by omega), addH_lo (by omega) (by omega), addH_lo (by omega) (by omega), addH_lo (by omega) (by omega)]; exact b3 j (by omega)
  · rw [addH_W] at hw
    rw [addH_lo (by omega) (by omega), addH_lo (by omega) (by omega), addH_lo (by omega) (by omega)]; exact b4 w hw
  · rw [addH_lo (by omega) (by omega)]; exact b5 w j
theorem wf_addH {σ : vl} {k f c : Nat} (h0 : wf σ) (hH : vH σ < 7) (hk : k < 6) (hf : f < 10) (hc : c < 49) : wf (addH σ k f c) := by
  obtain ⟨f1, f2, f3, f4⟩ := h0
  refine ⟨by rw [addH_H]; omega, by rw [addH_H]; exact wb_addH f2 f1 hk hf hc, fun w j q => ?_, by rw [addH_lo (by omega) (by omega)]; exact f4⟩
  rw [addH_W, addH_H] at q
  rw [addH_lo (by omega) (by omega)]
  exact f3 w j (by omega)
theorem addW_lo {σ : vl} {a g s F i : Nat} (h : ¬ (F = 5 ∧ i = 0)) (h2 : ¬ (6 ≤ F ∧ F ≤ 8 ∧ i = vW σ)) : addW σ a g s F i = σ F i := by
  unfold addW
  rw [vu_ne h, vu_ne (by omega), vu_ne (by omega), vu_ne (by omega)]
theorem addW_W {σ : vl} {a g s : Nat} : vW (addW σ a g s) = vW σ + 1 := by show addW σ a g s 5 0 = _; unfold addW; rw [vu_same]
theorem addW_H {σ : vl} {a g s : Nat} : vH (addW σ a g s) = vH σ := addW_lo (by omega) (by omega)
theorem addW_6 {σ : vl} {a g s : Nat} : addW σ a g s 6 (vW σ) = a := by unfold addW; rw [vu_ne (by omega), vu_ne (by omega), vu_ne (by omega), vu_same]
theorem addW_7 {σ : vl} {a g s : Nat} : addW σ a g s 7 (vW σ) = g := by unfold addW; rw [vu_ne (by omega), vu_ne (by omega), vu_same]
theorem addW_8 {σ : vl} {a g s : Nat} : addW σ a g s 8 (vW σ) = s := by unfold addW; rw [vu_ne (by omega), vu_same]
theorem wf_addW {σ : vl} {a g s : Nat} (h0 : wf σ) (hW : vW σ < 6) (ha : a < 49) (hg : g < 49) (hs : s ≤ 2) : wf (addW σ a g s) := by
  obtain ⟨f1, ⟨b1, b2, b3, b4, b5⟩, f3, f4⟩ := h0
  refine ⟨by rw [addW_H]; exact f1, ⟨by rw [addW_H]; exact b1, by rw [addW_W]; omega, fun j hj => ?_, fun w hw => ?_, fun w j => ?_⟩, fun w j q => ?_, by rw [addW_lo (by omega) (by omega)]; exact f4⟩
  · rw [addW_H] at hj
    rw [addW_lo (by omega) (by omega), addW_lo (by omega) (by omega), addW_lo (by omega) (by omega), addW_lo (by omega) (by omega)]; exact b3 j hj
  · rw [addW_W] at hw
    by_cases e : w = vW σ
    · subst e; rw [addW_6, addW_7, addW_8]; exact ⟨ha, hg, hs⟩
    · rw [addW_lo (by omega) (by omega), addW_lo (by omega) (by omega), addW_lo (by omega) (by omega)]; exact b4 w (by omega)
  · rw [addW_lo (by omega) (by omega)]; exact b5 w j
  · rw [addW_W, addW_H] at q
    rw [addW_lo (by omega) (by omega)]
    exact f3 w j (by omega)
