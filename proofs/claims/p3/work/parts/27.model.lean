/-! the reference's fields tell a village -/
def RM (g : Nat → Nat → Int32) (σ : vl) : Prop := g 0 0 = nI (vH σ) ∧ g 5 0 = nI (vW σ) ∧ g 10 0 = nI (σ 10 0) ∧ (∀ h, h < vH σ → g 1 h = nI (σ 1 h) ∧ g 2 h = nI (σ 2 h) ∧ g 3 h = nI (σ 3 h) ∧ g 4 h = nI (σ 4 h)) ∧ (∀ w, w < vW σ → g 6 w = nI (σ 6 w) ∧ g 7 w = nI (σ 7 w) ∧ g 8 w = nI (σ 8 w)) ∧ (∀ w, w < 6 → ∀ h, h < 7 → g 9 (7 * w + h) = nI (σ (20 + w) h))
/-- in range, whatever the evening -/
def wg (σ : vl) : Prop := vH σ ≤ 7 ∧ wb σ (vH σ) ∧ (∀ w h, (vW σ ≤ w ∨ vH σ ≤ h) → σ (20 + w) h = 0)
theorem wg_of {σ : vl} (hf : wf σ) : wg σ := ⟨hf.1, hf.2.1, hf.2.2.1⟩
theorem wg_ev {σ : vl} {n : Nat} (hf : wg σ) : wg (evN σ n) := by
  obtain ⟨f1, f2, f3⟩ := hf
  refine ⟨by rw [evN_H]; exact f1, wb_ev f2, fun w h q => ?_⟩
  rw [evN_W, evN_H] at q
  rw [evN_no (by omega)]
  exact f3 w h q
def okv (n : Nat) (v : Int32) : Bool := decide (nI 0 ≤ v ∧ v < nI n)
theorem okv_iff {n : Nat} {v : Int32} : okv n v = true ↔ nI 0 ≤ v ∧ v < nI n := by unfold okv; exact decide_eq_true_iff
theorem okv_nI {n j : Nat} (hn : n < 2 ^ 31) (hj : j < 2 ^ 31) : okv n (nI j) = true ↔ j < n := by
  rw [okv_iff, q_le (by omega) hj, q_lt hj hn]
  omega
theorem okv_ex {n : Nat} {v : Int32} (hn : n < 2 ^ 31) (h : okv n v = true) : ∃ j, j < n ∧ v = nI j := by
  rw [okv_iff] at h
  obtain ⟨j, hj, rfl⟩ := nI_of (x := v) (fun z => by
    have := h.1
    rw [Int32.le_iff_toInt_le] at this
    rw [Int32.lt_iff_toInt_lt] at z
    have e : (nI 0).toInt = (0 : Int32).toInt := rfl
    omega)
  exact ⟨j, (q_lt hj hn).mp h.2, rfl⟩
theorem m_in (a b c : Int64) : f_X6_in a b c = if b ≤ a ∧ a ≤ c then nI 1 else nI 0 := by
  unfold f_X6_in
  by_cases h1 : b ≤ a
  · rw [if_neg (by rw [lg_cmp_lt]; exact Int64.not_lt.mpr h1)]
    by_cases h2 : a ≤ c
    · rw [if_neg (by rw [lg_cmp_gt]; exact Int64.not_lt.mpr h2), if_pos ⟨h1, h2⟩]; rfl
    · rw [if_pos (by rw [lg_cmp_gt]; exact Int64.not_le.mp h2), if_neg (fun z => h2 z.2)]; rfl
  · rw [if_pos (by rw [lg_cmp_lt]; exact Int64.not_le.mp h1), if_neg (fun z => h1 z.1)]; rfl
theorem q_wle (a b : Int32) : a.toInt64 ≤ b.toInt64 ↔ a ≤ b := fa_wide_le a b
theorem m_inN (v : Int32) (n : Nat) (hn : n < 2 ^ 30) : f_X6_in v.toInt64 0 (nI n - nI 1).toInt64 = if okv n v then nI 1 else nI 0 := by
  rw [m_in]
  have h0 : (0 : Int64) = (nI 0).toInt64 := by decide
  rw [h0]
  simp only [q_wle]
  have e : v ≤ nI n - nI 1 ↔ v < nI n := by
    rw [Int32.le_iff_toInt_le, Int32.lt_iff_toInt_lt, pk_sub_toInt hn (by omega), nI_toInt (by omega)]; omega
  by_cases c : okv n v = true
  · rw [if_pos c, if_pos (by rw [okv_iff] at c; exact ⟨c.1, e.mpr c.2⟩)]
  · rw [if_neg c, if_neg (fun z => c (okv_iff.mpr ⟨z.1, e.mp z.2⟩))]
theorem m_inL (v : Int32) (c : Int64) (n : Nat) (hn : n < 2 ^ 30) (hc : c = (nI n - nI 1).toInt64) : f_X6_in v.toInt64 0 c = if okv n v then nI 1 else nI 0 := by rw [hc, m_inN v n hn]
theorem m_isCell (v : Int32) : f_X6_isCell v = if okv 49 v then nI 1 else nI 0 := m_inL v 48 49 (by decide) (by decide)
theorem p_isCell' (v : Int32) : f_X5_isCell v = if okv 49 v then nI 1 else nI 0 := by
  rw [p_isCell]
  by_cases h1 : v < nI 0
  · rw [if_pos (Or.inl h1), if_neg (fun z => by rw [okv_iff] at z; rw [Int32.lt_iff_toInt_lt] at h1; have := z.1; rw [Int32.le_iff_toInt_le] at this; omega)]
  · by_cases h2 : nI 49 ≤ v
    · rw [if_pos (Or.inr h2), if_neg (fun z => by rw [okv_iff] at z; rw [Int32.le_iff_toInt_le] at h2; have := z.2; rw [Int32.lt_iff_toInt_lt] at this; omega)]
    · rw [if_neg (fun z => z.elim h1 h2), if_pos]
      rw [okv_iff]
      rw [Int32.lt_iff_toInt_lt] at h1 ⊢
      rw [Int32.le_iff_toInt_le] at h2 ⊢
      omega
theorem p_hasH {M : jm} {o : Nat} {σ : vl} (h0 : M o 0 0 = nI (vH σ)) (v : Int32) : f_X4_hasHouse M o v = if okv (vH σ) v then nI 1 else nI 0 := by
  unfold f_X4_hasHouse
  rw [h0]
  simp only [q_lit]
  by_cases h1 : v < nI 0
  · rw [if_pos h1, if_neg (fun z => by rw [okv_iff] at z; rw [Int32.lt_iff_toInt_lt] at h1; have := z.1; rw [Int32.le_iff_toInt_le] at this; omega)]
  · rw [if_neg h1]
    by_cases h2 : nI (vH σ) ≤ v
    · rw [if_pos h2, if_neg (fun z => by rw [okv_iff] at z; rw [Int32.le_iff_toInt_le] at h2; have := z.2; rw [Int32.lt_iff_toInt_lt] at this; omega)]
    · rw [if_neg h2, if_pos]
      rw [okv_iff]
      rw [Int32.lt_iff_toInt_lt] at h1 ⊢
      rw [Int32.le_iff_toInt_le] at h2 ⊢
      omega
theorem p_hasW {M : jm} {o : Nat} {σ : vl} (h5 : M o 5 0 = nI (vW σ)) (v : Int32) : f_X4_hasWalker M o v = if okv (vW σ) v then nI 1 else nI 0 := by
  unfold f_X4_hasWalker
  rw [h5]
  simp only [q_lit]
  by_cases h1 : v < nI 0
  · rw [if_pos h1, if_neg (fun z => by rw [okv_iff] at z; rw [Int32.lt_iff_toInt_lt] at h1; have := z.1; rw [Int32.le_iff_toInt_le] at this; omega)]
  · rw [if_neg h1]
    by_cases h2 : nI (vW σ) ≤ v
    · rw [if_pos h2, if_neg (fun z => by rw [okv_iff] at z; rw [Int32.le_iff_toInt_le] at h2; have := z.2; rw [Int32.lt_iff_toInt_lt] at this; omega)]
    · rw [if_neg h2, if_pos]
      rw [okv_iff]
      rw [Int32.lt_iff_toInt_lt] at h1 ⊢
      rw [Int32.le_iff_toInt_le] at h2 ⊢
      omega
section PM
variable {M : jm} {σ : vl}
theorem m_isHouse (hR : RM (M 16) σ) (hf : wg σ) (v : Int32) : f_X6_isHouse M v = if okv (vH σ) v then nI 1 else nI 0 := by
  have := hf.1
  unfold f_X6_isHouse
  rw [hR.1]
  exact m_inN v (vH σ) (by omega)
theorem m_isWalker (hR : RM (M 16) σ) (hf : wg σ) (v : Int32) : f_X6_isWalker M v = if okv (vW σ) v then nI 1 else nI 0 := by
  have := hf.2.1.2.1
  unfold f_X6_isWalker
  rw [hR.2.1]
  exact m_inN v (vW σ) (by omega)
theorem m_wrongBoth (hR : RM (M 16) σ) (hf : wg σ) (v u : Int32) : f_X6_wrongBoth M v u = if okv (vW σ) v = true ∧ okv (vH σ) u = true then nI 0 else -nI 1 := by
  unfold f_X6_wrongBoth
  rw [m_isHouse hR hf, m_isWalker hR hf]
  by_cases h1 : okv (vW σ) v = true
  · by_cases h2 : okv (vH σ) u = true
    · simp only [if_pos h1, if_pos h2, if_pos (show okv (vW σ) v = true ∧ okv (vH σ) u = true from ⟨h1, h2⟩)]; decide
    · simp only [if_pos h1, if_neg h2, if_neg (show ¬ (okv (vW σ) v = true ∧ okv (vH σ) u = true) from fun z => h2 z.2)]; decide
  · rw [if_neg h1, if_neg (show ¬ (okv (vW σ) v = true ∧ okv (vH σ) u = true) from fun z => h1 z.1)]
    simp only [q_lit]
    rw [if_pos (by decide)]
theorem m_reachOf (hR : RM (M 16) σ) (hf : wg σ) {h : Nat} (hh : h < vH σ) : f_X6_reachOf M (nI h) = some (nI (rch (σ 1 h) (σ 2 h))) := by
  have hH := hf.1
  obtain ⟨e1, e2, e3, e4⟩ := hR.2.2.2.1 h hh
  obtain ⟨k1, k2, k3, k4⟩ := hf.2.1.2.2.1 h hh
  unfold f_X6_reachOf rch
  simp (disch := omega) only [q_lit, q_gd, q_cl, e1, e2, pk_div, nI_add, q_eq]
  by_cases c0 : σ 1 h = 0
  · simp [c0]
  · by_cases c1 : σ 1 h = 1
    · simp [c1]
    · by_cases c2 : σ 1 h = 2
      · simp [c2]
      · by_cases c3 : σ 1 h = 3
        · simp [c3]
        · by_cases c4 : σ 1 h = 4
          · simp [c4]
          · have c5 : σ 1 h = 5 := by omega
            simp [c5]
theorem m_minutesOf (hR : RM (M 16) σ) (hf : wg σ) {h a : Nat} (hh : h < vH σ) (ha : a ≤ 200) : f_X6_minutesOf M (nI h) (nI a) = some (nI (mns (σ 1 h) (σ 2 h) a)) := by
  have hH := hf.1
  obtain ⟨e1, e2, e3, e4⟩ := hR.2.2.2.1 h hh
  obtain ⟨k1, k2, k3, k4⟩ := hf.2.1.2.2.1 h hh
  unfold f_X6_minutesOf mns
  simp (disch := omega) only [q_lit, q_gd, q_cl, e1, e2, pk_div, nI_add, pk_mul, q_eq]
  repeat' split
  all_goals rfl
theorem m_canSee (hR : RM (M 16) σ) (hf : wg σ) {w c h : Nat} (hw : w < vW σ) (hc : c < 49) (hh : h < vH σ) : f_X6_canSee M (nI w) (nI c) (nI h) = some (if see σ w c h then nI 1 else nI 0) := by
  have hH := hf.1
  have hW := hf.2.1.2.1
  obtain ⟨e1, e2, e3, e4⟩ := hR.2.2.2.1 h hh
  obtain ⟨k1, k2, k3, k4⟩ := hf.2.1.2.2.1 h hh
  obtain ⟨g1, g2, g3⟩ := hR.2.2.2.2.1 w hw
  obtain ⟨a1, a2, a3⟩ := hf.2.1.2.2.2.1 w hw
  have hr := rch_le _ k1 _ k2
  have hs := stp_lt c hc _ k3
  have J : ∀ t : Int32, f_X6_canSee_j39 M (nI c) (nI h) t = some (if σ 4 h = 1 then (if t < nI (stp c (σ 3 h)) then nI 0 else nI 1) else nI 0) := by
    intro t
    unfold f_X6_canSee_j39
    simp (disch := omega) only [q_lit, q_gd, q_cl, e3, e4, q_eq, m_stepsOf c hc _ k3]
    by_cases z : σ 4 h = 1
    · rw [if_pos z, if_pos z]; split <;> rfl
    · rw [if_neg z, if_neg z]
  unfold f_X6_canSee
  simp (disch := omega) only [q_lit, q_gd, q_cl, g3, q_eq, m_reachOf hR hf hh, q_jb, J, pk_div, q_lt]
  unfold see rg
  by_cases z : σ 4 h = 1
  · by_cases z2 : σ 8 w = 2
    · simp only [z, z2, if_true, true_or, true_and, decide_eq_true_eq]
      by_cases z3 : rch (σ 1 h) (σ 2 h) < stp c (σ 3 h)
      · rw [if_pos z3, if_neg (by omega)]
      · rw [if_neg z3, if_pos (by omega)]
    · by_cases z1 : σ 8 w = 1
      · simp only [z, z1, if_true, or_true, true_and, decide_eq_true_eq, show ¬ (1 = 2) from by decide, if_false]
        by_cases z3 : rch (σ 1 h) (σ 2 h) / 2 < stp c (σ 3 h)
        · rw [if_pos z3, if_neg (by omega)]
        · rw [if_neg z3, if_pos (by omega)]
      · simp only [z, z1, z2, if_true, if_false, or_self, false_and, and_false, decide_eq_true_eq]
        rw [if_pos (q_neg_lt (by omega) (by decide) (by decide))]
  · simp only [z, if_false, false_and, decide_eq_true_eq]
    repeat' split
    all_goals rfl
theorem q_or0 (x : Int32) : x ||| nI 0 = x := by
  apply b_ext
  intro i hi
  rw [b_or, show (nI 0 : Int32) = 0 from rfl, b_0, Bool.or_false]
theorem q_pos {a : Nat} (h : a < 2 ^ 31) : nI a ≤ nI 0 ↔ a = 0 := by rw [q_le h (by omega)]; omega
theorem m_seenFrom (hR : RM (M 16) σ) (hf : wg σ) {w c : Nat} (hw : w < vW σ) (hc : c < 49) : f_X6_seenFrom M (nI w) (nI c) = some (nI (bs (see σ w c) (vH σ))) := by
  have hH := hf.1
  unfold f_X6_seenFrom
  simp only [q_lit]
  rw [loop0 (L := fun k a i => f_X6_seenFrom_l5 M (nI w) (nI c) k a i) (f := fun i z => if see σ w c i then z ||| bi i else z) (K := fun a => some a) (n := vH σ)]
  · rw [ff_bs _ _ (by omega)]
  · intro k a i hi
    rw [f_X6_seenFrom_l5, hR.1, if_neg (by rw [q_le (by omega) (by omega)]; omega), m_canSee hR hf hw hc hi, q_jb]
    simp only [q_lit, nI_add]
    by_cases z : see σ w c i = true
    · simp only [z, if_true]; rw [if_neg (by decide)]; rfl
    · simp only [z, if_false]; rw [if_pos (by decide), q_or0]; rfl
  · intro k a
    rw [f_X6_seenFrom_l5, hR.1, if_pos (by rw [q_le (by omega) (by omega)]; omega)]
  · omega
theorem m_owesBits (hR : RM (M 16) σ) (hf : wg σ) {w : Nat} (hw : w < vW σ) : f_X6_owesBits M (nI w) = some (nI (bs (owe σ 0 w) (vH σ))) := by
  have hH := hf.1
  have hW := hf.2.1.2.1
  unfold f_X6_owesBits
  simp only [q_lit]
  rw [loop0 (L := fun k a i => f_X6_owesBits_l4 M (nI w) k a i) (f := fun i z => if owe σ 0 w i then z ||| bi i else z) (K := fun a => some a) (n := vH σ)]
  · rw [ff_bs _ _ (by omega)]
  · intro k a i hi
    have hd := hf.2.1.2.2.2.2 w i
    rw [f_X6_owesBits_l4, hR.1, if_neg (by rw [q_le (by omega) (by omega)]; omega)]
    simp (disch := omega) only [q_lit, nI_add, pk_mul, q_gd, q_cl, hR.2.2.2.2.2 w (by omega) i (by omega), q_pos, q_or0]
    by_cases z : σ (20 + w) i = 0
    · rw [if_pos z, if_neg (by simp [owe, dk, z])]
    · rw [if_neg z, if_pos (by simp [owe, dk, z])]; rfl
  · intro k a
    rw [f_X6_owesBits_l4, hR.1, if_pos (by rw [q_le (by omega) (by omega)]; omega)]
  · omega
theorem m_owersOf (hR : RM (M 16) σ) (hf : wg σ) {h : Nat} (hh : h < vH σ) : f_X6_owersOf M (nI h) = some (nI (bs (fun w => owe σ 0 w h) (vW σ))) := by
  have hH := hf.1
  have hW := hf.2.1.2.1
  unfold f_X6_owersOf
  simp only [q_lit]
  rw [loop0 (L := fun k a i => f_X6_owersOf_l4 M (nI h) k a i) (f := fun i z => if owe σ 0 i h then z ||| bi i else z) (K := fun a => some a) (n := vW σ)]
  · rw [ff_bs (fun w => owe σ 0 w h) _ (by omega)]
  · intro k a i hi
    have hd := hf.2.1.2.2.2.2 i h
    rw [f_X6_owersOf_l4, hR.2.1, if_neg (by rw [q_le (by omega) (by omega)]; omega)]
    simp (disch := omega) only [q_lit, nI_add, pk_mul, q_gd, q_cl, hR.2.2.2.2.2 i (by omega) h (by omega), q_pos, q_or0]
    by_cases z : σ (20 + i) h = 0
    · rw [if_pos z, if_neg (by simp [owe, dk, z])]
    · rw [if_neg z, if_pos (by simp [owe, dk, z])]; rfl
  · intro k a
    rw [f_X6_owersOf_l4, hR.2.1, if_pos (by rw [q_le (by omega) (by omega)]; omega)]
  · omega
theorem m_priceOf (hR : RM (M 16) σ) (hf : wg σ) {w : Nat} (hw : w < vW σ) : f_X6_priceOf M (nI w) = some (nI (price σ 0 w)) := by
  have hH := hf.1
  have hW := hf.2.1.2.1
  unfold f_X6_priceOf
  simp only [q_lit]
  rw [loop0 (L := fun k a i => f_X6_priceOf_l4 M (nI w) k a i) (f := fun i z => z + nI (mb σ w i 0)) (K := fun a => some a) (n := vH σ)]
  · rw [ff_sm (fun i => mb σ w i 0) 0, Nat.zero_add]; rfl
  · intro k a i hi
    have hd := hf.2.1.2.2.2.2 w i
    have e : dk σ w i 0 = σ (20 + w) i := rfl
    rw [f_X6_priceOf_l4, hR.1, if_neg (by rw [q_le (by omega) (by omega)]; omega)]
    unfold mb
    rw [e]
    simp (disch := omega) only [q_lit, nI_add, pk_mul, q_gd, q_cl, hR.2.2.2.2.2 w (by omega) i (by omega), q_pos]
    by_cases z : σ (20 + w) i = 0
    · rw [if_pos z, if_pos z]
    · rw [if_neg z, if_neg z, pk_sub (by omega), m_minutesOf hR hf hi (by omega), q_jb]
  · intro k a
    rw [f_X6_priceOf_l4, hR.1, if_pos (by rw [q_le (by omega) (by omega)]; omega)]
  · omega
theorem m_allPrices (hR : RM (M 16) σ) (hf : wg σ) : f_X6_allPrices M = some (nI (prices σ 0)) := by
  have hW := hf.2.1.2.1
  unfold f_X6_allPrices
  simp only [q_lit]
  rw [loop0 (L := fun k a i => f_X6_allPrices_l4 M k a i) (f := fun w z => z + nI (price σ 0 w)) (K := fun a => some a) (n := vW σ)]
  · rw [ff_sm (price σ 0) 0, Nat.zero_add]; rfl
  · intro k a i hi
    rw [f_X6_allPrices_l4, hR.2.1, if_neg (by rw [q_le (by omega) (by omega)]; omega), m_priceOf hR hf hi, q_jb]
    simp only [q_lit, nI_add]
  · intro k a
    rw [f_X6_allPrices_l4, hR.2.1, if_pos (by rw [q_le (by omega) (by omega)]; omega)]
  · omega
theorem m_allDebts (hR : RM (M 16) σ) (hf : wg σ) : f_X6_allDebts M = some (nI (debts σ 0)) := by
  have hW := hf.2.1.2.1
  have hH := hf.1
  unfold f_X6_allDebts
  simp only [q_lit]
  rw [loop0 (L := fun k a i => f_X6_allDebts_l4 M k a i) (f := fun w z => z + nI (cn (owe σ 0 w) (vH σ))) (K := fun a => some a) (n := vW σ)]
  · rw [ff_sm (fun w => cn (owe σ 0 w) (vH σ)) 0, Nat.zero_add]; rfl
  · intro k a i hi
    rw [f_X6_allDebts_l4, hR.2.1, if_neg (by rw [q_le (by omega) (by omega)]; omega), m_owesBits hR hf hi, q_jb, m_onesOf (by omega), q_jb]
    simp only [q_lit, nI_add]
  · intro k a
    rw [f_X6_allDebts_l4, hR.2.1, if_pos (by rw [q_le (by omega) (by omega)]; omega)]
  · omega
theorem m_seersOf (hR : RM (M 16) σ) (hf : wg σ) {h : Nat} (hh : h < vH σ) : f_X6_seersOf M (nI h) = some (nI (bs (fun w => see σ w (σ 6 w) h) (vW σ))) := by
  have hH := hf.1
  have hW := hf.2.1.2.1
  unfold f_X6_seersOf
  simp only [q_lit]
  rw [loop0 (L := fun k a i => f_X6_seersOf_l4 M (nI h) k a i) (f := fun i z => if see σ i (σ 6 i) h then z ||| bi i else z) (K := fun a => some a) (n := vW σ)]
  · rw [ff_bs (fun w => see σ w (σ 6 w) h) _ (by omega)]
  · intro k a i hi
    have hc := (hf.2.1.2.2.2.1 i hi).1
    rw [f_X6_seersOf_l4, hR.2.1, if_neg (by rw [q_le (by omega) (by omega)]; omega), q_gd (by omega) (by omega), q_cl (by omega), (hR.2.2.2.2.1 i hi).1, m_canSee hR hf hi hc hh, q_jb]
    simp only [q_lit, nI_add]
    by_cases z : see σ i (σ 6 i) h = true
    · simp only [z, if_true]; rw [if_neg (by decide)]; rfl
    · simp only [z, if_false]; rw [if_pos (by decide), q_or0]; rfl
  · intro k a
    rw [f_X6_seersOf_l4, hR.2.1, if_pos (by rw [q_le (by omega) (by omega)]; omega)]
  · omega
theorem m_heavy (hR : RM (M 16) σ) (hf : wg σ) : f_X6_heavyPrices M = some (nI (burden σ)) := by
  have hW := hf.2.1.2.1
  unfold f_X6_heavyPrices
  simp only [q_lit]
  rw [loop0 (L := fun k a i => f_X6_heavyPrices_l4 M k a i) (f := fun w z => z + nI (hvy (price σ 0 w))) (K := fun a => some a) (n := vW σ)]
  · rw [ff_sm (fun w => hvy (price σ 0 w)) 0, Nat.zero_add]; rfl
  · intro k a i hi
    have hp := price_le (w := i) (n := 0) hf.2.1
    rw [f_X6_heavyPrices_l4, hR.2.1, if_neg (by rw [q_le (by omega) (by omega)]; omega), m_priceOf hR hf hi, q_jb]
    simp (disch := omega) only [q_lit, nI_add, pk_mul, q_le]
    unfold hvy
    split <;> rfl
  · intro k a
    rw [f_X6_heavyPrices_l4, hR.2.1, if_pos (by rw [q_le (by omega) (by omega)]; omega)]
  · omega
end PM
