/-! a World of the class tells a village (of its first N houses) -/
def RB (g : Nat → Nat → Int32) (σ : vl) (N : Nat) : Prop := g 5 0 = nI (vW σ) ∧ (∀ h, h < N → g 1 h = nI (σ 1 h) ∧ g 2 h = nI (σ 2 h) ∧ g 3 h = nI (σ 3 h) ∧ bt (g 4 0) h = decide (σ 4 h = 1)) ∧ (∀ w, w < vW σ → g 6 w = nI (σ 6 w) ∧ g 7 w = nI (σ 7 w) ∧ g 8 w = nI (σ 8 w)) ∧ (∀ w, w < 6 → ∀ h, h < 8 → g 9 (w * 8 + h) = nI (σ (20 + w) h) - nI 1)
def RW (g : Nat → Nat → Int32) (σ : vl) : Prop := g 0 0 = nI (vH σ) ∧ g 10 0 = nI (σ 10 0) ∧ RB g σ (vH σ)
/-- the first of the evenings 1 .. n in which the walker sees the house, or 0 -/
def fs (σ : vl) (w h : Nat) : Nat → Nat
  | 0 => 0
  | n + 1 => if fs σ w h n ≠ 0 then fs σ w h n else if see σ w (pl σ w (n + 1)) h then n + 1 else 0
theorem fs_le (σ : vl) (w h : Nat) : ∀ n, fs σ w h n ≤ n
  | 0 => Nat.le_refl 0
  | n + 1 => by
    have q := fs_le σ w h n
    unfold fs
    repeat' split
    all_goals omega
theorem fs_none {σ : vl} {w h : Nat} : ∀ n, (∀ j, 1 ≤ j → j ≤ n → see σ w (pl σ w j) h = false) → fs σ w h n = 0
  | 0, _ => rfl
  | n + 1, q => by
    unfold fs
    rw [if_neg (by rw [fs_none n (fun j h1 h2 => q j h1 (by omega))]; simp), q (n + 1) (by omega) (Nat.le_refl _)]
    rfl
theorem fs_mono {σ : vl} {w h n : Nat} (q : fs σ w h n ≠ 0) : ∀ d, fs σ w h (n + d) = fs σ w h n
  | 0 => rfl
  | d + 1 => by
    show (if fs σ w h (n + d) ≠ 0 then fs σ w h (n + d) else if see σ w (pl σ w (n + d + 1)) h then n + d + 1 else 0) = _
    rw [fs_mono q d, if_pos q]
theorem fs_first {σ : vl} {w h k : Nat} (q : ∀ j, 1 ≤ j → j ≤ k → see σ w (pl σ w j) h = false) (q2 : see σ w (pl σ w (k + 1)) h = true) {n : Nat} (hn : k + 1 ≤ n) : fs σ w h n = k + 1 := by
  have e : fs σ w h (k + 1) = k + 1 := by
    unfold fs
    rw [if_neg (by rw [fs_none k q]; simp), if_pos q2]
  have := fs_mono (σ := σ) (w := w) (h := h) (n := k + 1) (by rw [e]; omega) (n - (k + 1))
  rw [show k + 1 + (n - (k + 1)) = n by omega] at this
  rw [this, e]
theorem pl_stay {σ : vl} {w k : Nat} (q : pl σ w k = σ 7 w) : ∀ d, pl σ w (k + d) = σ 7 w
  | 0 => q
  | d + 1 => by
    show twd (pl σ w (k + d)) (σ 7 w) = _
    rw [pl_stay q d, twd_self]
theorem dk_pos {σ : vl} {w h : Nat} (q : σ (20 + w) h ≠ 0) (q2 : σ (20 + w) h ≤ 100) : ∀ n, dk σ w h n = min 100 (σ (20 + w) h + n)
  | 0 => by show σ (20 + w) h = _; omega
  | n + 1 => by
    unfold dk
    rw [dk_pos q q2 n, if_neg (by omega)]
    omega
theorem dk_zero {σ : vl} {w h : Nat} (q : σ (20 + w) h = 0) : ∀ n, dk σ w h n = if fs σ w h n = 0 then 0 else min 100 (n - fs σ w h n + 1)
  | 0 => by rw [show fs σ w h 0 = 0 from rfl, if_pos rfl]; exact q
  | n + 1 => by
    have hl := fs_le σ w h n
    unfold dk fs
    rw [dk_zero q n]
    by_cases e : fs σ w h n = 0
    · simp only [e, ne_eq, not_true_eq_false, if_false, if_true]
      by_cases e2 : see σ w (pl σ w (n + 1)) h = true
      · rw [if_pos e2, if_pos e2, if_neg (by omega)]; omega
      · rw [if_neg e2, if_neg e2, if_pos rfl]
    · simp only [e, ne_eq, not_false_eq_true, if_true, if_false]
      rw [if_neg (by omega)]
      omega
def mb (σ : vl) (w h n : Nat) : Nat := if dk σ w h n = 0 then 0 else mns (σ 1 h) (σ 2 h) (dk σ w h n - 1)
def price (σ : vl) (n w : Nat) : Nat := sm (fun h => mb σ w h n) (vH σ)
def prices (σ : vl) (n : Nat) : Nat := sm (price σ n) (vW σ)
def owe (σ : vl) (n w h : Nat) : Bool := decide (dk σ w h n ≠ 0)
def debts (σ : vl) (n : Nat) : Nat := sm (fun w => cn (owe σ n w) (vH σ)) (vW σ)
section PW
variable {M : jm} {o N : Nat} {σ : vl}
theorem p_isLit (hR : RB (M o) σ N) {h : Nat} (hh : h < N) (hN : N ≤ 8) : f_X4_isLit M o (nI h) = if σ 4 h = 1 then nI 1 else nI 0 := by
  have e := (hR.2.1 h hh).2.2.2
  unfold f_X4_isLit
  simp only [q_lit]
  by_cases c : σ 4 h = 1
  · rw [if_neg, if_pos c]
    rw [q_tst _ (by omega), e]; simp [c]
  · rw [if_pos, if_neg c]
    rw [q_tst _ (by omega), e]; simp [c]
theorem p_rangeOf (hR : RB (M o) σ N) (hb : wb σ N) {w h : Nat} (hw : w < vW σ) (hh : h < N) : f_X4_rangeOf M o (nI w) (nI h) = some (if σ 4 h = 1 ∧ (σ 8 w = 2 ∨ σ 8 w = 1) then nI (rg σ w h) else -nI 1) := by
  obtain ⟨b1, b2, b3, b4, b5⟩ := hb
  obtain ⟨k1, k2, k3, k4⟩ := b3 h hh
  obtain ⟨a1, a2, a3⟩ := b4 w hw
  obtain ⟨e1, e2, e3, -⟩ := hR.2.1 h hh
  obtain ⟨g1, g2, g3⟩ := hR.2.2.1 w hw
  have hr := rch_le _ k1 _ k2
  unfold f_X4_rangeOf
  rw [p_isLit hR hh b1]
  simp (disch := omega) only [q_lit, q_gd, q_cl, e1, e2, g3, p_reach _ k1 _ k2, pk_div, q_eq]
  unfold rg
  by_cases c : σ 4 h = 1
  · rw [if_pos c, if_neg (by decide)]
    by_cases c2 : σ 8 w = 2
    · rw [if_pos c2, if_pos ⟨c, Or.inl c2⟩, if_pos c2]
    · rw [if_neg c2]
      by_cases c3 : σ 8 w = 1
      · rw [if_pos c3, if_pos ⟨c, Or.inr c3⟩, if_neg c2]
      · rw [if_neg c3, if_neg (by omega)]
  · rw [if_neg c, if_pos rfl, if_neg (by omega)]
theorem rg_le {w h : Nat} (hb : wb σ N) (hh : h < N) : rg σ w h ≤ 8 := by
  obtain ⟨k1, k2, -⟩ := hb.2.2.1 h hh
  have hr := rch_le _ k1 _ k2
  unfold rg
  split <;> omega
theorem p_rcmp {w h c : Nat} (hb : wb σ N) (hh : h < N) (hc : c < 49) : ((if σ 4 h = 1 ∧ (σ 8 w = 2 ∨ σ 8 w = 1) then nI (rg σ w h) else -nI 1) < nI (stp c (σ 3 h))) ↔ see σ w c h = false := by
  have h1 := stp_lt c hc _ (hb.2.2.1 h hh).2.2.1
  have h2 := rg_le (w := w) hb hh
  unfold see
  by_cases q : σ 4 h = 1 ∧ (σ 8 w = 2 ∨ σ 8 w = 1)
  · rw [if_pos q, q_lt (by omega) (by omega)]
    simp [q.1, q.2]
  · rw [if_neg q]
    have := q_neg_lt (a := stp c (σ 3 h)) (b := 1) (by omega) (by decide) (by decide)
    simp only [this, true_iff, decide_eq_false_iff_not]
    exact fun z => q ⟨z.1, z.2.1⟩
theorem p_owes (hR : RB (M o) σ N) (hb : wb σ N) {w h : Nat} (hw : w < 6) (hh : h < 8) : f_X4_owes M o (nI w) (nI h) = some (if σ (20 + w) h = 0 then nI 0 else nI 1) := by
  have e := hR.2.2.2 w hw h hh
  have b := hb.2.2.2.2 w h
  unfold f_X4_owes
  simp (disch := omega) only [q_lit, nI_add, pk_mul, q_gd, q_cl, e]
  by_cases c : σ (20 + w) h = 0
  · rw [if_pos ((q_m1 _ (by omega)).mpr c), if_pos c]
  · rw [if_neg (fun z => c ((q_m1 _ (by omega)).mp z)), if_neg c]
theorem p_setDebt {w h : Nat} {v : Int32} (hw : w < 6) (hh : h < 8) : f_X4_setDebt M o (nI w) (nI h) v = some (ju M o 9 (w * 8 + h) v) := by
  unfold f_X4_setDebt
  simp (disch := omega) only [q_lit, nI_add, pk_mul, q_gd, q_cl]
theorem p_placeBehind (hR : RB (M o) σ N) (hb : wb σ N) {w n : Nat} (hw : w < vW σ) (hn : n < 9000) : f_X4_placeBehind M o (nI w) (nI n) = some (nI (pl σ w n)) := by
  obtain ⟨g1, g2, g3⟩ := hR.2.2.1 w hw
  obtain ⟨a1, a2, a3⟩ := hb.2.2.2.1 w hw
  have hw6 := hb.2.1
  have L : ∀ d k f, k + d = n → d < f → f_X4_placeBehind_l10 M o (nI w) (nI n) f (nI (pl σ w k)) (nI (k + 1)) = some (nI (pl σ w n)) := by
    intro d
    induction d with
    | zero =>
      intro k f h1 h2
      obtain ⟨f, rfl⟩ : ∃ j, f = j + 1 := ⟨f - 1, by omega⟩
      rw [f_X4_placeBehind_l10, if_pos (by rw [q_lt (by omega) (by omega)]; omega), show k = n by omega]
    | succ d ih =>
      intro k f h1 h2
      obtain ⟨f, rfl⟩ : ∃ j, f = j + 1 := ⟨f - 1, by omega⟩
      have hp := pl_lt hb hw k
      rw [f_X4_placeBehind_l10, if_neg (by rw [q_lt (by omega) (by omega)]; omega)]
      simp (disch := omega) only [q_lit, q_gd, q_cl, g2, q_eq, nI_add]
      by_cases c : pl σ w k = σ 7 w
      · rw [if_pos c, c]
        have := pl_stay c (d + 1)
        rw [show k + (d + 1) = n by omega] at this
        rw [this]
      · rw [if_neg c, p_towards _ hp _ a2]
        exact ih (k + 1) f (by omega) (by omega)
  unfold f_X4_placeBehind
  simp (disch := omega) only [q_lit, q_gd, q_cl, g1]
  exact L n 0 10000 (by omega) (by omega)
theorem p_firstSighting (hR : RB (M o) σ N) (hb : wb σ N) {w h n : Nat} (hw : w < vW σ) (hh : h < N) (hn : n < 9000) : f_X4_firstSighting M o (nI w) (nI h) (nI n) = some (if fs σ w h n = 0 then -nI 9 else nI (fs σ w h n)) := by
  obtain ⟨g1, g2, g3⟩ := hR.2.2.1 w hw
  obtain ⟨a1, a2, a3⟩ := hb.2.2.2.1 w hw
  obtain ⟨e1, e2, e3, -⟩ := hR.2.1 h hh
  obtain ⟨k1, k2, k3, k4⟩ := hb.2.2.1 h hh
  have hw6 := hb.2.1
  have hN8 := hb.1
  unfold f_X4_firstSighting
  rw [p_rangeOf hR hb hw hh]
  simp (disch := omega) only [q_lit, q_jb, q_gd, q_cl, g1]
  by_cases c : σ 4 h = 1 ∧ (σ 8 w = 2 ∨ σ 8 w = 1)
  · have hr := rg_le (w := w) hb hh
    have hcmp := fun {x : Nat} (hx : x < 49) => p_rcmp (w := w) (c := x) hb hh hx
    simp only [if_pos c] at hcmp ⊢
    rw [if_pos (by rw [q_le (by omega) (by omega)]; omega)]
    have L : ∀ d k f, k + d = n → d < f → (∀ j, 1 ≤ j → j ≤ k → see σ w (pl σ w j) h = false) → f_X4_firstSighting_l27 M o (nI w) (nI h) (nI n) (nI (rg σ w h)) f (nI (pl σ w k)) (nI (k + 1)) = some (if fs σ w h n = 0 then -nI 9 else nI (fs σ w h n)) := by
      intro d
      induction d with
      | zero =>
        intro k f h1 h2 h3
        obtain ⟨f, rfl⟩ : ∃ j, f = j + 1 := ⟨f - 1, by omega⟩
        have e : k = n := by omega
        subst e
        rw [f_X4_firstSighting_l27, if_pos (by rw [q_lt (by omega) (by omega)]; omega), fs_none k h3, if_pos rfl]
        rfl
      | succ d ih =>
        intro k f h1 h2 h3
        obtain ⟨f, rfl⟩ : ∃ j, f = j + 1 := ⟨f - 1, by omega⟩
        have hp := pl_lt hb hw k
        have hp1 := pl_lt hb hw (k + 1)
        rw [f_X4_firstSighting_l27, if_neg (by rw [q_lt (by omega) (by omega)]; omega)]
        simp (disch := omega) only [q_lit, q_gd, q_cl, g2, e3, nI_add, p_towards _ hp _ a2]
        rw [show twd (pl σ w k) (σ 7 w) = pl σ w (k + 1) from rfl, p_steps _ hp1 _ k3]
        by_cases c2 : see σ w (pl σ w (k + 1)) h = true
        · rw [if_neg (fun z => by rw [(hcmp hp1).mp z] at c2; cases c2), fs_first h3 c2 (by omega), if_neg (by omega)]
        · have c2 : see σ w (pl σ w (k + 1)) h = false := by simpa using c2
          rw [if_pos ((hcmp hp1).mpr c2)]
          have h4 : ∀ j, 1 ≤ j → j ≤ k + 1 → see σ w (pl σ w j) h = false := fun j q1 q2 => by
            by_cases z : j = k + 1
            · rw [z]; exact c2
            · exact h3 j q1 (by omega)
          by_cases c3 : pl σ w (k + 1) = σ 7 w
          · rw [if_pos (congrArg nI c3), fs_none n (fun j q1 q2 => by
              by_cases z : j ≤ k + 1
              · exact h4 j q1 z
              · have := pl_stay c3 (j - (k + 1))
                rw [show k + 1 + (j - (k + 1)) = j by omega] at this
                rw [this, ← c3]; exact c2), if_pos rfl]
          · rw [if_neg (fun z => c3 ((q_eq (by omega) (by omega)).mp z))]
            exact ih (k + 1) f (by omega) (by omega) h4
    exact L n 0 10000 (by omega) (by omega) (fun j q1 q2 => by omega)
  · rw [if_neg c, if_neg (q_neg_le (a := 0) (by decide) (by decide) (by decide)), fs_none n (fun j _ _ => by unfold see; simp only [decide_eq_false_iff_not]; exact fun z => c ⟨z.1, z.2.1⟩), if_pos rfl]
theorem p_ageBehind (hR : RB (M o) σ N) (hb : wb σ N) {w h n : Nat} (hw : w < vW σ) (hh : h < N) (hn : n ≤ 99) : f_X4_ageBehind M o (nI w) (nI h) (nI n) = some (nI (dk σ w h n) - nI 1) := by
  have hw6 := hb.2.1
  have hN8 := hb.1
  have e := hR.2.2.2 w (by omega) h (by omega)
  have b := hb.2.2.2.2 w h
  unfold f_X4_ageBehind
  simp (disch := omega) only [q_lit, nI_add, pk_mul, q_gd, q_cl, e]
  by_cases c : σ (20 + w) h = 0
  · rw [if_pos ((q_m1 _ (by omega)).mpr c), p_firstSighting hR hb hw hh (by omega), dk_zero c n]
    have hl := fs_le σ w h n
    simp only [q_jb]
    by_cases c2 : fs σ w h n = 0
    · rw [if_pos c2, if_pos c2, if_pos (by decide)]; rfl
    · rw [if_neg c2, if_neg c2, if_neg (by rw [q_le (by omega) (by omega)]; omega), pk_sub hl, pk_sub (by omega)]
      congr 2
      omega
  · rw [if_neg (fun z => c ((q_m1 _ (by omega)).mp z)), dk_pos c b n, pk_sub (by omega), nI_add]
    simp only [q_lt (a := σ (20 + w) h - 1 + n) (b := 99) (by omega) (by omega)]
    by_cases c2 : σ (20 + w) h - 1 + n < 99
    · rw [if_pos c2, pk_sub (by omega)]; congr 2; omega
    · rw [if_neg c2, pk_sub (by omega)]; congr 2; omega
end PW
