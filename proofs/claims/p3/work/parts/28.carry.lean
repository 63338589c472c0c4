/-! carrying the reference's village into a row and out of it -/
theorem ju_id {M : jm} {o k i : Nat} : ju M o k i (M o k i) = M := by
  funext o' k' i'
  unfold ju
  by_cases h : o' = o ∧ k' = k ∧ i' = i
  · rw [if_pos h]; obtain ⟨rfl, rfl, rfl⟩ := h; rfl
  · rw [if_neg h]
def cF (q : Nat) : Nat := if q = 0 then 0 else if q = 1 then 5 else if q = 2 then 10 else if q < 31 then 1 + (q - 3) % 4 else if q < 49 then 6 + (q - 31) % 3 else 9
def cI (q : Nat) : Nat := if q < 3 then 0 else if q < 31 then (q - 3) / 4 else if q < 49 then (q - 31) / 3 else q - 49
theorem c_inj {p q : Nat} (h : cF p = cF q) (h2 : cI p = cI q) : p = q := by
  unfold cF at h
  unfold cI at h2
  repeat' split at h
  all_goals repeat' split at h2
  all_goals omega
theorem cF_le (p : Nat) : cF p ≤ 10 := by
  unfold cF
  repeat' split
  all_goals omega
theorem carryAll_inv (P : Nat → jm → Prop) (hs : ∀ p, p < 91 → ∀ M, P p M → ∃ r M', f_X6_carry M (M 16 (cF p) (cI p)) = some (r, M') ∧ P (p + 1) (ju M' 16 (cF p) (cI p) r)) {M : jm} {f1 : Nat} {v2 : Int32} (hv : v2 = 0 ∨ v2 = 1) (h0 : P 0 (ju (ju (ju M 16 26 0 (Int32.ofNat f1)) 16 25 0 v2) 16 24 0 0)) : ∃ M', f_X6_carryAll M f1 v2 = some M' ∧ P 91 M' := by
  have hs' : ∀ p F i, p < 91 → cF p = F → cI p = i → ∀ M, P p M → ∃ r M', f_X6_carry M (M 16 F i) = some (r, M') ∧ P (p + 1) (ju M' 16 F i r) := by
    rintro p F i hp rfl rfl M hM
    exact hs p hp M hM
  have L193 : ∀ k M, 42 < k → P 49 M → ∃ M', f_X6_carryAll_l193 f1 k M 0 = some M' ∧ P 91 M' := by
    intro k M hk hM
    refine loopE (L := fun k (M : jm) i => f_X6_carryAll_l193 f1 k M i) (P := fun i M => P (49 + i) M) (Z := fun r => ∃ M', r = some M' ∧ P 91 M') (n := 42) ?_ ?_ 42 0 k M (by omega) hk hM
    · intro k M i hi hM
      obtain ⟨r, M', e1, e2⟩ := hs' (49 + i) 9 i (by omega) (by unfold cF; (repeat' split) <;> omega) (by unfold cI; (repeat' split) <;> omega) M hM
      refine ⟨ju M' 16 9 i r, ?_, e2⟩
      simp only [f_X6_carryAll_l193]
      rw [if_neg (by rw [show (42 : Int32) = nI 42 from rfl, q_le (by omega) (by omega)]; omega), q_gd (by omega) (by omega), q_cl (by omega), e1, q_jb2, q_gd (by omega) (by omega), show (1 : Int32) = nI 1 from rfl, nI_add]
    · intro k M hM
      exact ⟨M, by simp only [f_X6_carryAll_l193]; rw [if_pos (by rw [show (42 : Int32) = nI 42 from rfl, q_le (by omega) (by omega)]; omega)], hM⟩
  have L131 : ∀ k M, 6 < k → P 31 M → ∃ M', f_X6_carryAll_l131 f1 k M 0 = some M' ∧ P 91 M' := by
    intro k M hk hM
    refine loopE (L := fun k (M : jm) i => f_X6_carryAll_l131 f1 k M i) (P := fun i M => P (31 + 3 * i) M) (Z := fun r => ∃ M', r = some M' ∧ P 91 M') (n := 6) ?_ ?_ 6 0 k M (by omega) hk hM
    · intro k M i hi hM
      obtain ⟨r, M1, e1, P1⟩ := hs' (31 + 3 * i) 6 i (by omega) (by unfold cF; (repeat' split) <;> omega) (by unfold cI; (repeat' split) <;> omega) M hM
      obtain ⟨r2, M2, e2, P2⟩ := hs' (31 + 3 * i + 1) 7 i (by omega) (by unfold cF; (repeat' split) <;> omega) (by unfold cI; (repeat' split) <;> omega) _ P1
      obtain ⟨r3, M3, e3, P3⟩ := hs' (31 + 3 * i + 1 + 1) 8 i (by omega) (by unfold cF; (repeat' split) <;> omega) (by unfold cI; (repeat' split) <;> omega) _ P2
      refine ⟨ju M3 16 8 i r3, ?_, P3⟩
      simp only [f_X6_carryAll_l131]
      rw [if_neg (by rw [show (6 : Int32) = nI 6 from rfl, q_le (by omega) (by omega)]; omega), q_gd (by omega) (by omega), q_cl (by omega), e1, q_jb2, q_gd (by omega) (by omega), q_gd (by omega) (by omega), e2, q_jb2, q_gd (by omega) (by omega), q_gd (by omega) (by omega), e3, q_jb2, q_gd (by omega) (by omega), show (1 : Int32) = nI 1 from rfl, nI_add]
    · intro k M hM
      simp only [f_X6_carryAll_l131]
      rw [if_pos (by rw [show (6 : Int32) = nI 6 from rfl, q_le (by omega) (by omega)]; omega)]
      exact L193 _ M (by omega) hM
  have L53 : ∀ k M, 7 < k → P 3 M → ∃ M', f_X6_carryAll_l53 f1 k M 0 = some M' ∧ P 91 M' := by
    intro k M hk hM
    refine loopE (L := fun k (M : jm) i => f_X6_carryAll_l53 f1 k M i) (P := fun i M => P (3 + 4 * i) M) (Z := fun r => ∃ M', r = some M' ∧ P 91 M') (n := 7) ?_ ?_ 7 0 k M (by omega) hk hM
    · intro k M i hi hM
      obtain ⟨r, M1, e1, P1⟩ := hs' (3 + 4 * i) 1 i (by omega) (by unfold cF; (repeat' split) <;> omega) (by unfold cI; (repeat' split) <;> omega) M hM
      obtain ⟨r2, M2, e2, P2⟩ := hs' (3 + 4 * i + 1) 2 i (by omega) (by unfold cF; (repeat' split) <;> omega) (by unfold cI; (repeat' split) <;> omega) _ P1
      obtain ⟨r3, M3, e3, P3⟩ := hs' (3 + 4 * i + 1 + 1) 3 i (by omega) (by unfold cF; (repeat' split) <;> omega) (by unfold cI; (repeat' split) <;> omega) _ P2
      obtain ⟨r4, M4, e4, P4⟩ := hs' (3 + 4 * i + 1 + 1 + 1) 4 i (by omega) (by unfold cF; (repeat' split) <;> omega) (by unfold cI; (repeat' split) <;> omega) _ P3
      refine ⟨ju M4 16 4 i r4, ?_, P4⟩
      simp only [f_X6_carryAll_l53]
      rw [if_neg (by rw [show (7 : Int32) = nI 7 from rfl, q_le (by omega) (by omega)]; omega), q_gd (by omega) (by omega), q_cl (by omega), e1, q_jb2, q_gd (by omega) (by omega), q_gd (by omega) (by omega), e2, q_jb2, q_gd (by omega) (by omega), q_gd (by omega) (by omega), e3, q_jb2, q_gd (by omega) (by omega), q_gd (by omega) (by omega), e4, q_jb2, q_gd (by omega) (by omega), show (1 : Int32) = nI 1 from rfl, nI_add]
    · intro k M hM
      simp only [f_X6_carryAll_l53]
      rw [if_pos (by rw [show (7 : Int32) = nI 7 from rfl, q_le (by omega) (by omega)]; omega)]
      exact L131 _ M (by omega) hM
  obtain ⟨r, M1, e1, P1⟩ := hs' 0 0 0 (by omega) rfl rfl _ h0
  obtain ⟨r2, M2, e2, P2⟩ := hs' 1 5 0 (by omega) rfl rfl _ P1
  obtain ⟨r3, M3, e3, P3⟩ := hs' 2 10 0 (by omega) rfl rfl _ P2
  unfold f_X6_carryAll jgb
  rw [if_pos hv, e1, q_jb2, e2, q_jb2, e3, q_jb2]
  exact L53 _ _ (by omega) P3
theorem f1_nI {f1 : Nat} (h : f1 = 21 ∨ f1 = 22 ∨ f1 = 28) : f1 < 2 ^ 31 ∧ (Int32.ofNat f1 = 21 ∨ Int32.ofNat f1 = 22 ∨ Int32.ofNat f1 = 28) ∧ Int32.toNatClampNeg (Int32.ofNat f1) = f1 := by
  rcases h with rfl | rfl | rfl <;> decide
/-- taking: the row holds the places of all fields; nothing else but the three helpers changed -/
theorem carry_take {M : jm} {f1 : Nat} (hf1 : f1 = 21 ∨ f1 = 22 ∨ f1 = 28) : ∃ M', f_X6_carryAll M f1 1 = some M' ∧ (∀ o, o ≠ 16 → M' o = M o) ∧ (∀ f, f ≠ f1 → f ≠ 24 → f ≠ 25 → f ≠ 26 → M' 16 f = M 16 f) ∧ (∀ q, q < 91 → M' 16 f1 q = M 16 (cF q) (cI q)) := by
  obtain ⟨b1, b2, b3⟩ := f1_nI hf1
  have key := carryAll_inv (M := M) (f1 := f1) (v2 := 1) (fun p N => (∀ o, o ≠ 16 → N o = M o) ∧ (∀ f, f ≠ f1 → f ≠ 24 → f ≠ 25 → f ≠ 26 → N 16 f = M 16 f) ∧ (∀ q, q < p → N 16 f1 q = M 16 (cF q) (cI q)) ∧ N 16 26 0 = Int32.ofNat f1 ∧ N 16 25 0 = 1 ∧ N 16 24 0 = nI p) ?_ (Or.inr rfl) ?_
  · obtain ⟨M', e, h1, h2, h3, _⟩ := key
    exact ⟨M', e, h1, h2, h3⟩
  · rintro p hp N ⟨h1, h2, h3, h4, h5, h6⟩
    have hc := cF_le p
    have ef : N 16 (cF p) = M 16 (cF p) := h2 _ (by omega) (by omega) (by omega) (by omega)
    refine ⟨N 16 (cF p) (cI p), ju (ju N 16 f1 p (N 16 (cF p) (cI p))) 16 24 0 (nI (p + 1)), ?_, ?_⟩
    · have n24 : ∀ x : Int32, ju N 16 f1 p x 16 24 0 = nI p := fun x => by rw [ju_g (by omega), h6]
      have n26 : ∀ x : Int32, ju N 16 f1 p x 16 26 0 = Int32.ofNat f1 := fun x => by rw [ju_g (by omega), h4]
      unfold f_X6_carry
      rw [h5, if_neg (by decide), h4, h6]
      unfold jgk
      rw [if_pos b2, q_gd hp (by omega), b3, q_cl (by omega)]
      unfold f_X6_carry_j17
      rw [n24]
      have e : nI p + 1 = nI (p + 1) := nI_add p 1
      rw [e]
      have g26 : ∀ x y : Int32, ju (ju N 16 f1 p x) 16 24 0 y 16 26 0 = Int32.ofNat f1 := fun x y => by rw [ju_g (by omega), n26]
      have e2 : nI (p + 1) - 1 = nI p := by
        have := pk_sub (a := p + 1) (b := 1) (by omega)
        exact this
      rw [g26, ju_self, e2]
      unfold jgk
      rw [if_pos b2, q_gd hp (by omega), b3, q_cl (by omega), ju_g (by omega), ju_self]
    · have ec : ju (ju N 16 f1 p (N 16 (cF p) (cI p))) 16 24 0 (nI (p + 1)) 16 (cF p) (cI p) = N 16 (cF p) (cI p) := by rw [ju_g (by omega), ju_g (by omega)]
      have ej : ju (ju (ju N 16 f1 p (N 16 (cF p) (cI p))) 16 24 0 (nI (p + 1))) 16 (cF p) (cI p) (N 16 (cF p) (cI p)) = ju (ju N 16 f1 p (N 16 (cF p) (cI p))) 16 24 0 (nI (p + 1)) := by
        have := ju_id (M := ju (ju N 16 f1 p (N 16 (cF p) (cI p))) 16 24 0 (nI (p + 1))) (o := 16) (k := cF p) (i := cI p)
        rw [ec] at this
        exact this
      rw [ej]
      refine ⟨fun o ho => by rw [ju_ne ho, ju_ne ho, h1 o ho], fun f a b c d => by rw [ju_f b, ju_f a, h2 f a b c d], fun q hq => ?_, by rw [ju_g (by omega), ju_g (by omega), h4], by rw [ju_g (by omega), ju_g (by omega), h5], by rw [ju_self]⟩
      rw [ju_g (by omega), ju_o]
      by_cases e : q = p
      · subst e; rw [if_pos ⟨rfl, rfl⟩, ef]
      · rw [if_neg (fun z => e z.2), h3 q (by omega)]
  · refine ⟨fun o ho => by rw [ju_ne ho, ju_ne ho, ju_ne ho], fun f a b c d => by rw [ju_f b, ju_f c, ju_f d], fun q hq => by omega, by rw [ju_g (by omega), ju_g (by omega), ju_self], by rw [ju_g (by omega), ju_self], by rw [ju_self]; rfl⟩
/-- restoring: the fields are as the row tells -/
theorem carry_back {M : jm} {f1 : Nat} (hf1 : f1 = 21 ∨ f1 = 22 ∨ f1 = 28) : ∃ M', f_X6_carryAll M f1 0 = some M' ∧ (∀ o, o ≠ 16 → M' o = M o) ∧ (∀ f, 10 < f → f ≠ 24 → f ≠ 25 → f ≠ 26 → M' 16 f = M 16 f) ∧ (∀ q, q < 91 → M' 16 (cF q) (cI q) = M 16 f1 q) := by
  obtain ⟨b1, b2, b3⟩ := f1_nI hf1
  have key := carryAll_inv (M := M) (f1 := f1) (v2 := 0) (fun p N => (∀ o, o ≠ 16 → N o = M o) ∧ (∀ f, 10 < f → f ≠ 24 → f ≠ 25 → f ≠ 26 → N 16 f = M 16 f) ∧ (∀ q, q < p → N 16 (cF q) (cI q) = M 16 f1 q) ∧ N 16 26 0 = Int32.ofNat f1 ∧ N 16 25 0 = 0 ∧ N 16 24 0 = nI p) ?_ (Or.inl rfl) ?_
  · obtain ⟨M', e, h1, h2, h3, _⟩ := key
    exact ⟨M', e, h1, h2, h3⟩
  · rintro p hp N ⟨h1, h2, h3, h4, h5, h6⟩
    have hc := cF_le p
    refine ⟨M 16 f1 p, ju N 16 24 0 (nI (p + 1)), ?_, ?_⟩
    · unfold f_X6_carry
      rw [h5, if_pos rfl]
      unfold f_X6_carry_j17
      rw [h6]
      have e : nI p + 1 = nI (p + 1) := nI_add p 1
      have e2 : nI (p + 1) - 1 = nI p := pk_sub (a := p + 1) (b := 1) (by omega)
      rw [e, ju_self, e2, ju_g (show (26 : Nat) ≠ 24 by omega), h4]
      unfold jgk
      rw [if_pos b2, q_gd hp (by omega), b3, q_cl (by omega), ju_g (by omega), h2 f1 (by omega) (by omega) (by omega) (by omega)]
    · refine ⟨fun o ho => by rw [ju_ne ho, ju_ne ho, h1 o ho], fun f a b c d => by rw [ju_f (by omega), ju_f b, h2 f a b c d], fun q hq => ?_, by rw [ju_g (by omega), ju_g (by omega), h4], by rw [ju_g (by omega), ju_g (by omega), h5], by rw [ju_g (by omega), ju_self]⟩
      have hc2 := cF_le q
      rw [ju_o]
      by_cases e : q = p
      · subst e; rw [if_pos ⟨rfl, rfl⟩]
      · rw [if_neg (fun z => e (c_inj z.1 z.2)), ju_g (by omega), h3 q (by omega)]
  · refine ⟨fun o ho => by rw [ju_ne ho, ju_ne ho, ju_ne ho], fun f a b c d => by rw [ju_f b, ju_f c, ju_f d], fun q hq => by omega, by rw [ju_g (by omega), ju_g (by omega), ju_self], by rw [ju_g (by omega), ju_self], by rw [ju_self]; rfl⟩
