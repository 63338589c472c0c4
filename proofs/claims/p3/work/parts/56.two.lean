/-! two -/
def litH (σ : vl) (h : Nat) : vl := vu σ 4 h 1
theorem vu_vu {σ : vl} {F i a b : Nat} : vu (vu σ F i a) F i b = vu σ F i b := by
  funext F' i'
  unfold vu
  split <;> rfl
theorem turn_lit (σ : vl) (h : Nat) : turnH (litH σ h) h = darkH σ h := by
  unfold turnH litH darkH
  rw [vu_same, vu_vu]
theorem vu4_W {σ : vl} {i a : Nat} : vW (vu σ 4 i a) = vW σ := by unfold vW; rw [vu_ne (by omega)]
theorem vu4_H {σ : vl} {i a : Nat} : vH (vu σ 4 i a) = vH σ := by unfold vH; rw [vu_ne (by omega)]
section Two
variable {σ : vl}
def gl (σ : vl) (h n : Nat) : Nat := cn (fun w => owe (litH σ h) n w h) (vW σ)
def gk (σ : vl) (h n : Nat) : Nat := cn (fun w => owe (darkH σ h) n w h) (vW σ)
def sh (σ : vl) (h n : Nat) : Nat := if gk σ h n < gl σ h n then 0 else 1
theorem wf_vu4 {h x : Nat} (hf : wf σ) (hx : x ≤ 1) : wf (vu σ 4 h x) := by
  obtain ⟨f1, ⟨b1, b2, b3, b4, b5⟩, f3, f4⟩ := hf
  have e : ∀ F i, F ≠ 4 → vu σ 4 h x F i = σ F i := fun F i q => vu_ne (by omega)
  have eH : vH (vu σ 4 h x) = vH σ := e 0 0 (by omega)
  have eW : vW (vu σ 4 h x) = vW σ := e 5 0 (by omega)
  refine ⟨by rw [eH]; exact f1, ⟨by rw [eH]; exact b1, by rw [eW]; exact b2, fun j hj => ?_, fun w hw => ?_, fun w j => ?_⟩, fun w j q => ?_, ?_⟩
  · rw [eH] at hj
    obtain ⟨c1, c2, c3, c4⟩ := b3 j hj
    rw [e 1 j (by omega), e 2 j (by omega), e 3 j (by omega)]
    refine ⟨c1, c2, c3, ?_⟩
    by_cases q : j = h
    · subst q; rw [vu_same]; exact hx
    · rw [vu_ne (by omega)]; exact c4
  · rw [eW] at hw
    rw [e 6 w (by omega), e 7 w (by omega), e 8 w (by omega)]; exact b4 w hw
  · rw [e (20 + w) j (by omega)]; exact b5 w j
  · rw [eW, eH] at q
    rw [e (20 + w) j (by omega)]; exact f3 w j q
  · rw [e 10 0 (by omega)]; exact f4
theorem owe_congr4 {τ ρ : vl} {w h n : Nat} (h1 : ∀ F i, F ≠ 4 → τ F i = ρ F i) (h4 : τ 4 h = ρ 4 h) : owe τ n w h = owe ρ n w h := by
  unfold owe
  rw [dk_congr (h1 1 h (by omega)) (h1 2 h (by omega)) (h1 3 h (by omega)) h4 (h1 6 w (by omega)) (h1 7 w (by omega)) (h1 8 w (by omega)) (h1 (20 + w) h (by omega))]
end Two
section Asks
variable {M : jm} {S : St} {σ : vl}
theorem x_shutter {A : jm} (hR : RW (A 1) σ) (hf : wf σ) {h n : Nat} (hh : h < vH σ) (hn : n ≤ 60) : ∃ B, f_X5_bestShutter A (nI h) (nI n) = some (nI (sh σ h n), B) ∧ ∀ o, o ≠ 2 → B o = A o := by
  have hH := hf.1; have hW := hf.2.1.2.1
  obtain ⟨B, b1, b2, b3⟩ := p_becomeRW (M := A) (o := 2) (o1 := 1) (σ := σ) (by omega) hR
  have hfL : wf (litH σ h) := wf_vu4 hf (Nat.le_refl 1)
  have hfD : wf (darkH σ h) := wf_vu4 hf (Nat.zero_le 1)
  have eW : vW (litH σ h) = vW σ := vu4_W
  have eH : vH (litH σ h) = vH σ := vu4_H
  have dW : vW (darkH σ h) = vW σ := vu4_W
  have dH : vH (darkH σ h) = vH σ := vu4_H
  have rL : RW (ju B 2 4 0 (B 2 4 0 ||| bi h) 2) (litH σ h) := by
    refine ⟨by rw [ju_f (by omega), eH]; exact b3.1, by rw [ju_f (by omega), show litH σ h 10 0 = σ 10 0 by unfold litH; rw [vu_ne (by omega)]]; exact b3.2.1, ?_⟩
    rw [eH]
    refine RB_lit b3.2.2 (fun F i q => by unfold litH; rw [vu_ne (by omega)]) (fun j hj => ?_)
    rw [q_or _ (by omega) (by omega), (b3.2.2.2.1 j hj).2.2.2]
    by_cases q : j = h
    · subst q; rw [show litH σ j 4 j = 1 by unfold litH; rw [vu_same]]; simp
    · rw [show litH σ h 4 j = σ 4 j by unfold litH; rw [vu_ne (by omega)]]; simp [q]
  obtain ⟨C, c1, c2, c3⟩ := p_turn rL hfL (h := h) (by omega)
  rw [eH, if_pos hh, turn_lit] at c3
  rw [eH, if_pos hh] at c1
  have o1 := p_owersBehind (h := h) (n := n) rL.2.2 hfL.2.1 (by rw [eH]; exact hh) (by omega)
  have o2 := p_owersBehind (h := h) (n := n) c3.2.2 hfD.2.1 (by rw [dH]; exact hh) (by omega)
  rw [eW] at o1
  rw [dW] at o2
  refine ⟨C, ?_, fun o ho => by rw [c2 o ho, ju_ne ho, b2 o ho]⟩
  unfold f_X5_bestShutter
  rw [b1, q_jb]
  show jb (f_X4_owersBehind (ju B 2 4 0 (B 2 4 0 ||| bi h)) 2 (nI h) (nI n)) _ = _
  rw [o1, q_jb]
  show jb2 (f_X4_turn (ju B 2 4 0 (B 2 4 0 ||| bi h)) 2 (nI h)) _ = _
  rw [c1, q_jb2, o2, q_jb, p_bitCount (by omega), p_bitCount (by omega)]
  have g1 : gl σ h n ≤ 6 := Nat.le_trans (cn_le _ _) hW
  have g2 : gk σ h n ≤ 6 := Nat.le_trans (cn_le _ _) hW
  show (if nI (gk σ h n) ≤ nI (gl σ h n) - nI 1 then _ else _) = _
  have e : nI (gk σ h n) ≤ nI (gl σ h n) - nI 1 ↔ gk σ h n < gl σ h n := by
    rw [Int32.le_iff_toInt_le, nI_toInt (by omega), pk_sub_toInt (by omega) (by omega)]; omega
  unfold sh
  by_cases z : gk σ h n < gl σ h n
  · rw [if_pos (e.mpr z), if_pos z]; rfl
  · rw [if_neg (fun q => z (e.mp q)), if_neg z]; rfl
def gA (σ : vl) (h n a : Nat) : Int32 := if a = 0 then nI (gl σ h n) - nI 1 else nI (gk σ h n)
theorem gA_lt {h n : Nat} (hW : vW σ ≤ 6) : (gA σ h n 0 < gA σ h n 1 ↔ ¬ gk σ h n < gl σ h n) ∧ (gA σ h n 1 < gA σ h n 0 ↔ gk σ h n + 1 < gl σ h n) := by
  have g1 : gl σ h n ≤ 6 := Nat.le_trans (cn_le _ _) hW
  have g2 : gk σ h n ≤ 6 := Nat.le_trans (cn_le _ _) hW
  unfold gA
  rw [if_pos rfl, if_neg (by omega), Int32.lt_iff_toInt_lt, Int32.lt_iff_toInt_lt, nI_toInt (by omega), pk_sub_toInt (by omega) (by omega)]
  omega
theorem two_ix : ∀ k, k < 4 → (2 * nI k = nI (2 * k) ∧ (2 * ((2 * (1 - (nI k / 2))) + (nI k - nI k / 2 * 2))) = nI (2 * (2 * (1 - k / 2) + k % 2)) ∧ (2 * nI k) + 1 = nI (2 * k + 1) ∧ ((2 * (((2 * (nI k / 2)) + 1) - (nI k - nI k / 2 * 2))) + 1) = nI (2 * (2 * (k / 2) + (1 - k % 2)) + 1) ∧ ((10 * (nI k / 2)) + (nI k - nI k / 2 * 2)) = nI (10 * (k / 2) + k % 2) ∧ 1 - nI k / 2 = nI (1 - k / 2) ∧ 1 - (nI k - nI k / 2 * 2) = nI (1 - k % 2)) := by decide +kernel
theorem two_step {A : jm} {G H : Nat → Int32} (h1 : ∀ k, k < 4 → A 16 37 (2 * k) = G (k / 2) ∧ A 16 37 (2 * k + 1) = H (k % 2)) {k f : Nat} (hk : k < 4) : f_X6_two_l156 (f + 1) A (nI k) = if G (k / 2) < G (1 - k / 2) then f_X6_two_l156 f A (nI (k + 1)) else if H (k % 2) < H (1 - k % 2) then f_X6_two_l156 f A (nI (k + 1)) else some (nI (10 * (k / 2) + k % 2), A) := by
  obtain ⟨e1, e2, e3, e4, e5, -, -⟩ := two_ix k hk
  rw [f_X6_two_l156, if_neg (by rw [show (4 : Int32) = nI 4 from rfl, q_le (by omega) (by omega)]; omega), e3, e1, e2, e4, e5, q_gd (by omega) (by omega), q_gd (by omega) (by omega), q_gd (by omega) (by omega), q_gd (by omega) (by omega), q_cl (by omega), q_cl (by omega), q_cl (by omega), q_cl (by omega), (h1 k hk).1, (h1 k hk).2, (h1 (2 * (1 - k / 2) + k % 2) (by omega)).1, (h1 (2 * (k / 2) + (1 - k % 2)) (by omega)).2, show nI k + 1 = nI (k + 1) from nI_add k 1, show (2 * (1 - k / 2) + k % 2) / 2 = 1 - k / 2 by omega, show (2 * (k / 2) + (1 - k % 2)) % 2 = 1 - k % 2 by omega]
theorem mq_two (hR : RM (M 16) σ) (hf : wf σ) {h g n : Nat} (hh : h < vH σ) (hg : g < vH σ) (hne : h ≠ g) (hn : n ≤ 60) : ∃ M2, f_X6_two_j37 M (nI h) (nI g) (nI n) 0 = some (nI (10 * sh σ h n + sh σ g n), M2) ∧ RM (M2 16) σ ∧ frK M M2 := by
  have hH := hf.1; have hW := hf.2.1.2.1
  have hwg := wg_of hf
  obtain ⟨B, b1, b2, b3, b4⟩ := m_think hR
  unfold f_X6_two_j37
  rw [if_pos n0, b1, q_jb]
  refine loopE (L := fun k (a : jm) i => f_X6_two_l58 (nI h) (nI g) (nI n) k a i) (P := fun i a => RM (a 16) σ ∧ KM (a 16 21) σ ∧ frK M a ∧ ∀ k, k < i → a 16 37 (2 * k) = gA σ h n (k / 2) ∧ a 16 37 (2 * k + 1) = gA σ g n (k % 2)) (Z := fun r => ∃ M2, r = some (nI (10 * sh σ h n + sh σ g n), M2) ∧ RM (M2 16) σ ∧ frK M M2) (n := 4) ?_ ?_ 4 0 10000 B (by omega) (by omega) ⟨b2, b3, frK_of b4, fun k hk => by omega⟩
  · rintro kk A i hi ⟨p1, p2, p3, p4⟩
    obtain ⟨e1, -, e3, -, -, e6, e7⟩ := two_ix i hi
    obtain ⟨τ, hτ⟩ : ∃ τ, τ = vu (vu σ 4 h (1 - i / 2)) 4 g (1 - i % 2) := ⟨_, rfl⟩
    have hfτ : wf τ := by rw [hτ]; exact wf_vu4 (wf_vu4 hf (by omega)) (by omega)
    have t1 : ∀ F j, F ≠ 4 → τ F j = σ F j := fun F j q => by rw [hτ, vu_ne (by omega), vu_ne (by omega)]
    have tW : vW τ = vW σ := t1 5 0 (by omega)
    have tH : vH τ = vH σ := t1 0 0 (by omega)
    have t4h : τ 4 h = 1 - i / 2 := by rw [hτ, vu_ne (by omega), vu_same]
    have t4g : τ 4 g = 1 - i % 2 := by rw [hτ, vu_same]
    have rτ : RM (ju (ju A 16 4 h (nI (1 - i / 2))) 16 4 g (nI (1 - i % 2)) 16) τ := by rw [hτ]; exact RM_house (RM_house p1 (by omega)) (by omega)
    have fτ : frK M (ju (ju A 16 4 h (nI (1 - i / 2))) 16 4 g (nI (1 - i % 2))) := frK_trans p3 (frK_trans (frK_ju (by unfold kp; omega)) (frK_ju (by unfold kp; omega)))
    have kτ : KM (ju (ju A 16 4 h (nI (1 - i / 2))) 16 4 g (nI (1 - i % 2)) 16 21) σ := by rw [ju_f (by omega), ju_f (by omega)]; exact p2
    have z37 : ∀ j, ju (ju A 16 4 h (nI (1 - i / 2))) 16 4 g (nI (1 - i % 2)) 16 37 j = A 16 37 j := fun j => by rw [ju_g (by omega), ju_g (by omega)]
    generalize hE : ju (ju A 16 4 h (nI (1 - i / 2))) 16 4 g (nI (1 - i % 2)) = E at rτ fτ kτ z37
    obtain ⟨C, c1, c2, c3⟩ := m_goEvenings (n := n) rτ (wg_of hfτ) (by omega)
    have hgC := wg_ev (n := n) (wg_of hfτ)
    have cnt : ∀ x a, x < vH σ → a ≤ 1 → τ 4 x = 1 - a → ∀ D : jm, RM (D 16) (evN τ n) → jb (f_X6_owersOf D (nI x)) (fun r => f_X6_onesOf r) = some (gA σ x n a + nI (1 - a)) := by
      intro x a hx ha h4 D hD
      have eo := m_owersOf hD hgC (h := x) (by rw [evN_H, tH]; exact hx)
      rw [evN_W, tW] at eo
      rw [eo, q_jb, m_onesOf (by omega)]
      have ec : cn (fun w => owe (evN τ n) 0 w x) (vW σ) = cn (fun w => owe (vu σ 4 x (1 - a)) n w x) (vW σ) := cn_congr _ (fun w hw => by
        rw [owe_ev (by rw [tW]; exact hw) (by rw [tH]; exact hx)]
        exact owe_congr4 (fun F j q => by rw [t1 F j q, vu_ne (by omega)]) (by rw [h4, vu_same]))
      rw [ec]
      unfold gA gl gk litH darkH
      rcases (show a = 0 ∨ a = 1 by omega) with rfl | rfl
      · rw [if_pos rfl]
        show some (nI _) = some (nI _ - nI 1 + nI 1)
        rw [Int32.sub_add_cancel]
      · rw [if_neg (by omega)]
        show some (nI _) = some (nI _ + nI 0)
        rw [nI_add]; rfl
    have cnt2 : ∀ x a (r : Int32), x < vH σ → a ≤ 1 → τ 4 x = 1 - a → ∀ D : jm, RM (D 16) (evN τ n) → ∃ r1 r2, f_X6_owersOf D (nI x) = some r1 ∧ f_X6_onesOf r1 = some r2 ∧ r2 - nI (1 - a) = gA σ x n a := by
      intro x a _ hx ha h4 D hD
      have q := cnt x a hx ha h4 D hD
      cases q1 : f_X6_owersOf D (nI x) with
      | none => rw [q1] at q; cases q
      | some r1 =>
        rw [q1, q_jb] at q
        exact ⟨r1, _, rfl, q, by rw [Int32.add_sub_cancel]⟩
    obtain ⟨r1, r2, o1, o2, o3⟩ := cnt2 h (i / 2) 0 hh (by omega) t4h C c2
    have c2' : RM (ju C 16 37 (2 * i) (gA σ h n (i / 2)) 16) (evN τ n) := RM_fe (fun f hf => ju_f (by omega)) c2
    obtain ⟨s1, s2, u1, u2, u3⟩ := cnt2 g (i % 2) 0 hg (by omega) t4g (ju C 16 37 (2 * i) (gA σ h n (i / 2))) c2'
    have kD : KM (ju (ju C 16 37 (2 * i) (gA σ h n (i / 2))) 16 37 (2 * i + 1) (gA σ g n (i % 2)) 16 21) σ := by rw [ju_f (by omega), ju_f (by omega), fr3_at c3 (by omega)]; exact kτ
    obtain ⟨D, d1, d2, d3⟩ := m_again kD hwg
    refine ⟨D, ?_, d2, by rw [frA_21 d3]; exact kD, frK_trans fτ (frK_trans (frK_of (frT_of (frA_of c3))) (frK_trans (frK_trans (frK_ju (by unfold kp; omega)) (frK_ju (by unfold kp; omega))) (frK_of (frT_of d3)))), fun k hk => ?_⟩
    · simp only [f_X6_two_l58]
      rw [if_neg (by rw [show (4 : Int32) = nI 4 from rfl, q_le (by omega) (by omega)]; omega), q_gd (by omega) (by omega), q_gd (by omega) (by omega), q_cl (by omega), q_cl (by omega), e6, e7, hE, c1, q_jb, o1, q_jb, o2, q_jb, e3, e1, q_gd (by omega) (by omega), q_cl (by omega), o3, u1, q_jb, u2, q_jb, q_gd (by omega) (by omega), q_cl (by omega), u3, d1, q_jb, show nI i + 1 = nI (i + 1) from nI_add i 1]
    · have v : ∀ j, D 16 37 j = if j = 2 * i + 1 then gA σ g n (i % 2) else if j = 2 * i then gA σ h n (i / 2) else A 16 37 j := by
        intro j
        rw [d3.2 37 (by omega) (by omega) (by omega) (by omega), ju_o]
        by_cases q : j = 2 * i + 1
        · rw [if_pos ⟨rfl, q⟩, if_pos q]
        · rw [if_neg (fun y => q y.2), if_neg q, ju_o]
          by_cases q2 : j = 2 * i
          · rw [if_pos ⟨rfl, q2⟩, if_pos q2]
          · rw [if_neg (fun y => q2 y.2), if_neg q2, fr3_at c3 (by omega), z37]
      rw [v, v]
      by_cases q : k = i
      · subst q
        rw [if_neg (by omega), if_pos rfl, if_pos rfl]; exact ⟨rfl, rfl⟩
      · rw [if_neg (by omega), if_neg (by omega), if_neg (by omega), if_neg (by omega)]
        exact p4 k (by omega)
  · rintro kk A ⟨p1, p2, p3, p4⟩
    refine ⟨A, ?_, p1, p3⟩
    simp only [f_X6_two_l58]
    rw [if_pos (by decide)]
    have st := fun (k f : Nat) (hk : k < 4) => two_step (A := A) (G := gA σ h n) (H := gA σ g n) p4 (f := f) hk
    obtain ⟨a1, a2⟩ := gA_lt (σ := σ) (h := h) (n := n) hW
    obtain ⟨b1, b2⟩ := gA_lt (σ := σ) (h := g) (n := n) hW
    have s0 := st 0 9999 (by omega)
    have s1 := st 1 9998 (by omega)
    have s2 := st 2 9997 (by omega)
    have s3 := st 3 9996 (by omega)
    simp only [Nat.zero_div, Nat.zero_mod, Nat.reduceDiv, Nat.reduceMod, Nat.reduceAdd, Nat.reduceSub, Nat.reduceMul, Nat.sub_zero, Nat.sub_self] at s0 s1 s2 s3
    show f_X6_two_l156 10000 A (nI 0) = _
    rw [s0, s1, s2, s3]
    unfold sh
    by_cases x1 : gk σ h n < gl σ h n
    · have y1 : ¬ gA σ h n 0 < gA σ h n 1 := fun q => a1.mp q x1
      by_cases x2 : gk σ g n < gl σ g n
      · have y2 : ¬ gA σ g n 0 < gA σ g n 1 := fun q => b1.mp q x2
        simp only [x1, x2, y1, y2, if_true, if_false]
      · have y2 : gA σ g n 0 < gA σ g n 1 := b1.mpr x2
        have y3 : ¬ gA σ g n 1 < gA σ g n 0 := fun q => x2 (by have := b2.mp q; omega)
        simp only [x1, x2, y1, y2, y3, if_true, if_false]
    · have y1 : gA σ h n 0 < gA σ h n 1 := a1.mpr x1
      have y0 : ¬ gA σ h n 1 < gA σ h n 0 := fun q => x1 (by have := a2.mp q; omega)
      by_cases x2 : gk σ g n < gl σ g n
      · have y2 : ¬ gA σ g n 0 < gA σ g n 1 := fun q => b1.mp q x2
        simp only [x1, x2, y1, y0, y2, if_true, if_false]
      · have y2 : gA σ g n 0 < gA σ g n 1 := b1.mpr x2
        have y3 : ¬ gA σ g n 1 < gA σ g n 0 := fun q => x2 (by have := b2.mp q; omega)
        simp only [x1, x2, y1, y0, y2, y3, if_true, if_false]
theorem ok_two (hJ : JJ M S) (a b c : Int32) : OK (f_X5_two M a b c) (fun M1 => f_X6_two M1 a b c) := by
  obtain ⟨h0, h5, hB⟩ := J_C hJ; have hf := J_f hJ; have hH := hf.1; have hW := hf.2.1.2.1
  by_cases c1 : okv (vH (sv S)) a = true
  · by_cases c2 : okv (vH (sv S)) b = true
    · by_cases c3 : a = b
      · refine OK_ref (k := 1) (by omega) hJ ?_ (fun M1 e16 _ => ?_)
        · unfold f_X5_two
          rw [show f_X4_hasHouse M 1 a = nI 1 from by rw [p_hasH h0, if_pos c1], if_neg z10]
          rw [show f_X4_hasHouse M 1 b = nI 1 from by rw [p_hasH h0, if_pos c2], if_neg z10]
          rw [if_pos c3]; rfl
        · simp only [f_X6_two, f_X6_two_j36, f_X6_two_j37]
          rw [if_neg (show ¬ f_X6_isHouse (ju M1 16 11 0 0) a = 0 from by rw [m_isHouse (J_R hJ e16) (wg_of hf), if_pos c1]; decide), if_neg (show ¬ f_X6_isHouse (ju M1 16 11 0 0) b = 0 from by rw [m_isHouse (J_R hJ e16) (wg_of hf), if_pos c2]; decide), if_pos c3, if_neg n1]; rfl
      · have r2 : ∀ M1 : jm, M1 16 = M 16 → f_X6_two M1 a b c = f_X6_two_j37 (ju M1 16 11 0 0) a b c (f_X6_wrongNumber c 0 60) := fun M1 e16 => by
          simp only [f_X6_two]
          rw [if_neg (show ¬ f_X6_isHouse (ju M1 16 11 0 0) a = 0 from by rw [m_isHouse (J_R hJ e16) (wg_of hf), if_pos c1]; decide), if_neg (show ¬ f_X6_isHouse (ju M1 16 11 0 0) b = 0 from by rw [m_isHouse (J_R hJ e16) (wg_of hf), if_pos c2]; decide), if_neg c3]
        have r1 : f_X5_two M a b c = (if 0 ≤ c then (if c ≤ 60 then (jb2 (f_X5_bestShutter M a c) fun r5 M_5 => (jb2 (f_X5_bestShutter M_5 b c) fun r6 M_6 => (some (((10 * r5) + r6), M_6)))) else (jb2 (f_X5_refuse M (-6)) fun r7 M_7 => (some (r7, M_7)))) else (jb2 (f_X5_refuse M (-4)) fun r8 M_8 => (some (r8, M_8)))) := by
          unfold f_X5_two
          rw [show f_X4_hasHouse M 1 a = nI 1 from by rw [p_hasH h0, if_pos c1], if_neg z10]
          rw [show f_X4_hasHouse M 1 b = nI 1 from by rw [p_hasH h0, if_pos c2], if_neg z10]
          rw [if_neg c3]
        rcases rng c 60 (by omega) (c := (60 : Int32)) rfl with ⟨q1, q2⟩ | ⟨q1, q2, q3, q4⟩ | ⟨n, hn, rfl⟩
        · refine OK_ref (k := 4) (by omega) hJ ?_ (fun M1 e16 _ => ?_)
          · rw [r1, if_neg q2]; rfl
          · show f_X6_two M1 a b c = _
            rw [r2 M1 e16, wn_lo q2]
            unfold f_X6_two_j37
            rw [if_neg n4]; rfl
        · refine OK_ref (k := 6) (by omega) hJ ?_ (fun M1 e16 _ => ?_)
          · rw [r1, if_pos q1, if_neg q4]; rfl
          · show f_X6_two M1 a b c = _
            rw [r2 M1 e16, wn_hi q1 q4]
            unfold f_X6_two_j37
            rw [if_neg n6]; rfl
        · obtain ⟨h, hh, rfl⟩ := okv_ex (by omega) c1
          obtain ⟨g, hg, rfl⟩ := okv_ex (by omega) c2
          have hne : h ≠ g := fun q => c3 (by rw [q])
          obtain ⟨A, a1, a2⟩ := x_shutter (A := M) hJ.1.1 hf hh hn
          have e1 : A 1 = M 1 := a2 1 (by omega)
          obtain ⟨B, b1, b2⟩ := x_shutter (A := A) (σ := sv S) (by rw [e1]; exact hJ.1.1) hf hg hn
          refine OK_q hJ (M1 := B) (r := nI (10 * sh (sv S) h n + sh (sv S) g n)) ?_ (fun o h1 _ _ => by rw [b2 o h1, a2 o h1]) (fun hR _ => ?_)
          · rw [r1, if_pos (r_lo (by omega)), if_pos (r_hi (c := 60) hn (by omega) rfl), a1, q_jb2, b1, q_jb2, show (10 : Int32) = nI 10 from rfl, pk_mul, nI_add]
          · show ∃ M2, f_X6_two B (nI h) (nI g) (nI n) = _ ∧ _
            have e16 : B 16 = M 16 := by rw [b2 16 (by omega), a2 16 (by omega)]
            rw [r2 B e16, wn_ok (c := 60) hn (by omega) rfl]
            obtain ⟨C, g1, g2, g3⟩ := mq_two (M := ju B 16 11 0 0) (RM_ct hR) hf hh hg hne hn
            exact ⟨C, g1, g2, frK_trans (frK_ct B) g3⟩
    · refine OK_ref (k := 1) (by omega) hJ ?_ (fun M1 e16 _ => ?_)
      · unfold f_X5_two
        rw [show f_X4_hasHouse M 1 a = nI 1 from by rw [p_hasH h0, if_pos c1], if_neg z10]
        rw [show f_X4_hasHouse M 1 b = nI 0 from by rw [p_hasH h0, if_neg c2], if_pos z00]; rfl
      · simp only [f_X6_two, f_X6_two_j36, f_X6_two_j37]
        rw [if_neg (show ¬ f_X6_isHouse (ju M1 16 11 0 0) a = 0 from by rw [m_isHouse (J_R hJ e16) (wg_of hf), if_pos c1]; decide), if_pos (show f_X6_isHouse (ju M1 16 11 0 0) b = 0 from by rw [m_isHouse (J_R hJ e16) (wg_of hf), if_neg c2]; rfl), if_neg n1]; rfl
  · refine OK_ref (k := 1) (by omega) hJ ?_ (fun M1 e16 _ => ?_)
    · unfold f_X5_two
      rw [show f_X4_hasHouse M 1 a = nI 0 from by rw [p_hasH h0, if_neg c1], if_pos z00]; rfl
    · simp only [f_X6_two, f_X6_two_j36, f_X6_two_j37]
      rw [if_pos (show f_X6_isHouse (ju M1 16 11 0 0) a = 0 from by rw [m_isHouse (J_R hJ e16) (wg_of hf), if_neg c1]; rfl), if_neg n1]; rfl
end Asks
