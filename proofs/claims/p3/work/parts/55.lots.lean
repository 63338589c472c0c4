/-! lots -/
def nx (z : Int32) : Int32 := z * 1103515245 + 12345
def drw (z : Int32) : Nat := z.toBitVec.toNat % 2 ^ 31 / 65536 % 49
theorem p_nx (z : Int32) : f_X5_nextSeed z = nx z := (rfl)
theorem drw_lt (z : Int32) : drw z < 49 := Nat.mod_lt _ (by omega)
theorem drw_eq (z : Int32) : (z &&& 2147483647) / 65536 - (z &&& 2147483647) / 65536 / 49 * 49 = nI (drw z) := by
  have h1 : z.toBitVec.toNat % 2 ^ 31 < 2 ^ 31 := Nat.mod_lt _ (by decide)
  have h2 : z.toBitVec.toNat % 2 ^ 31 / 65536 ≤ z.toBitVec.toNat % 2 ^ 31 := Nat.div_le_self _ _
  rw [pk_and z (m := 2147483647) 31 (by decide), show (65536 : Int32) = nI 65536 from rfl, pk_div (by omega) (by omega) (by omega), show (49 : Int32) = nI 49 from rfl, pk_rem (by omega) (by omega) (by omega)]
  rfl
theorem p_drawn (z : Int32) : f_X5_drawnCell z = nI (drw z) := drw_eq z
/-- the seed behind the draws of i walkers -/
def sd (z : Int32) : Nat → Int32
  | 0 => z
  | i + 1 => nx (nx (sd z i))
theorem sd_succ (z : Int32) (i : Nat) : sd z (i + 1) = nx (nx (sd z i)) := (rfl)
/-- the village of a year -/
def yv (σ : vl) (z : Int32) : vl := fun F i => if F = 6 then (if i < vW σ then drw (nx (sd z i)) else σ 6 i) else if F = 7 then (if i < vW σ then drw (nx (nx (sd z i))) else σ 7 i) else σ F i
section Lots
variable {σ τ : vl}
theorem yv_lo {z : Int32} {F i : Nat} (h6 : F ≠ 6) (h7 : F ≠ 7) : yv σ z F i = σ F i := by unfold yv; rw [if_neg h6, if_neg h7]
theorem yv_6 {z : Int32} {i : Nat} (hi : i < vW σ) : yv σ z 6 i = drw (nx (sd z i)) := by show (if (6 : Nat) = 6 then _ else _) = _; rw [if_pos rfl, if_pos hi]
theorem yv_7 {z : Int32} {i : Nat} (hi : i < vW σ) : yv σ z 7 i = drw (nx (nx (sd z i))) := by show (if (7 : Nat) = 6 then _ else if (7 : Nat) = 7 then _ else _) = _; rw [if_neg (by omega), if_pos rfl, if_pos hi]
theorem yv_W {z : Int32} : vW (yv σ z) = vW σ := yv_lo (by omega) (by omega)
theorem yv_H {z : Int32} : vH (yv σ z) = vH σ := yv_lo (by omega) (by omega)
theorem wf_yv {z : Int32} (hf : wf σ) : wf (yv σ z) := by
  obtain ⟨f1, ⟨b1, b2, b3, b4, b5⟩, f3, f4⟩ := hf
  refine ⟨by rw [yv_H]; exact f1, ⟨by rw [yv_H]; exact b1, by rw [yv_W]; exact b2, fun h hh => ?_, fun w hw => ?_, fun w h => ?_⟩, fun w h q => ?_, ?_⟩
  · rw [yv_H] at hh
    rw [yv_lo (by omega) (by omega), yv_lo (by omega) (by omega), yv_lo (by omega) (by omega), yv_lo (by omega) (by omega)]
    exact b3 h hh
  · rw [yv_W] at hw
    rw [yv_6 hw, yv_7 hw, yv_lo (F := 8) (by omega) (by omega)]
    exact ⟨drw_lt _, drw_lt _, (b4 w hw).2.2⟩
  · rw [yv_lo (by omega) (by omega)]; exact b5 w h
  · rw [yv_W, yv_H] at q
    rw [yv_lo (by omega) (by omega)]; exact f3 w h q
  · rw [yv_lo (by omega) (by omega)]; exact f4
/-- what a year counts -/
def yc (σ : vl) (v : Int32) (z : Int32) : Nat := if v = 0 then debts (yv σ z) 12 else prices (yv σ z) 12
def yf (σ : vl) (v : Int32) (_ : Nat) (a : Int32 × Int32) : Int32 × Int32 := (a.1 + nI (yc σ v a.2), sd a.2 (vW σ))
end Lots
section Asks
variable {M : jm} {S : St} {σ : vl}
theorem two_0 {D : jm} {ρ : vl} {w a b : Nat} {x y : Int32} (h : D 2 0 0 = nI (vH ρ)) : ju (ju D 2 6 w x) 2 7 w y 2 0 0 = nI (vH (aimW (vu ρ 6 w a) w b)) := by
  rw [ju_f (by omega), ju_f (by omega)]
  unfold aimW vH
  rw [vu_ne (by omega), vu_ne (by omega)]
  exact h
theorem two_10 {D : jm} {ρ : vl} {w a b : Nat} {x y : Int32} (h : D 2 10 0 = nI (ρ 10 0)) : ju (ju D 2 6 w x) 2 7 w y 2 10 0 = nI (aimW (vu ρ 6 w a) w b 10 0) := by
  rw [ju_f (by omega), ju_f (by omega)]
  unfold aimW
  rw [vu_ne (by omega), vu_ne (by omega)]
  exact h
theorem x_lots (hJ : JJ M S) {n : Nat} (hn : n ≤ 20) (z v : Int32) : ∃ A, f_X5_lots_j41 M (nI n) z v = some ((ff (yf (sv S) v) n 0 (nI 0, z)).1, A) ∧ frC M A := by
  obtain ⟨h0, h5, hB⟩ := J_C hJ; have hf := J_f hJ; have hH := hf.1; have hW := hf.2.1.2.1
  obtain ⟨A, a1, a2, a3⟩ := p_becomeRW (M := M) (o := 2) (o1 := 1) (σ := sv S) (by omega) hJ.1.1
  unfold f_X5_lots_j41
  rw [a1, q_jb]
  refine loopE (L := fun k (a : jm × Int32 × Int32) i => f_X5_lots_l61 (nI n) v k a.1 a.2.1 a.2.2 i) (P := fun i a => (∀ o, o ≠ 2 → a.1 o = M o) ∧ (∃ τ, RW (a.1 2) τ ∧ ∀ F i, F ≠ 6 → F ≠ 7 → τ F i = (sv S) F i) ∧ a.2 = ff (yf (sv S) v) i 0 (nI 0, z)) (Z := fun r => ∃ A, r = some ((ff (yf (sv S) v) n 0 (nI 0, z)).1, A) ∧ frC M A) (n := n) ?_ ?_ n 0 10000 (A, 0, z) (by omega) (by omega) ⟨fun o ho => a2 o ho, ⟨sv S, a3, fun _ _ _ _ => rfl⟩, rfl⟩
  · rintro k ⟨C, u⟩ i hi ⟨p1, ⟨τ, p2, p3⟩, p4⟩
    simp only at p1 p2 p4
    obtain ⟨s, y⟩ := u
    simp only [f_X5_lots_l61]
    rw [if_neg (by rw [q_le (by omega) (by omega)]; omega)]
    have tW : vW τ = vW (sv S) := p3 5 0 (by omega) (by omega)
    have tH : vH τ = vH (sv S) := p3 0 0 (by omega) (by omega)
    refine loopE (L := fun k2 (a : jm × Int32) w => f_X5_lots_l70 (f_X5_lots_l61 (nI n) v k) (nI n) v s (nI i) k2 a.1 a.2 w) (P := fun w0 a => (∀ o, o ≠ 2 → a.1 o = M o) ∧ (∃ τ, RW (a.1 2) τ ∧ (∀ F i, F ≠ 6 → F ≠ 7 → τ F i = (sv S) F i) ∧ ∀ w, w < w0 → τ 6 w = yv (sv S) y 6 w ∧ τ 7 w = yv (sv S) y 7 w) ∧ a.2 = sd y w0) (Z := fun r => ∃ a' : jm × Int32 × Int32, r = f_X5_lots_l61 (nI n) v k a'.1 a'.2.1 a'.2.2 (nI (i + 1)) ∧ (∀ o, o ≠ 2 → a'.1 o = M o) ∧ (∃ τ, RW (a'.1 2) τ ∧ ∀ F i, F ≠ 6 → F ≠ 7 → τ F i = (sv S) F i) ∧ a'.2 = ff (yf (sv S) v) (i + 1) 0 (nI 0, z)) (n := vW (sv S)) ?_ ?_ (vW (sv S)) 0 10000 (C, y) (by omega) (by omega) ⟨p1, ⟨τ, p2, p3, fun w hw => by omega⟩, rfl⟩
    · rintro k2 ⟨D, x⟩ w hw ⟨q1, ⟨ρ, q2, q3, q4⟩, q5⟩
      simp only at q1 q2 q5
      obtain ⟨c6, h6⟩ : ∃ c, c = drw (nx (sd y w)) := ⟨_, rfl⟩
      obtain ⟨c7, h7⟩ : ∃ c, c = drw (nx (nx (sd y w))) := ⟨_, rfl⟩
      have rR : RW (ju (ju D 2 6 w (nI c6)) 2 7 w (nI c7) 2) (aimW (vu ρ 6 w c6) w c7) := by
        refine ⟨two_0 q2.1, two_10 q2.2.1, ?_⟩
        have e : vH (aimW (vu ρ 6 w c6) w c7) = vH ρ := by unfold aimW vH; rw [vu_ne (by omega), vu_ne (by omega)]
        rw [e]; exact RB_goal (RB_at q2.2.2)
      have rO : ∀ o, o ≠ 2 → ju (ju D 2 6 w (nI c6)) 2 7 w (nI c7) o = M o := fun o ho => by rw [ju_ne ho, ju_ne ho, q1 o ho]
      refine ⟨(ju (ju D 2 6 w (nI c6)) 2 7 w (nI c7), sd y (w + 1)), ?_, rO, ⟨aimW (vu ρ 6 w c6) w c7, rR, fun F j h6 h7 => ?_, fun j hj => ?_⟩, rfl⟩
      · simp only [f_X5_lots_l70]
        rw [if_neg (by rw [show D 2 5 0 = nI (vW (sv S)) by rw [q2.2.2.1, show vW ρ = vW (sv S) from q3 5 0 (by omega) (by omega)], q_le (by omega) (by omega)]; omega), q_gd (by omega) (by omega), q_gd (by omega) (by omega), q_cl (by omega), show nI w + 1 = nI (w + 1) from nI_add w 1, q5, p_nx, p_nx, p_drawn, p_drawn, ← h6, ← h7, sd_succ]
      · show vu (vu ρ 6 w _) 7 w _ F j = _
        rw [vu_ne (by omega), vu_ne (by omega)]; exact q3 F j h6 h7
      · show vu (vu ρ 6 w _) 7 w _ 6 j = _ ∧ vu (vu ρ 6 w _) 7 w _ 7 j = _
        by_cases c : j = w
        · subst c
          rw [vu_ne (by omega), vu_same, vu_same, yv_6 hw, yv_7 hw, h6, h7]; exact ⟨rfl, rfl⟩
        · rw [vu_ne (by omega), vu_ne (by omega), vu_ne (by omega), vu_ne (by omega)]; exact q4 j (by omega)
    · rintro k2 ⟨D, x⟩ ⟨q1, ⟨ρ, q2, q3, q4⟩, q5⟩
      simp only at q1 q2 q5
      have eW : vW ρ = vW (sv S) := q3 5 0 (by omega) (by omega)
      have eH : vH ρ = vH (sv S) := q3 0 0 (by omega) (by omega)
      have hy := wf_yv (z := y) hf
      have e0 : D 2 0 0 = nI (vH (yv (sv S) y)) := by rw [yv_H, q2.1, eH]
      have eB : RB (D 2) (yv (sv S) y) (vH (yv (sv S) y)) := by
        rw [yv_H]
        have := q2.2.2
        rw [eH] at this
        refine RB_ext (by rw [yv_W, eW]) (fun j _ => ?_) (fun w hw => ?_) (fun w _ j _ => ?_) this
        · rw [yv_lo (by omega) (by omega), yv_lo (by omega) (by omega), yv_lo (by omega) (by omega), yv_lo (by omega) (by omega), q3 1 j (by omega) (by omega), q3 2 j (by omega) (by omega), q3 3 j (by omega) (by omega), q3 4 j (by omega) (by omega)]; exact ⟨rfl, rfl, rfl, rfl⟩
        · rw [eW] at hw
          obtain ⟨g1, g2⟩ := q4 w hw
          rw [g1, g2, yv_lo (F := 8) (by omega) (by omega), q3 8 w (by omega) (by omega)]; exact ⟨rfl, rfl, rfl⟩
        · rw [yv_lo (by omega) (by omega), q3 (20 + w) j (by omega) (by omega)]
      refine ⟨(D, s + nI (yc (sv S) v y), sd y (vW (sv S))), ?_, q1, ⟨ρ, q2, q3⟩, ?_⟩
      · simp only [f_X5_lots_l70]
        rw [if_pos (by rw [show D 2 5 0 = nI (vW (sv S)) by rw [q2.2.2.1, eW], q_le (by omega) (by omega)]; omega), q5, show (12 : Int32) = nI 12 from rfl, p_debtsBehind e0 eB hy.2.1 (by omega), p_pricesBehind e0 eB hy.2.1 (by omega), q_jb, q_jb, show nI i + 1 = nI (i + 1) from nI_add i 1]
        unfold yc
        by_cases c : v = 0
        · rw [if_pos c, if_pos c]
        · rw [if_neg c, if_neg c]
      · show (s + nI (yc (sv S) v y), sd y (vW (sv S))) = _
        rw [ff_succ, ← p4, yf]
  · rintro k ⟨C, u⟩ ⟨p1, p2, p3⟩
    simp only at p1 p2 p3
    refine ⟨C, ?_, fun o h1 _ _ => p1 o h1⟩
    simp only [f_X5_lots_l61]
    rw [if_pos (by rw [q_le (by omega) (by omega)]; omega), p3]
theorem m_draw {A : jm} : f_X6_drawBelow A 49 = some (nI (drw (nx (A 16 38 0))), ju A 16 38 0 (nx (A 16 38 0))) := by
  unfold f_X6_drawBelow
  rw [show (49 : Int32) = nI 49 from rfl, q_gz (by omega) (by omega), ju_self]
  show some ((nx (A 16 38 0) &&& 2147483647) / 65536 - (nx (A 16 38 0) &&& 2147483647) / 65536 / 49 * 49, _) = _
  rw [drw_eq]; rfl
theorem mq_lots (hR : RM (M 16) σ) (hf : wf σ) {n : Nat} (hn : n ≤ 20) (v : Int32) {z : Int32} (hz : M 16 38 0 = z) : ∃ M2, jb (f_X6_think M) (fun M_3 => f_X6_lots_l46 (nI n) v 10000 M_3 0 0) = some ((ff (yf σ v) n 0 (nI 0, z)).1, M2) ∧ RM (M2 16) σ ∧ frK M M2 := by
  have hH := hf.1; have hW := hf.2.1.2.1
  have hg := wg_of hf
  obtain ⟨B, b1, b2, b3, b4⟩ := m_think hR
  rw [b1, q_jb]
  refine loopE (L := fun k (a : jm × Int32) i => f_X6_lots_l46 (nI n) v k a.1 a.2 i) (P := fun i a => RM (a.1 16) σ ∧ KM (a.1 16 21) σ ∧ frK M a.1 ∧ (a.2, a.1 16 38 0) = ff (yf σ v) i 0 (nI 0, z)) (Z := fun r => ∃ M2, r = some ((ff (yf σ v) n 0 (nI 0, z)).1, M2) ∧ RM (M2 16) σ ∧ frK M M2) (n := n) ?_ ?_ n 0 10000 (B, 0) (by omega) (by omega) ⟨b2, b3, frK_of b4, by show ((0 : Int32), B 16 38 0) = (nI 0, z); rw [b4.2 38 (by omega) (by omega) (by omega) (by omega) (by omega), hz]; rfl⟩
  · rintro k ⟨C, s⟩ i hi ⟨p1, p2, p3, p4⟩
    simp only at p1 p2 p3 p4
    obtain ⟨y, hy⟩ : ∃ y, y = C 16 38 0 := ⟨_, rfl⟩
    simp only [f_X6_lots_l46]
    rw [if_neg (by rw [q_le (by omega) (by omega)]; omega)]
    refine loopE (L := fun k2 (a : jm) w => f_X6_lots_l55 (f_X6_lots_l46 (nI n) v k) (nI n) v s (nI i) k2 a w) (P := fun w0 a => (∃ τ, RM (a 16) τ ∧ (∀ F i, F ≠ 6 → F ≠ 7 → τ F i = σ F i) ∧ ∀ w, w < w0 → τ 6 w = yv σ y 6 w ∧ τ 7 w = yv σ y 7 w) ∧ KM (a 16 21) σ ∧ frK M a ∧ a 16 38 0 = sd y w0) (Z := fun r => ∃ a' : jm × Int32, r = f_X6_lots_l46 (nI n) v k a'.1 a'.2 (nI (i + 1)) ∧ RM (a'.1 16) σ ∧ KM (a'.1 16 21) σ ∧ frK M a'.1 ∧ (a'.2, a'.1 16 38 0) = ff (yf σ v) (i + 1) 0 (nI 0, z)) (n := vW σ) ?_ ?_ (vW σ) 0 10000 C (by omega) (by omega) ⟨⟨σ, p1, fun _ _ _ _ => rfl, fun w hw => by omega⟩, p2, p3, hy.symm⟩
    · rintro k2 D w hw ⟨⟨ρ, q2, q3, q4⟩, q5, q6, q7⟩
      have eW : D 16 5 0 = nI (vW σ) := by rw [q2.2.1, show vW ρ = vW σ from q3 5 0 (by omega) (by omega)]
      have fe : ∀ (A : jm) (x : Int32), ∀ f, f ≤ 10 → ju A 16 38 0 x 16 f = A 16 f := fun A x f hf => ju_f (by omega)
      have r1 : RM (ju D 16 38 0 (nx (D 16 38 0)) 16) ρ := RM_fe (fe _ _) q2
      have r2 := RM_at r1 (w := w) (c := drw (nx (D 16 38 0)))
      obtain ⟨E, hE⟩ : ∃ E, E = ju (ju D 16 38 0 (nx (D 16 38 0))) 16 6 w (nI (drw (nx (D 16 38 0)))) := ⟨_, rfl⟩
      rw [← hE] at r2
      have e38 : E 16 38 0 = nx (D 16 38 0) := by rw [hE, ju_g (by omega), ju_self]
      have r3 : RM (ju E 16 38 0 (nx (E 16 38 0)) 16) (vu ρ 6 w (drw (nx (D 16 38 0)))) := RM_fe (fe _ _) r2
      have r4 := RM_goal r3 (w := w) (c := drw (nx (E 16 38 0)))
      have kE : frK D E := by rw [hE]; exact frK_trans (frK_ju (by unfold kp; omega)) (frK_ju (by unfold kp; omega))
      refine ⟨ju (ju E 16 38 0 (nx (E 16 38 0))) 16 7 w (nI (drw (nx (E 16 38 0)))), ?_, ⟨_, r4, fun F j h6 h7 => ?_, fun j hj => ?_⟩, ?_, frK_trans q6 (frK_trans kE (frK_trans (frK_ju (by unfold kp; omega)) (frK_ju (by unfold kp; omega)))), ?_⟩
      · simp only [f_X6_lots_l55]
        rw [if_neg (by rw [eW, q_le (by omega) (by omega)]; omega), m_draw, q_jb2, q_gd (by omega) (by omega), q_cl (by omega), ← hE, m_draw, q_jb2, q_gd (by omega) (by omega), show nI w + 1 = nI (w + 1) from nI_add w 1]
      · show vu (vu ρ 6 w _) 7 w _ F j = _
        rw [vu_ne (by omega), vu_ne (by omega)]; exact q3 F j h6 h7
      · show vu (vu ρ 6 w _) 7 w _ 6 j = _ ∧ vu (vu ρ 6 w _) 7 w _ 7 j = _
        by_cases c : j = w
        · subst c
          rw [vu_ne (by omega), vu_same, vu_same, yv_6 hw, yv_7 hw, e38, q7]; exact ⟨rfl, rfl⟩
        · rw [vu_ne (by omega), vu_ne (by omega), vu_ne (by omega), vu_ne (by omega)]; exact q4 j (by omega)
      · rw [ju_f (by omega), ju_f (by omega), hE, ju_f (by omega), ju_f (by omega)]; exact q5
      · rw [ju_g (by omega), ju_self, e38, q7, sd_succ]
    · rintro k2 D ⟨⟨ρ, q2, q3, q4⟩, q5, q6, q7⟩
      have eW : vW ρ = vW σ := q3 5 0 (by omega) (by omega)
      have eH : vH ρ = vH σ := q3 0 0 (by omega) (by omega)
      have hy2 := wf_yv (z := y) hf
      have hgy := wg_of hy2
      have rD : RM (D 16) (yv σ y) := by
        refine RM_ext q2 ?_ ?_ ?_ (fun j _ => ?_) (fun w hw => ?_) (fun w _ j _ => ?_)
        · rw [yv_lo (by omega) (by omega), q3 0 0 (by omega) (by omega)]
        · rw [yv_lo (by omega) (by omega), q3 5 0 (by omega) (by omega)]
        · rw [yv_lo (by omega) (by omega), q3 10 0 (by omega) (by omega)]
        · rw [yv_lo (by omega) (by omega), yv_lo (by omega) (by omega), yv_lo (by omega) (by omega), yv_lo (by omega) (by omega), q3 1 j (by omega) (by omega), q3 2 j (by omega) (by omega), q3 3 j (by omega) (by omega), q3 4 j (by omega) (by omega)]; exact ⟨rfl, rfl, rfl, rfl⟩
        · rw [eW] at hw
          obtain ⟨g1, g2⟩ := q4 w hw
          rw [g1, g2, yv_lo (F := 8) (by omega) (by omega), q3 8 w (by omega) (by omega)]; exact ⟨rfl, rfl, rfl⟩
        · rw [yv_lo (by omega) (by omega), q3 (20 + w) j (by omega) (by omega)]
      obtain ⟨E, e1, e2, e3⟩ := m_goEvenings (n := 12) rD hgy (by omega)
      have kE : KM (E 16 21) σ := by rw [fr3_at e3 (by omega)]; exact q5
      obtain ⟨F, f1, f2, f3⟩ := m_again kE hg
      have hd := m_allDebts e2 (wg_ev hgy)
      have hp := m_allPrices e2 (wg_ev hgy)
      rw [debts_ev] at hd
      rw [prices_ev] at hp
      have s38 : F 16 38 0 = sd y (vW σ) := by rw [f3.2 38 (by omega) (by omega) (by omega) (by omega), fr3_at e3 (by omega), q7]
      refine ⟨(F, s + nI (yc σ v y)), ?_, f2, by show KM (F 16 21) σ; rw [frA_21 f3]; exact kE, frK_trans q6 (frK_trans (frK_of (frT_of (frA_of e3))) (frK_of (frT_of f3))), ?_⟩
      · simp only [f_X6_lots_l55, f_X6_lots_j119]
        rw [if_pos (by rw [show D 16 5 0 = nI (vW σ) by rw [q2.2.1, eW], q_le (by omega) (by omega)]; omega), show (12 : Int32) = nI 12 from rfl, e1, q_jb, hd, hp, q_jb, q_jb, f1, q_jb, q_jb, show nI i + 1 = nI (i + 1) from nI_add i 1]
        unfold yc
        by_cases c : v = 0
        · rw [if_pos c, if_pos c]
        · rw [if_neg c, if_neg c]
      · show (s + nI (yc σ v y), F 16 38 0) = _
        rw [ff_succ, ← p4, s38, ← hy, yf]
  · rintro k ⟨C, s⟩ ⟨p1, p2, p3, p4⟩
    simp only at p1 p2 p3 p4
    refine ⟨C, ?_, p1, p3⟩
    simp only [f_X6_lots_l46]
    rw [if_pos (by rw [q_le (by omega) (by omega)]; omega), ← p4]
theorem one_up (v : Int32) (c1 : (1 : Int32) ≤ v) : ∃ j, j < 2 ^ 31 ∧ v = nI j := by
  obtain ⟨j, hj, rfl⟩ := nI_of (x := v) (fun z => by
    rw [Int32.lt_iff_toInt_lt] at z
    rw [Int32.le_iff_toInt_le] at c1
    have e0 : (0 : Int32).toInt = 0 := rfl
    have e1 : (1 : Int32).toInt = 1 := rfl
    omega)
  exact ⟨j, hj, rfl⟩
theorem ok_lots (hJ : JJ M S) (a z b : Int32) : OK (f_X5_lots M a z b) (fun M1 => f_X6_lots M1 a z b) := by
  obtain ⟨h0, h5, hB⟩ := J_C hJ; have hf := J_f hJ; have hH := hf.1; have hW := hf.2.1.2.1
  by_cases c1 : (1 : Int32) ≤ a
  · by_cases c2 : a ≤ 20
    · obtain ⟨n, hj, rfl⟩ := one_up a c1
      have hn : n ≤ 20 := by rw [show (20 : Int32) = nI 20 from rfl, q_le hj (by omega)] at c2; exact c2
      have wn : f_X6_wrongNumber (nI n) 1 20 = 0 := by unfold f_X6_wrongNumber; rw [if_pos c1, if_pos c2]
      by_cases c3 : okv 2 b = true
      · obtain ⟨A, x1, x2⟩ := x_lots hJ hn z b
        refine OK_q hJ (M1 := A) (r := (ff (yf (sv S) b) n 0 (nI 0, z)).1) ?_ x2 (fun hR hg => ?_)
        · unfold f_X5_lots
          rw [if_pos c1, if_pos c2, x1]
          have hb : b = nI 0 ∨ b = nI 1 := by
            obtain ⟨j, hj, rfl⟩ := okv_ex (by omega) c3
            rcases (show j = 0 ∨ j = 1 by omega) with rfl | rfl
            · exact Or.inl rfl
            · exact Or.inr rfl
          rcases hb with rfl | rfl <;> rfl
        · obtain ⟨C, g1, g2, g3⟩ := mq_lots (M := ju (ju A 16 11 0 0) 16 38 0 z) (RM_fe (fun f hf => ju_f (by omega)) (RM_ct hR)) hf hn b ju_self
          refine ⟨C, ?_, g2, frK_trans (frK_ct A) (frK_trans (frK_ju (by unfold kp; omega)) g3)⟩
          show f_X6_lots A (nI n) z b = _
          unfold f_X6_lots
          rw [wn, wb_0 2 (by omega) (by decide), if_pos c3, if_pos n0]
          exact g1
      · have nn : ∀ j, j < 2 → ¬ b = nI j := fun j hj => okv_ne (by omega) c3 hj
        refine OK_ref (k := 2) (by omega) hJ ?_ (fun M1 e16 _ => ?_)
        · unfold f_X5_lots
          rw [if_pos c1, if_pos c2, if_neg (show ¬ b = (0 : Int32) from nn 0 (by omega)), if_neg (show ¬ b = (1 : Int32) from nn 1 (by omega))]; rfl
        · show f_X6_lots M1 (nI n) z b = _
          unfold f_X6_lots
          rw [wn, wb_0 2 (by omega) (by decide), if_neg c3, if_neg n2]; rfl
    · refine OK_ref (k := 6) (by omega) hJ ?_ (fun M1 e16 _ => ?_)
      · unfold f_X5_lots
        rw [if_pos c1, if_neg c2]; rfl
      · show f_X6_lots M1 a z b = _
        unfold f_X6_lots
        rw [show f_X6_wrongNumber a 1 20 = -6 from by unfold f_X6_wrongNumber; rw [if_pos c1, if_neg c2], wb_no (by decide), if_neg n6]; rfl
  · refine OK_ref (k := 4) (by omega) hJ ?_ (fun M1 e16 _ => ?_)
    · unfold f_X5_lots
      rw [if_neg c1]; rfl
    · show f_X6_lots M1 a z b = _
      unfold f_X6_lots
      rw [show f_X6_wrongNumber a 1 20 = -4 from by unfold f_X6_wrongNumber; rw [if_neg c1], wb_no (by decide), if_neg n4]; rfl
end Asks
