/-! both sides tell all statements -/
theorem ju_oc {X Y : jm} {o p f i : Nat} {x : Int32} (h : X o = Y o) : ju X p f i x o = ju Y p f i x o := by
  funext g k
  unfold ju
  rw [h]
theorem ju_fc {X Y : jm} {o p f i g : Nat} {x : Int32} (h : X o g = Y o g) : ju X p f i x o g = ju Y p f i x o g := by
  funext k
  unfold ju
  rw [h]
theorem neg2k : ∀ x, x < 97 → ¬ (0 : Int32) ≤ (-2000) - nI x := by decide +kernel
theorem neg1k : ∀ x, x < 97 → ¬ (0 : Int32) ≤ (-1000) - nI x := by decide +kernel
section Vt
variable {s : Nat → Nat} {len : Nat} {σ : vl}
theorem t_scan {A : jm} (a1 : A 13 1 0 = nI len) (a0 : ∀ i, i < len → A 13 0 i = nI (s i)) (hs : ∀ i, i < len → s i < 256) (hl : len ≤ 96) {p : Nat} (hok : (sc s len p).2 = true) {f : Nat} (hf : dg (s p) + 1 < f) (v : Int32) : f_X1_tell_l25 2 f A v (nI p) (nI p) = jb2 (f_X1_tellStatement A 2 (nI p)) fun r M => if r = 0 then some ((-2000) - nI p, M) else f_X1_tell_l25 2 (f - (dg (s p) + 2)) M (v + 1) (nI (sc s len p).1) (nI (sc s len p).1) := by
  obtain ⟨o1, o2, o3, o4, o5, o6⟩ := sc_ok hok
  have hd := dg_le (s p)
  have go : ∀ i, i ≤ dg (s p) + 1 → f_X1_tell_l25 2 f A v (nI p) (nI p) = f_X1_tell_l25 2 (f - i) A v (nI p) (nI (p + i)) := by
    intro i
    induction i with
    | zero => intro _; rfl
    | succ i ih =>
      intro hi
      have hne : s (p + i) ≠ 59 := by
        by_cases z : i = 0
        · rw [z, Nat.add_zero]
          intro e
          apply o2
          rw [e]; rfl
        · have := o6 (i - 1) (by omega)
          unfold isd at this
          simp only [decide_eq_true_eq] at this
          rw [show p + 1 + (i - 1) = p + i by omega] at this
          omega
      have h256 := hs (p + i) (by omega)
      rw [ih (by omega), show f - i = (f - (i + 1)) + 1 by omega, f_X1_tell_l25, a1, if_neg (by rw [q_le (by omega) (by omega)]; omega), q_gd (by omega) (by omega), q_cl (by omega), a0 _ (by omega), if_neg (by rw [show (59 : Int32) = nI 59 from rfl, q_eq (by omega) (by omega)]; exact hne), show nI (p + i) + 1 = nI (p + (i + 1)) from nI_add (p + i) 1]
  rw [go _ (Nat.le_refl _), show f - (dg (s p) + 1) = (f - (dg (s p) + 2)) + 1 by omega, f_X1_tell_l25, a1, if_neg (by rw [q_le (by omega) (by omega)]; omega), q_gd (by omega) (by omega), q_cl (by omega), show p + (dg (s p) + 1) = p + dg (s p) + 1 by omega, a0 _ o4, if_pos (by rw [o5]; rfl), show nI (p + dg (s p) + 1) + 1 = nI (p + dg (s p) + 2) from nI_add (p + dg (s p) + 1) 1, o3]
/-- both loops side by side -/
theorem t_all (hs : ∀ i, i < len → s i < 256) (hl : len ≤ 96) {N : Nat} (h32 : N ≤ 32) (hN : ∀ j, j < N → pc s len j < len ∧ (sc s len (pc s len j)).2 = true) (hend : pc s len N = len) (hg : wg σ) : ∀ d j, j + d = N → ∀ (A B : jm) (τ : vl), wf τ → RW (A 2) τ → RM (B 16) τ → A 13 1 0 = nI len → (∀ i, i < len → A 13 0 i = nI (s i)) → B 16 17 0 = nI N → (∀ i, i < N → B 16 18 i = nI (pc s len i) ∧ B 16 19 i = nI (s (pc s len i)) ∧ tld s B i (s (pc s len i)) (pc s len i + 1)) → KM (B 16 21) σ → ∃ (r : Int32) (A' B' : jm), f_X1_tell_l25 2 (10000 - pc s len j) A (nI j) (nI (pc s len j)) (nI (pc s len j)) = some (r, A') ∧ f_X6_village_l79 (10000 - j) B (nI j) = some (r, B') ∧ (∀ o, o ≠ 2 → A' o = A o) ∧ (∀ o, o ≠ 16 → B' o = B o) ∧ ((r = nI N ∧ ∃ (τ' : vl) (C : jm), RW (A' 2) τ' ∧ wf τ' ∧ RM (C 16) τ' ∧ (∀ o, o ≠ 16 → C o = B o) ∧ (∀ f, kp f → C 16 f = B 16 f) ∧ B' = ju C 16 29 0 (nI 0)) ∨ (¬ 0 ≤ r ∧ RM (B' 16) σ ∧ ∀ f, kp f → B' 16 f = B 16 f)) := by
  intro d
  induction d with
  | zero =>
    intro j hj A B τ hf hA hB a1 a0 b17 bs hK
    have hjN : j = N := by omega
    refine ⟨nI N, A, ju B 16 29 0 (nI 0), ?_, ?_, fun _ _ => rfl, fun o ho => ju_ne ho, Or.inl ⟨rfl, τ, B, hA, hf, hB, fun _ _ => rfl, fun _ _ => rfl, rfl⟩⟩
    · rw [hjN, hend, show 10000 - len = (9999 - len) + 1 by omega, f_X1_tell_l25, a1, if_pos ((q_le (by omega) (by omega)).mpr (Nat.le_refl _))]
    · rw [hjN, show 10000 - N = (9999 - N) + 1 by omega, f_X6_village_l79, b17, if_pos ((q_le (by omega) (by omega)).mpr (Nat.le_refl _)), ju_g (by omega), b17]; rfl
  | succ d ih =>
    intro j hj A B τ hf hA hB a1 a0 b17 bs hK
    have hjN : j < N := by omega
    obtain ⟨p1, p2⟩ := hN j hjN
    obtain ⟨x1, x2, x3⟩ := bs j hjN
    obtain ⟨r, A1, B1, c1, c2, c3, c4, c5, c6⟩ := st_step hf hA hB a1 a0 hs hl (p := pc s len j) (k := j) (by omega) p2 x2 x3
    have hd := dg_le (s (pc s len j))
    have e9 : 10000 - pc s len j - (dg (s (pc s len j)) + 2) = 10000 - pc s len (j + 1) := by
      show _ = 10000 - (sc s len (pc s len j)).1
      have := (sc_ok p2).2.2.1
      omega
    have ec : f_X1_tell_l25 2 (10000 - pc s len j) A (nI j) (nI (pc s len j)) (nI (pc s len j)) = (if r = 0 then some ((-2000) - nI (pc s len j), A1) else f_X1_tell_l25 2 (10000 - pc s len (j + 1)) A1 (nI (j + 1)) (nI (pc s len (j + 1))) (nI (pc s len (j + 1)))) := by
      rw [t_scan a1 a0 hs hl p2 (by omega), c1, q_jb2, show nI j + 1 = nI (j + 1) from nI_add j 1, e9]
      rfl
    have er : f_X6_village_l79 (10000 - j) B (nI j) = (if r = 0 then (jb (f_X6_again B1) fun M_6 => (jgd (nI j) 49 (some (((-2000) - (M_6 16 18 (Int32.toNatClampNeg (nI j)))), M_6)))) else f_X6_village_l79 (10000 - (j + 1)) B1 (nI (j + 1))) := by
      rw [show 10000 - j = (10000 - (j + 1)) + 1 by omega, f_X6_village_l79, b17, if_neg (by rw [q_le (by omega) (by omega)]; omega), c2, q_jb2, show nI j + 1 = nI (j + 1) from nI_add j 1]
    have hK1 : KM (B1 16 21) σ := by rw [c5 21 (by omega)]; exact hK
    rcases c6 with e0 | ⟨e1, τ', d1, d2, d3⟩
    · obtain ⟨B2, g1, g2, g3⟩ := m_again hK1 hg
      have e18 : B2 16 18 j = nI (pc s len j) := by rw [g3.2 18 (by omega) (by omega) (by omega) (by omega), c5 18 (by omega)]; exact x1
      refine ⟨(-2000) - nI (pc s len j), A1, B2, by rw [ec, if_pos e0], ?_, c3, fun o ho => by rw [g3.1 o ho, c4 o ho], Or.inr ⟨neg2k _ (by omega), g2, fun f hf2 => ?_⟩⟩
      · rw [er, if_pos e0, g1, q_jb, q_gd (by omega) (by omega), q_cl (by omega), e18]
      · unfold kp at hf2
        rw [g3.2 f (by omega) (by omega) (by omega) (by omega), c5 f (by omega)]
    · have n0' : ¬ r = 0 := by rw [e1]; decide
      obtain ⟨r2, A2, B2, i1, i2, i3, i4, i5⟩ := ih (j + 1) (by omega) A1 B1 τ' d3 d1 d2 (by rw [c3 13 (by omega)]; exact a1) (fun i hi => by rw [c3 13 (by omega)]; exact a0 i hi) (by rw [c5 17 (by omega)]; exact b17) (fun i hi => by
        obtain ⟨y1, y2, y3⟩ := bs i hi
        exact ⟨by rw [c5 18 (by omega)]; exact y1, by rw [c5 19 (by omega)]; exact y2, tld_congr (fun q _ => by rw [c5 20 (by omega)]) y3⟩) hK1
      have kk : ∀ f, kp f → B1 16 f = B 16 f := fun f hf2 => by unfold kp at hf2; exact c5 f (by omega)
      refine ⟨r2, A2, B2, by rw [ec, if_neg n0', i1], by rw [er, if_neg n0', i2], fun o ho => by rw [i3 o ho, c3 o ho], fun o ho => by rw [i4 o ho, c4 o ho], ?_⟩
      rcases i5 with ⟨q1, τ2, C, q2, q3, q4, q5, q6, q7⟩ | ⟨q1, q2, q3⟩
      · exact Or.inl ⟨q1, τ2, C, q2, q3, q4, fun o ho => by rw [q5 o ho, c4 o ho], fun f hf2 => by rw [q6 f hf2, kk f hf2], q7⟩
      · exact Or.inr ⟨q1, q2, fun f hf2 => by rw [q3 f hf2, kk f hf2]⟩
/-- the reference up to the telling -/
theorem v_ref {M1 : jm} (hR : RM (M1 16) σ) (h14 : M1 16 14 0 = nI len) (h13 : ∀ i, i < len → M1 16 13 i = nI (s i)) (hs : ∀ i, i < len → s i < 256) (hl : len ≤ 96) {N : Nat} (h32 : N ≤ 32) (hN : ∀ j, j < N → pc s len j < len ∧ (sc s len (pc s len j)).2 = true) (hp : pc s len N ≤ len) (hcase : (0 < N ∧ pc s len N = len) ∨ (¬ (0 < N ∧ pc s len N = len) ∧ (sc s len (pc s len N)).2 = false)) : ∃ B : jm, (∀ o, o ≠ 16 → B o = M1 o) ∧ RM (B 16) σ ∧ (∀ f, kp f → B 16 f = ju M1 16 14 0 (nI 0) 16 f) ∧ ((0 < N ∧ pc s len N = len) → f_X6_village M1 = f_X6_village_l79 10000 B 0 ∧ KM (B 16 21) σ ∧ B 16 17 0 = nI N ∧ ∀ i, i < N → B 16 18 i = nI (pc s len i) ∧ B 16 19 i = nI (s (pc s len i)) ∧ tld s B i (s (pc s len i)) (pc s len i + 1)) ∧ (¬ (0 < N ∧ pc s len N = len) → f_X6_village M1 = some ((-1000) - nI (sc s len (pc s len N)).1, B)) := by
  obtain ⟨B0, hB0⟩ : ∃ B0, B0 = ju (ju (ju (ju M1 16 11 0 0) 16 15 0 0) 16 16 0 0) 16 17 0 0 := ⟨_, rfl⟩
  have bf : ∀ f, f ≠ 11 → f ≠ 15 → f ≠ 16 → f ≠ 17 → B0 16 f = M1 16 f := fun f q1 q2 q3 q4 => by rw [hB0, ju_f q4, ju_f q3, ju_f q2, ju_f q1]
  have bo : ∀ o, o ≠ 16 → B0 o = M1 o := fun o q => by rw [hB0, ju_ne q, ju_ne q, ju_ne q, ju_ne q]
  have hH : Hd s len B0 B0 0 0 := ⟨by rw [hB0, ju_g (by omega), ju_g (by omega), ju_self]; rfl, by rw [hB0, ju_g (by omega), ju_self]; rfl, by rw [hB0, ju_self]; rfl, Nat.zero_le _, fun _ _ => rfl, fun _ _ => rfl, by rw [bf 14 (by omega) (by omega) (by omega) (by omega)]; exact h14, fun i hi => by rw [bf 13 (by omega) (by omega) (by omega) (by omega)]; exact h13 i hi, fun j hj => absurd hj (Nat.not_lt_zero j)⟩
  obtain ⟨B1, r1, r2⟩ := m_readAll hH hl hs h32 hN
  have ev : f_X6_village M1 = f_X6_village_l20 (10000 - N) B1 := by
    unfold f_X6_village
    rw [← hB0, r1]
  have kp14 : ∀ (X : jm), (∀ f, (f < 15 ∨ 20 < f) → X 16 f = B0 16 f) → ∀ f, kp f → ju X 16 14 0 (nI 0) 16 f = ju M1 16 14 0 (nI 0) 16 f := by
    intro X hX f hf
    refine ju_fc ?_
    unfold kp at hf
    rw [hX f (by omega), bf f (by omega) (by omega) (by omega) (by omega)]
  have rm0 : ∀ (X : jm), (∀ f, (f < 15 ∨ 20 < f) → X 16 f = B0 16 f) → RM (ju X 16 14 0 (nI 0) 16) σ := by
    intro X hX
    refine RM_fe (fun f hf => ?_) hR
    rw [ju_f (by omega), hX f (by omega), bf f (by omega) (by omega) (by omega) (by omega)]
  rcases hcase with ⟨c1, c2⟩ | ⟨c1, c2⟩
  · have e14 : B1 16 14 0 = nI len := by rw [r2.2.2.2.2.2.1 14 (by omega)]; exact r2.2.2.2.2.2.2.1
    obtain ⟨B2, t1, t2, t3, t4⟩ := m_think (M := ju B1 16 14 0 (nI 0)) (rm0 B1 r2.2.2.2.2.2.1)
    have g : ∀ f, 11 < f → f ≠ 14 → f ≠ 21 → f ≠ 24 → f ≠ 25 → f ≠ 26 → B2 16 f = B1 16 f := fun f q1 q2 q3 q4 q5 q6 => by rw [t4.2 f q1 q3 q4 q5 q6, ju_f q2]
    refine ⟨B2, fun o ho => by rw [t4.1 o ho, ju_ne ho, r2.2.2.2.2.1 o ho, bo o ho], t2, fun f hf => ?_, fun _ => ⟨?_, t3, ?_, fun i hi => ?_⟩, fun z => absurd ⟨c1, c2⟩ z⟩
    · have h := kp14 B1 r2.2.2.2.2.2.1 f hf
      unfold kp at hf
      rw [t4.2 f (by omega) (by omega) (by omega) (by omega) (by omega), h]
    · have e16 : ju B1 16 14 0 0 16 16 0 = 0 := by rw [ju_g (by omega), r2.2.1]; rfl
      rw [ev, show 10000 - N = (9999 - N) + 1 by omega, f_X6_village_l20, r2.2.1, if_pos (show (nI 0 : Int32) = 0 from rfl), r2.2.2.1, if_neg (by rw [show (0 : Int32) = nI 0 from rfl, q_eq (by omega) (by omega)]; omega), e14, r2.1, c2, if_pos ((q_le (by omega) (by omega)).mpr (Nat.le_refl _))]
      unfold f_X6_village_j52
      rw [if_pos e16, show (0 : Int32) = nI 0 from rfl, t1, q_jb]
    · rw [g 17 (by omega) (by omega) (by omega) (by omega) (by omega) (by omega)]; exact r2.2.2.1
    · obtain ⟨y1, y2, y3⟩ := r2.2.2.2.2.2.2.2.2 i hi
      exact ⟨by rw [g 18 (by omega) (by omega) (by omega) (by omega) (by omega) (by omega)]; exact y1, by rw [g 19 (by omega) (by omega) (by omega) (by omega) (by omega) (by omega)]; exact y2, tld_congr (fun q _ => by rw [g 20 (by omega) (by omega) (by omega) (by omega) (by omega) (by omega)]) y3⟩
  · obtain ⟨B2, s1, s2, s3, s4, s5, -⟩ := m_readSt r2 hl hs (by omega)
    have e14 : B1 16 14 0 = nI len := by rw [r2.2.2.2.2.2.1 14 (by omega)]; exact r2.2.2.2.2.2.2.1
    have hst : f_X6_village_l20 (10000 - N) B1 = f_X6_village_l20 (9999 - N) B2 := by
      rw [show 10000 - N = (9999 - N) + 1 by omega, f_X6_village_l20, r2.2.1, if_pos (show (nI 0 : Int32) = 0 from rfl), r2.2.2.1]
      by_cases z : N = 0
      · rw [if_pos (by rw [z]; rfl), s1, q_jb]
      · rw [if_neg (by rw [show (0 : Int32) = nI 0 from rfl, q_eq (by omega) (by omega)]; exact z), e14, r2.1, if_neg (by rw [q_le (by omega) (by omega)]; omega), s1, q_jb]
    rw [c2] at s3
    have e16 : ¬ ju B2 16 14 0 0 16 16 0 = 0 := by rw [ju_g (by omega), s3]; decide
    refine ⟨ju B2 16 14 0 (nI 0), fun o ho => by rw [ju_ne ho, s4 o ho, bo o ho], rm0 B2 s5, fun f hf => kp14 B2 s5 f hf, fun z => absurd z c1, fun _ => ?_⟩
    rw [ev, hst, show 9999 - N = (9998 - N) + 1 by omega, f_X6_village_l20, s3, if_neg (by decide)]
    unfold f_X6_village_j52
    rw [if_neg e16, ju_g (by omega), s2]; rfl
end Vt
