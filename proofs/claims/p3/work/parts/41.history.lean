/-! what was before: keeping and taking back -/
theorem nx_next : ∀ x, x < 8 → (nI x + 1) - (nI x + 1) / 8 * 8 = nI ((x + 1) % 8) := by decide
theorem nx_prev : ∀ x, x < 8 → ((nI x + 8) - 1) - ((nI x + 8) - 1) / 8 * 8 = nI ((x + 7) % 8) := by decide
theorem sz_next : ∀ x, x < 9 → (if nI x + 1 < 8 then nI x + 1 else 8) = nI (min 8 (x + 1)) := by decide
section Hi
variable {M M' : jm} {S : St} {τ : vl}
theorem push_hs (i : Nat) : shs (push S) i = if i = 0 then sv S else shs S (i - 1) := by
  unfold shs push sv
  by_cases e : i = 0
  · subst e; rfl
  · show (if 2 + i = 0 then S.1 0 else if 2 + i = 1 then S.1 1 else if 2 + i = 2 then S.1 0 else S.1 (2 + i - 1)) = _
    rw [if_neg (by omega), if_neg (by omega), if_neg (by omega), if_neg e, show 2 + i - 1 = 2 + (i - 1) by omega]
theorem pop_hs (i : Nat) : shs (pop S) i = shs S (i + 1) := by
  unfold shs pop
  show (if 2 + i = 0 then S.1 2 else if 2 + i = 1 then S.1 1 else S.1 (2 + i + 1)) = _
  rw [if_neg (by omega), if_neg (by omega), show 2 + i + 1 = 2 + (i + 1) by omega]
theorem p_keep (hw : wS S) (hJ : JC M S) : ∃ M', f_X0_keep M 1 = some M' ∧ JC M' (push S) ∧ M' 1 = M 1 ∧ M' 16 = M 16 := by
  have h8 := hw.2.1
  obtain ⟨j1, j2, ⟨nx, n1, n2, n3⟩, j4, j5, j6, j7, j8, j9, j10⟩ := hJ
  obtain ⟨A, a1, a2, a3⟩ := p_becomeRW (M := M) (o := 4 + nx) (o1 := 1) (σ := sv S) (by omega) j1
  have e121 : A 12 1 0 = nI nx := by rw [a2 12 (by omega)]; exact n2
  have e122 : A 12 2 0 = nI (shn S) := by rw [a2 12 (by omega)]; exact j2
  refine ⟨ju (ju A 12 1 0 (nI ((nx + 1) % 8))) 12 2 0 (nI (min 8 (shn S + 1))), ?_, ?_, ?_, ?_⟩
  · unfold f_X0_keep
    rw [n2, q_gd n1 (by omega), q_cl (by omega), a1, q_jb, e121, nx_next nx n1, ju_g (show (2 : Nat) ≠ 1 by omega), e122, sz_next _ (by omega)]
  · have eo : ∀ o, o ≠ 12 → ju (ju A 12 1 0 (nI ((nx + 1) % 8))) 12 2 0 (nI (min 8 (shn S + 1))) o = A o := fun o ho => by rw [ju_ne ho, ju_ne ho]
    refine ⟨by rw [eo 1 (by omega), a2 1 (by omega)]; exact j1, by rw [ju_self]; rfl, ⟨(nx + 1) % 8, by omega, by rw [ju_g (by omega), ju_self], fun i hi => ?_⟩, by rw [eo 0 (by omega), a2 0 (by omega)]; exact j4, fun q => by rw [eo 3 (by omega), a2 3 (by omega)]; exact j5 q, by rw [eo 13 (by omega), a2 13 (by omega)]; exact j6, fun i hi => by rw [eo 13 (by omega), a2 13 (by omega)]; exact j7 i hi, by rw [eo 0 (by omega), a2 0 (by omega)]; exact j8, fun i hi => by rw [eo 0 (by omega), a2 0 (by omega)]; exact j9 i hi, fun i hi => by rw [eo 0 (by omega), a2 0 (by omega)]; exact j10 i hi⟩
    have hi' : i < min 8 (shn S + 1) := hi
    rw [eo _ (by omega), push_hs]
    by_cases e : i = 0
    · rw [if_pos e, show 4 + ((nx + 1) % 8 + 7 - i) % 8 = 4 + nx by omega]; exact a3
    · rw [if_neg e, show 4 + ((nx + 1) % 8 + 7 - i) % 8 = 4 + (nx + 7 - (i - 1)) % 8 by omega, a2 _ (by omega)]
      exact n3 (i - 1) (by omega)
  · rw [ju_ne (by omega), ju_ne (by omega), a2 1 (by omega)]
  · rw [ju_ne (by omega), ju_ne (by omega), a2 16 (by omega)]
theorem p_takeBack (hw : wS S) (hJ : JC M S) (h0 : 0 < shn S) : ∃ M', f_X0_takeBack M 1 = some M' ∧ JC M' (pop S) ∧ M' 16 = M 16 ∧ M' 12 2 0 = nI (shn S - 1) := by
  have h8 := hw.2.1
  obtain ⟨j1, j2, ⟨nx, n1, n2, n3⟩, j4, j5, j6, j7, j8, j9, j10⟩ := hJ
  have hR := n3 0 h0
  rw [Nat.sub_zero] at hR
  have es : nI (shn S) - 1 = nI (shn S - 1) := pk_sub (a := shn S) (b := 1) (by omega)
  obtain ⟨A, a1, a2, a3⟩ := p_becomeRW (M := ju (ju M 12 1 0 (nI ((nx + 7) % 8))) 12 2 0 (nI (shn S - 1))) (o := 1) (o1 := 4 + (nx + 7) % 8) (σ := shs S 0) (by omega) (by rw [ju_ne (by omega), ju_ne (by omega)]; exact hR)
  have eo : ∀ o, o ≠ 1 → o ≠ 12 → A o = M o := fun o h1 h2 => by rw [a2 o h1, ju_ne h2, ju_ne h2]
  refine ⟨A, ?_, ⟨?_, ?_, ⟨(nx + 7) % 8, by omega, ?_, fun i hi => ?_⟩, ?_, fun q => ?_, ?_, fun i hi => ?_, ?_, fun i hi => ?_, fun i hi => ?_⟩, ?_, ?_⟩
  · unfold f_X0_takeBack
    rw [j2, if_neg (show ¬ nI (shn S) = (0 : Int32) by rw [show (0 : Int32) = nI 0 from rfl, q_eq (by omega) (by omega)]; omega), n2, nx_prev nx n1, ju_g (show (2 : Nat) ≠ 1 by omega), j2, es, ju_g (show (1 : Nat) ≠ 2 by omega), ju_self, q_gd (by omega) (by omega), q_cl (by omega), a1, q_jb]
  · exact a3
  · rw [a2 12 (by omega), ju_self]; rfl
  · rw [a2 12 (by omega), ju_g (by omega), ju_self]
  · have hi' : i < shn S - 1 := hi
    rw [eo _ (by omega) (by omega), pop_hs, show 4 + ((nx + 7) % 8 + 7 - i) % 8 = 4 + (nx + 7 - (i + 1)) % 8 by omega]
    exact n3 (i + 1) (by omega)
  · rw [eo 0 (by omega) (by omega)]; exact j4
  · rw [eo 3 (by omega) (by omega)]; exact j5 q
  · rw [eo 13 (by omega) (by omega)]; exact j6
  · rw [eo 13 (by omega) (by omega)]; exact j7 i hi
  · rw [eo 0 (by omega) (by omega)]; exact j8
  · rw [eo 0 (by omega) (by omega)]; exact j9 i hi
  · rw [eo 0 (by omega) (by omega)]; exact j10 i hi
  · exact eo 16 (by omega) (by omega)
  · rw [a2 12 (by omega), ju_self]
-- the reference's
theorem m_kt61 {N : jm} {t : Nat} (ht : t < 8) (h29 : N 16 29 0 = nI t) : ∃ M', f_X6_keepTurn_l61 10000 N 0 = some M' ∧ (∀ o, o ≠ 16 → M' o = N o) ∧ (∀ f, f ≠ 27 → f ≠ 29 → M' 16 f = N 16 f) ∧ M' 16 29 0 = nI (t + 1) ∧ (∀ q, q < 728 → M' 16 27 q = if 91 * t ≤ q ∧ q < 91 * t + 91 then N 16 28 (q - 91 * t) else N 16 27 q) := by
  refine loopE (L := fun k (M : jm) i => f_X6_keepTurn_l61 k M i) (P := fun i M => (∀ o, o ≠ 16 → M o = N o) ∧ (∀ f, f ≠ 27 → M 16 f = N 16 f) ∧ (∀ q, q < 728 → M 16 27 q = if 91 * t ≤ q ∧ q < 91 * t + i then N 16 28 (q - 91 * t) else N 16 27 q)) (Z := fun r => ∃ M', r = some M' ∧ (∀ o, o ≠ 16 → M' o = N o) ∧ (∀ f, f ≠ 27 → f ≠ 29 → M' 16 f = N 16 f) ∧ M' 16 29 0 = nI (t + 1) ∧ (∀ q, q < 728 → M' 16 27 q = if 91 * t ≤ q ∧ q < 91 * t + 91 then N 16 28 (q - 91 * t) else N 16 27 q)) (n := 91) ?_ ?_ 91 0 10000 N (by omega) (by omega) ⟨fun _ _ => rfl, fun _ _ => rfl, fun q _ => by rw [if_neg (by omega)]⟩
  · rintro k M i hi ⟨h1, h2, h3⟩
    have ei : 91 * nI t + nI i = nI (91 * t + i) := by rw [show (91 : Int32) = nI 91 from rfl, pk_mul, nI_add]
    refine ⟨ju M 16 27 (91 * t + i) (N 16 28 i), ?_, fun o ho => by rw [ju_ne ho, h1 o ho], fun f hf => by rw [ju_f hf, h2 f hf], fun q hq => ?_⟩
    · simp only [f_X6_keepTurn_l61]
      rw [if_neg (by rw [show (91 : Int32) = nI 91 from rfl, q_le (by omega) (by omega)]; omega), h2 29 (by omega), h29, ei, q_gd (by omega) (by omega), q_gd (by omega) (by omega), q_cl (by omega), q_cl (by omega), h2 28 (by omega), show nI i + 1 = nI (i + 1) from nI_add i 1]
    · rw [ju_o]
      by_cases e : q = 91 * t + i
      · rw [if_pos ⟨rfl, e⟩, if_pos (by omega), show q - 91 * t = i by omega]
      · rw [if_neg (fun z => e z.2), h3 q hq]
        by_cases e2 : 91 * t ≤ q ∧ q < 91 * t + i
        · rw [if_pos e2, if_pos (by omega)]
        · rw [if_neg e2, if_neg (by omega)]
  · rintro k M ⟨h1, h2, h3⟩
    simp only [f_X6_keepTurn_l61]
    rw [if_pos (by rw [show (91 : Int32) = nI 91 from rfl, q_le (by omega) (by omega)]; omega)]
    refine ⟨_, rfl, fun o ho => by rw [ju_ne ho, h1 o ho], fun f hf hf2 => by rw [ju_f hf2, h2 f hf], ?_, fun q hq => by rw [ju_g (by omega), h3 q hq]⟩
    rw [ju_self, h2 29 (by omega), h29]; exact nI_add t 1
theorem m_kt50 {N : jm} {σ : vl} {t : Nat} (ht : t < 8) (hR : RM (N 16) σ) (h29 : N 16 29 0 = nI t) : ∃ M', f_X6_keepTurn_j50 N = some M' ∧ (∀ o, o ≠ 16 → M' o = N o) ∧ RM (M' 16) σ ∧ (∀ f, f ≠ 24 → f ≠ 25 → f ≠ 26 → f ≠ 27 → f ≠ 28 → f ≠ 29 → M' 16 f = N 16 f) ∧ M' 16 29 0 = nI (t + 1) ∧ KM (fun k => M' 16 27 (91 * t + k)) σ ∧ (∀ s, s < 8 → s ≠ t → ∀ k, k < 91 → M' 16 27 (91 * s + k) = N 16 27 (91 * s + k)) := by
  obtain ⟨B, b1, b2, b3, b4⟩ := carry_take (M := N) (f1 := 28) (by omega)
  obtain ⟨C, c1, c2, c3, c4, c5⟩ := m_kt61 (N := B) ht (by rw [b3 29 (by omega) (by omega) (by omega) (by omega)]; exact h29)
  have rc : RM (C 16) σ := RM_fe (fun f hf => by rw [c3 f (by omega) (by omega), b3 f (by omega) (by omega) (by omega) (by omega)]) hR
  refine ⟨C, ?_, fun o ho => by rw [c2 o ho, b2 o ho], rc, fun f q1 q2 q3 q4 q5 q6 => by rw [c3 f q4 q6, b3 f q5 q1 q2 q3], c4, ⟨N 16, fun q hq => ?_, hR⟩, fun s hs h1 k hk => ?_⟩
  · unfold f_X6_keepTurn_j50
    rw [b1, q_jb]; exact c1
  · show C 16 27 (91 * t + q) = _
    rw [c5 _ (by omega), if_pos (by omega), show 91 * t + q - 91 * t = q by omega, b4 q hq]
  · rw [c5 _ (by omega), if_neg (by omega), b3 27 (by omega) (by omega) (by omega) (by omega)]
theorem m_kt12 {N : jm} (h29 : N 16 29 0 = nI 8) : ∃ N', f_X6_keepTurn_l12 10000 N 91 = f_X6_keepTurn_j50 N' ∧ (∀ o, o ≠ 16 → N' o = N o) ∧ (∀ f, f ≠ 27 → f ≠ 29 → N' 16 f = N 16 f) ∧ N' 16 29 0 = nI 7 ∧ (∀ q, q < 637 → N' 16 27 q = N 16 27 (q + 91)) := by
  refine loopE (L := fun k (M : jm) i => f_X6_keepTurn_l12 k M i) (P := fun i M => 91 ≤ i ∧ (∀ o, o ≠ 16 → M o = N o) ∧ (∀ f, f ≠ 27 → M 16 f = N 16 f) ∧ (∀ q, q < 728 → M 16 27 q = if q + 91 < i then N 16 27 (q + 91) else N 16 27 q)) (Z := fun r => ∃ N', r = f_X6_keepTurn_j50 N' ∧ (∀ o, o ≠ 16 → N' o = N o) ∧ (∀ f, f ≠ 27 → f ≠ 29 → N' 16 f = N 16 f) ∧ N' 16 29 0 = nI 7 ∧ (∀ q, q < 637 → N' 16 27 q = N 16 27 (q + 91))) (n := 728) ?_ ?_ 637 91 10000 N (by omega) (by omega) ⟨Nat.le_refl _, fun _ _ => rfl, fun _ _ => rfl, fun q _ => by rw [if_neg (by omega)]⟩
  · rintro k M i hi ⟨hi2, h1, h2, h3⟩
    have es : nI i - 91 = nI (i - 91) := pk_sub (a := i) (b := 91) hi2
    refine ⟨ju M 16 27 (i - 91) (N 16 27 i), ?_, by omega, fun o ho => by rw [ju_ne ho, h1 o ho], fun f hf => by rw [ju_f hf, h2 f hf], fun q hq => ?_⟩
    · simp only [f_X6_keepTurn_l12]
      rw [if_neg (by rw [show (728 : Int32) = nI 728 from rfl, q_le (by omega) (by omega)]; omega), es, q_gd (by omega) (by omega), q_gd (by omega) (by omega), q_cl (by omega), q_cl (by omega), h3 i hi, if_neg (by omega), show nI i + 1 = nI (i + 1) from nI_add i 1]
    · rw [ju_o]
      by_cases e : q = i - 91
      · rw [if_pos ⟨rfl, e⟩, if_pos (by omega), show q + 91 = i by omega]
      · rw [if_neg (fun z => e z.2), h3 q hq]
        by_cases e2 : q + 91 < i
        · rw [if_pos e2, if_pos (by omega)]
        · rw [if_neg e2, if_neg (by omega)]
  · rintro k M ⟨_, h1, h2, h3⟩
    simp only [f_X6_keepTurn_l12]
    rw [if_pos (by rw [show (728 : Int32) = nI 728 from rfl, q_le (by omega) (by omega)]; omega)]
    refine ⟨_, rfl, fun o ho => by rw [ju_ne ho, h1 o ho], fun f hf hf2 => by rw [ju_f hf2, h2 f hf], ?_, fun q hq => by rw [ju_g (by omega), h3 q (by omega), if_pos (by omega)]⟩
    rw [ju_self, h2 29 (by omega), h29]; rfl
theorem m_keepTurn (hw : wS S) (hJ : JR M S) : ∃ M', f_X6_keepTurn M = some M' ∧ JR M' (push S) ∧ (∀ o, o ≠ 16 → M' o = M o) := by
  have h8 := hw.2.1
  have key : ∀ N t, t < 8 → min 8 (shn S + 1) = t + 1 → f_X6_keepTurn M = f_X6_keepTurn_j50 N → (∀ o, o ≠ 16 → N o = M o) → (∀ f, f ≠ 27 → f ≠ 29 → N 16 f = M 16 f) → N 16 29 0 = nI t → (∀ i, i < t → KM (fun k => N 16 27 (91 * (t - 1 - i) + k)) (shs S i)) → ∃ M', f_X6_keepTurn M = some M' ∧ JR M' (push S) ∧ (∀ o, o ≠ 16 → M' o = M o) := by
    intro N t ht hm e0 n1 n2 n3 n4
    obtain ⟨j1, j2, j3, j4, j5, j6, j7, j8, j9, j10⟩ := hJ
    obtain ⟨C, c1, c2, c3, c4, c5, c6, c7⟩ := m_kt50 (N := N) (σ := sv S) ht (RM_fe (fun f hf => n2 f (by omega) (by omega)) j1) n3
    have h : ∀ f, f ≠ 24 → f ≠ 25 → f ≠ 26 → f ≠ 27 → f ≠ 28 → f ≠ 29 → C 16 f = M 16 f := fun f q1 q2 q3 q4 q5 q6 => by rw [c4 f q1 q2 q3 q4 q5 q6, n2 f q4 q6]
    refine ⟨C, by rw [e0, c1], ⟨c3, ?_, fun i hi => ?_, by rw [h 23 (by omega) (by omega) (by omega) (by omega) (by omega) (by omega)]; exact j4, fun q => by rw [h 22 (by omega) (by omega) (by omega) (by omega) (by omega) (by omega)]; exact j5 q, by rw [h 14 (by omega) (by omega) (by omega) (by omega) (by omega) (by omega)]; exact j6, fun i hi => by rw [h 13 (by omega) (by omega) (by omega) (by omega) (by omega) (by omega)]; exact j7 i hi, by rw [h 36 (by omega) (by omega) (by omega) (by omega) (by omega) (by omega)]; exact j8, fun i hi => by rw [h 35 (by omega) (by omega) (by omega) (by omega) (by omega) (by omega)]; exact j9 i hi, fun i hi => by rw [h 12 (by omega) (by omega) (by omega) (by omega) (by omega) (by omega)]; exact j10 i hi⟩, fun o ho => by rw [c2 o ho, n1 o ho]⟩
    · rw [c5]; show _ = nI (min 8 (shn S + 1)); rw [hm]
    · have eh : shn (push S) = min 8 (shn S + 1) := rfl
      rw [eh, hm] at hi ⊢
      rw [push_hs]
      by_cases e : i = 0
      · rw [if_pos e, show t + 1 - 1 - i = t by omega]; exact c6
      · rw [if_neg e]
        refine KM_ext (fun q hq => ?_) (n4 (i - 1) (by omega))
        show C 16 27 (91 * (t + 1 - 1 - i) + q) = _
        rw [c7 _ (by omega) (by omega) q hq, show t + 1 - 1 - i = t - 1 - (i - 1) by omega]
  by_cases e : shn S = 8
  · obtain ⟨N', m1, m2, m3, m4, m5⟩ := m_kt12 (N := M) (by rw [hJ.2.1, e])
    refine key N' 7 (by omega) (by omega) ?_ m2 m3 m4 (fun i hi => ?_)
    · unfold f_X6_keepTurn
      rw [if_pos (by rw [hJ.2.1, e]; rfl)]; exact m1
    · refine KM_ext (fun q hq => ?_) (hJ.2.2.1 i (by omega))
      show N' 16 27 (91 * (7 - 1 - i) + q) = M 16 27 (91 * (shn S - 1 - i) + q)
      rw [m5 _ (by omega), show 91 * (7 - 1 - i) + q + 91 = 91 * (shn S - 1 - i) + q by omega]
  · refine key M (shn S) (by omega) (by omega) ?_ (fun _ _ => rfl) (fun _ _ _ => rfl) hJ.2.1 hJ.2.2.1
    unfold f_X6_keepTurn
    rw [if_neg (by rw [hJ.2.1, show (8 : Int32) = nI 8 from rfl, q_eq (by omega) (by omega)]; exact e)]
theorem wS_push (hw : wS S) : wS (push S) := by
  obtain ⟨w1, w2, w3, w4⟩ := hw
  refine ⟨w1, by show min 8 (shn S + 1) ≤ 8; omega, fun i hi => ?_, w4⟩
  have hi' : i < min 8 (shn S + 1) := hi
  rw [push_hs]
  by_cases e : i = 0
  · rw [if_pos e]; exact w1
  · rw [if_neg e]; exact w3 (i - 1) (by omega)
theorem wS_pop (hw : wS S) (h0 : 0 < shn S) : wS (pop S) := by
  obtain ⟨w1, w2, w3, w4⟩ := hw
  refine ⟨w3 0 h0, by show shn S - 1 ≤ 8; omega, fun i hi => ?_, w4⟩
  have hi' : i < shn S - 1 := hi
  rw [pop_hs]
  exact w3 (i + 1) (by omega)
theorem m_back (hw : wS S) (hJ : JR M S) (h0 : 0 < shn S) : ∃ M', f_X6_back M = some (nI (shn S - 1), M') ∧ JR M' (pop S) ∧ (∀ o, o ≠ 16 → M' o = M o) := by
  have h8 := hw.2.1
  have jr1 := JR_ct (M := M) rfl hJ
  unfold f_X6_back
  have es : nI (shn S) - 1 = nI (shn S - 1) := pk_sub (a := shn S) (b := 1) (by omega)
  rw [jr1.2.1, if_neg (show ¬ nI (shn S) = (0 : Int32) by rw [show (0 : Int32) = nI 0 from rfl, q_eq (by omega) (by omega)]; omega), es]
  generalize hN : ju (ju M 16 11 0 0) 16 29 0 (nI (shn S - 1)) = N
  have n1 : ∀ o, o ≠ 16 → N o = M o := fun o ho => by rw [← hN, ju_ne ho, ju_ne ho]
  have n2 : ∀ f, f ≠ 11 → f ≠ 29 → N 16 f = M 16 f := fun f q1 q2 => by rw [← hN, ju_f q2, ju_f q1]
  have n3 : N 16 29 0 = nI (shn S - 1) := by rw [← hN, ju_self]
  refine loopE (L := fun k (M : jm) i => f_X6_back_l31 k M i) (P := fun i A => (∀ o, o ≠ 16 → A o = N o) ∧ (∀ f, f ≠ 28 → A 16 f = N 16 f) ∧ (∀ q, q < i → A 16 28 q = N 16 27 (91 * (shn S - 1) + q))) (Z := fun r => ∃ M', r = some (nI (shn S - 1), M') ∧ JR M' (pop S) ∧ (∀ o, o ≠ 16 → M' o = M o)) (n := 91) ?_ ?_ 91 0 10000 N (by omega) (by omega) ⟨fun _ _ => rfl, fun _ _ => rfl, fun q hq => by omega⟩
  · rintro k A i hi ⟨h1, h2, h3⟩
    have ei : 91 * nI (shn S - 1) + nI i = nI (91 * (shn S - 1) + i) := by rw [show (91 : Int32) = nI 91 from rfl, pk_mul, nI_add]
    refine ⟨ju A 16 28 i (N 16 27 (91 * (shn S - 1) + i)), ?_, fun o ho => by rw [ju_ne ho, h1 o ho], fun f hf => by rw [ju_f hf, h2 f hf], fun q hq => ?_⟩
    · simp only [f_X6_back_l31]
      rw [if_neg (by rw [show (91 : Int32) = nI 91 from rfl, q_le (by omega) (by omega)]; omega), h2 29 (by omega), n3, ei, q_gd (by omega) (by omega), q_gd (by omega) (by omega), q_cl (by omega), q_cl (by omega), h2 27 (by omega), show nI i + 1 = nI (i + 1) from nI_add i 1]
    · rw [ju_o]
      by_cases e : q = i
      · rw [if_pos ⟨rfl, e⟩, e]
      · rw [if_neg (fun z => e z.2), h3 q (by omega)]
  · rintro k A ⟨h1, h2, h3⟩
    simp only [f_X6_back_l31]
    rw [if_pos (by rw [show (91 : Int32) = nI 91 from rfl, q_le (by omega) (by omega)]; omega)]
    obtain ⟨B, b1, b2, b3, b4⟩ := carry_back (M := A) (f1 := 28) (by omega)
    have hf0 := hw.2.2.1 0 h0
    have hK := hJ.2.2.1 0 h0
    rw [Nat.sub_zero] at hK
    obtain ⟨G, g1, g2⟩ := hK
    have rB : RM (B 16) (shs S 0) := RM_cext (wg_of hf0) (fun q hq => by rw [b4 q hq, h3 q hq, n2 27 (by omega) (by omega)]; exact g1 q hq) g2
    have hB : ∀ f, 11 < f → f ≠ 24 → f ≠ 25 → f ≠ 26 → f ≠ 28 → f ≠ 29 → B 16 f = M 16 f := fun f q1 q2 q3 q4 q5 q6 => by rw [b3 f (by omega) q2 q3 q4, h2 f q5, n2 f (by omega) q6]
    have h29 : B 16 29 0 = nI (shn S - 1) := by rw [b3 29 (by omega) (by omega) (by omega) (by omega), h2 29 (by omega), n3]
    obtain ⟨j1, j2, j3, j4, j5, j6, j7, j8, j9, j10⟩ := hJ
    refine ⟨B, by rw [b1, q_jb, h29], ⟨rB, h29, fun i hi => ?_, by rw [hB 23 (by omega) (by omega) (by omega) (by omega) (by omega) (by omega)]; exact j4, fun q => by rw [hB 22 (by omega) (by omega) (by omega) (by omega) (by omega) (by omega)]; exact j5 q, by rw [hB 14 (by omega) (by omega) (by omega) (by omega) (by omega) (by omega)]; exact j6, fun i hi => by rw [hB 13 (by omega) (by omega) (by omega) (by omega) (by omega) (by omega)]; exact j7 i hi, by rw [hB 36 (by omega) (by omega) (by omega) (by omega) (by omega) (by omega)]; exact j8, fun i hi => by rw [hB 35 (by omega) (by omega) (by omega) (by omega) (by omega) (by omega)]; exact j9 i hi, fun i hi => by rw [hB 12 (by omega) (by omega) (by omega) (by omega) (by omega) (by omega)]; exact j10 i hi⟩, fun o ho => by rw [b2 o ho, h1 o ho, n1 o ho]⟩
    have eh : shn (pop S) = shn S - 1 := rfl
    rw [eh] at hi ⊢
    rw [pop_hs, hB 27 (by omega) (by omega) (by omega) (by omega) (by omega) (by omega), show shn S - 1 - 1 - i = shn S - 1 - (i + 1) by omega]
    exact j3 (i + 1) (by omega)
theorem ok_back (hJ : JJ M S) : OK (f_X5_back M) (fun M1 => f_X6_back M1) := by
  have hJ' := hJ
  obtain ⟨jc, jr, jw⟩ := hJ
  have h8 := jw.2.1
  by_cases z : 0 < shn S
  · obtain ⟨A, a1, a2, a3, a4⟩ := p_takeBack jw jc z
    obtain ⟨B, b1, b2, b3⟩ := m_back (M := A) jw (JR_fr a3 jr) z
    refine ⟨nI (shn S - 1), A, B, pop S, ?_, b1, JC_16 b3 a2, b2, wS_pop jw z⟩
    unfold f_X5_back
    rw [if_neg (show ¬ M 12 2 0 = (0 : Int32) by rw [jc.2.1, show (0 : Int32) = nI 0 from rfl, q_eq (by omega) (by omega)]; omega), a1, q_jb, a4]
  · have hi : shn S = 0 := by omega
    refine OK_ref (k := 3) (by omega) hJ' ?_ (fun M1 e16 _ => ?_)
    · unfold f_X5_back
      rw [if_pos (by rw [jc.2.1, hi]; rfl)]; rfl
    · simp only [f_X6_back]
      rw [if_pos (show ju M1 16 11 0 0 16 29 0 = 0 by rw [(JR_ct e16 jr).2.1, hi]; rfl)]; rfl
end Hi
