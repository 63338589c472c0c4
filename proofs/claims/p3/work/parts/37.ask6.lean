/-! home, owed, moved -/
theorem p_becomeRW {M : jm} {o o1 : Nat} {σ : vl} (h : o1 ≠ o) (hR : RW (M o1) σ) : ∃ M', f_X4_become M o o1 = some M' ∧ (∀ o', o' ≠ o → M' o' = M o') ∧ RW (M' o) σ := by
  obtain ⟨M', e, h1, h2, h3⟩ := p_become (M := M) (o := o) h
  exact ⟨M', e, h1, RW_of h2 h3 hR⟩
theorem pl_stp {σ : vl} {N w : Nat} (hb : wb σ N) (hw : w < vW σ) : ∀ n, stp (pl σ w n) (σ 7 w) = stp (σ 6 w) (σ 7 w) - n
  | 0 => rfl
  | n + 1 => by
    show stp (twd (pl σ w n) (σ 7 w)) (σ 7 w) = _
    rw [twd_stp _ (pl_lt hb hw n) _ (hb.2.2.2.1 w hw).2.1, pl_stp hb hw n]; omega
theorem pl_goal {σ : vl} {N w : Nat} (hb : wb σ N) (hw : w < vW σ) (n : Nat) : pl σ w n = σ 7 w ↔ stp (σ 6 w) (σ 7 w) ≤ n := by
  rw [← stp_0 _ (pl_lt hb hw n) _ (hb.2.2.2.1 w hw).2.1, pl_stp hb hw n]; omega
theorem fs_at {σ : vl} {w h s : Nat} (hs : s ≠ 0) : ∀ n, fs σ w h n = s → fs σ w h s = s
  | 0, e => by
    have : fs σ w h 0 = 0 := rfl
    omega
  | n + 1, e => by
    by_cases z : fs σ w h n = 0
    · have e' := e
      unfold fs at e'
      rw [if_neg (by omega)] at e'
      split at e'
      · rw [← e']; rw [e'] at e ⊢; exact e' ▸ e
      · omega
    · have := fs_mono z 1
      exact fs_at hs n (by rw [← this]; exact e)
section Asks
variable {M : jm} {S : St} {σ : vl}
theorem mq_home (hR : RM (M 16) σ) (hf : wg σ) {w : Nat} (hw : w < vW σ) : ∃ M2, f_X6_home M (nI w) = some (nI (stp (σ 6 w) (σ 7 w)), M2) ∧ RM (M2 16) σ ∧ frK M M2 := by
  have hH := hf.1; have hW := hf.2.1.2.1
  have hs := stp_lt _ (hf.2.1.2.2.2.1 w hw).1 _ (hf.2.1.2.2.2.1 w hw).2.1
  unfold f_X6_home
  have hc1 : RM ((ju M 16 11 0 0) 16) σ := RM_ct hR; have hc2 : frK M (ju M 16 11 0 0) := frK_ct M; generalize ju M 16 11 0 0 = N at hc1 hc2 ⊢
  obtain ⟨M1, e1, r1, k1, f1⟩ := m_think hc1
  have key : ∃ M3, f_X6_home_l28 (nI w) 10000 M1 (-9) 0 = some (nI (stp (σ 6 w) (σ 7 w)), M3) ∧ RM (M3 16) σ ∧ frT N M3 := by
    refine loopE (L := fun k (a : jm × Int32) i => f_X6_home_l28 (nI w) k a.1 a.2 i) (P := fun i a => RM (a.1 16) (evN σ i) ∧ KM (a.1 16 21) σ ∧ frT N a.1 ∧ a.2 = if i = stp (σ 6 w) (σ 7 w) + 1 then nI (stp (σ 6 w) (σ 7 w)) else -nI 9) (Z := fun r => ∃ M3, r = some (nI (stp (σ 6 w) (σ 7 w)), M3) ∧ RM (M3 16) σ ∧ frT N M3) (n := stp (σ 6 w) (σ 7 w) + 1) ?_ ?_ (stp (σ 6 w) (σ 7 w) + 1) 0 10000 (M1, -9) (by omega) (by omega) ⟨by rw [evN_0]; exact r1, k1, f1, by rw [if_neg (by omega)]; rfl⟩
    · rintro k ⟨A, v⟩ i hi ⟨p1, p2, p3, p4⟩
      simp only at p1 p2 p3 p4
      rw [if_neg (by omega)] at p4
      subst p4
      obtain ⟨g1, g2, g3⟩ := p1.2.2.2.2.1 w (by rw [evN_W]; exact hw)
      obtain ⟨A2, e2, r2, f2⟩ := m_evening p1 hf
      have hl := pl_lt hf.2.1 hw i
      have hg := (hf.2.1.2.2.2.1 w hw).2.1
      refine ⟨(A2, if pl σ w i = σ 7 w then nI i else -nI 9), ?_, r2, by show KM (A2 16 21) σ; rw [fr3_at f2 (by omega)]; exact p2, frT_trans p3 (frT_of (frA_of f2)), ?_⟩
      · simp only [f_X6_home_l28, f_X6_home_j59]
        rw [if_neg (by rw [show (60 : Int32) = nI 60 from rfl, q_lt (by omega) (by omega)]; omega), if_neg (by decide), q_gd (by omega) (by omega), q_gd (by omega) (by omega), q_cl (by omega), e2, q_jb, q_jb, show nI i + 1 = nI (i + 1) from nI_add i 1]
        by_cases z : pl σ w i = σ 7 w
        · rw [if_pos (show A 16 6 w = A 16 7 w by rw [g1, g2, evN_at hw, evN_lo σ i 7 w (by omega), z]), if_pos z]
        · rw [if_neg (show ¬ A 16 6 w = A 16 7 w by rw [g1, g2, evN_at hw, evN_lo σ i 7 w (by omega)]; exact fun q => z ((q_eq (by omega) (by omega)).mp q)), if_neg z]; rfl
      · have := pl_goal hf.2.1 hw i
        show (if pl σ w i = σ 7 w then nI i else -nI 9) = _
        by_cases z : pl σ w i = σ 7 w
        · have z2 := this.mp z
          rw [if_pos z, if_pos (by omega), show i = stp (σ 6 w) (σ 7 w) by omega]
        · rw [if_neg z, if_neg (fun q => z (this.mpr (by omega)))]
    · rintro k ⟨A, v⟩ ⟨p1, p2, p3, p4⟩
      simp only at p1 p2 p3 p4
      rw [if_pos trivial] at p4
      subst p4
      obtain ⟨A3, e3, r3, f3⟩ := m_again p2 hf
      refine ⟨A3, ?_, r3, frT_trans p3 (frT_of f3)⟩
      simp only [f_X6_home_l28]
      rw [if_neg (by rw [show (60 : Int32) = nI 60 from rfl, q_lt (by omega) (by omega)]; omega), if_pos (r_lo (by omega)), e3, q_jb]
  obtain ⟨M3, e, h1, h2⟩ := key
  refine ⟨M3, ?_, h1, frK_trans hc2 (frK_of h2)⟩
  rw [show f_X6_isWalker N (nI w) = nI 1 from by rw [m_isWalker hc1 hf, if_pos ((okv_nI (by omega) (by omega)).mpr hw)], if_neg z10]
  rw [e1, q_jb]
  exact e
theorem ok_home (hJ : JJ M S) (a : Int32) : OK (f_X5_home M a) (fun M1 => f_X6_home M1 a) := by
  obtain ⟨h0, h5, hB⟩ := J_C hJ; have hf := J_f hJ; have hH := hf.1; have hW := hf.2.1.2.1
  by_cases c1 : okv (vW (sv S)) a = true
  · obtain ⟨w, hw, rfl⟩ := okv_ex (by omega) c1
    refine OK_q hJ (M1 := M) (r := nI (stp ((sv S) 6 w) ((sv S) 7 w))) ?_ (frC_refl M) (fun hR hg => mq_home hR hg hw)
    obtain ⟨g1, g2, g3⟩ := hB.2.2.1 w hw
    unfold f_X5_home
    rw [show f_X4_hasWalker M 1 (nI w) = nI 1 from by rw [p_hasW h5, if_pos c1], if_neg z10]
    rw [q_gd (by omega) (by omega), q_gd (by omega) (by omega), q_cl (by omega), g1, g2, p_steps _ (hf.2.1.2.2.2.1 w hw).1 _ (hf.2.1.2.2.2.1 w hw).2.1]
  · refine OK_ref (k := 1) (by omega) hJ ?_ (fun M1 e16 _ => ?_)
    · unfold f_X5_home
      rw [show f_X4_hasWalker M 1 a = nI 0 from by rw [p_hasW h5, if_neg c1], if_pos z00]; rfl
    · simp only [f_X6_home]
      rw [if_pos (show f_X6_isWalker (ju M1 16 11 0 0) a = 0 from by rw [m_isWalker (J_R hJ e16) (wg_of hf), if_neg c1]; rfl)]; rfl
-- owed
theorem mq_owed (hR : RM (M 16) σ) (hf : wg σ) {w h : Nat} (hw : w < vW σ) (hh : h < vH σ) {r : Int32} {s e : Nat} (hs : (e = s + 1 ∧ s ≤ 60 ∧ dk σ w h s ≠ 0 ∧ (∀ i, i < s → dk σ w h i = 0) ∧ r = nI s) ∨ (e = 61 ∧ (∀ i, i < 61 → dk σ w h i = 0) ∧ r = -nI 9)) : ∃ M2, f_X6_owed M (nI w) (nI h) = some (r, M2) ∧ RM (M2 16) σ ∧ frK M M2 := by
  have hH := hf.1; have hW := hf.2.1.2.1
  unfold f_X6_owed
  have hc1 : RM ((ju M 16 11 0 0) 16) σ := RM_ct hR; have hc2 : frK M (ju M 16 11 0 0) := frK_ct M; generalize ju M 16 11 0 0 = N at hc1 hc2 ⊢
  obtain ⟨M1, e1, r1, k1, f1⟩ := m_think hc1
  have ei : 7 * nI w + nI h = nI (7 * w + h) := by rw [show (7 : Int32) = nI 7 from rfl, pk_mul, nI_add]
  have he : e ≤ 61 := by omega
  have he0 : 0 < e := by omega
  have key : ∃ M3, f_X6_owed_l30 (nI w) (nI h) 10000 M1 (-9) 0 = some (r, M3) ∧ RM (M3 16) σ ∧ frT N M3 := by
    refine loopE (L := fun k (a : jm × Int32) i => f_X6_owed_l30 (nI w) (nI h) k a.1 a.2 i) (P := fun i a => RM (a.1 16) (evN σ i) ∧ KM (a.1 16 21) σ ∧ frT N a.1 ∧ a.2 = if i = e then r else -nI 9) (Z := fun x => ∃ M3, x = some (r, M3) ∧ RM (M3 16) σ ∧ frT N M3) (n := e) ?_ ?_ e 0 10000 (M1, -9) (by omega) (by omega) ⟨by rw [evN_0]; exact r1, k1, f1, by rw [if_neg (by omega)]; rfl⟩
    · rintro k ⟨A, v⟩ i hi ⟨p1, p2, p3, p4⟩
      simp only at p1 p2 p3 p4
      rw [if_neg (by omega)] at p4
      subst p4
      obtain ⟨A2, e2, r2, f2⟩ := m_evening p1 hf
      have hd := dk_le (w := w) (h := h) hf.2.1 i
      refine ⟨(A2, if dk σ w h i = 0 then -nI 9 else nI i), ?_, r2, by show KM (A2 16 21) σ; rw [fr3_at f2 (by omega)]; exact p2, frT_trans p3 (frT_of (frA_of f2)), ?_⟩
      · simp only [f_X6_owed_l30, f_X6_owed_j62]
        rw [if_neg (by rw [show (60 : Int32) = nI 60 from rfl, q_lt (by omega) (by omega)]; omega), if_neg (by decide), ei, q_gd (by omega) (by omega), q_cl (by omega), e2, q_jb, q_jb, show nI i + 1 = nI (i + 1) from nI_add i 1]
        have v9 : A 16 9 (7 * w + h) = nI (dk σ w h i) := by rw [p1.2.2.2.2.2 w (by omega) h (by omega), evN_dk hw hh]
        by_cases z : dk σ w h i = 0
        · rw [if_pos (show A 16 9 (7 * w + h) ≤ 0 by rw [v9, z]; decide), if_pos z]; rfl
        · rw [if_neg (show ¬ A 16 9 (7 * w + h) ≤ 0 by rw [v9, show (0 : Int32) = nI 0 from rfl, q_pos (by omega)]; exact z), if_neg z]
      · show (if dk σ w h i = 0 then -nI 9 else nI i) = _
        rcases hs with ⟨s1, s2, s3, s4, s5⟩ | ⟨s1, s2, s3⟩
        · by_cases z : i = s
          · subst z; rw [if_neg s3, if_pos (by omega), s5]
          · rw [if_pos (s4 i (by omega)), if_neg (by omega)]
        · rw [if_pos (s2 i (by omega)), s3]
          split <;> rfl
    · rintro k ⟨A, v⟩ ⟨p1, p2, p3, p4⟩
      simp only at p1 p2 p3 p4
      rw [if_pos trivial] at p4
      subst p4
      obtain ⟨A3, e3, r3, f3⟩ := m_again p2 hf
      refine ⟨A3, ?_, r3, frT_trans p3 (frT_of f3)⟩
      simp only [f_X6_owed_l30]
      rw [e3, q_jb]
      by_cases z : e = 61
      · rw [if_pos (by rw [show (60 : Int32) = nI 60 from rfl, q_lt (by omega) (by omega)]; omega)]
      · rw [if_neg (by rw [show (60 : Int32) = nI 60 from rfl, q_lt (by omega) (by omega)]; omega)]
        rcases hs with ⟨s1, s2, s3, s4, s5⟩ | ⟨s1, s2, s3⟩
        · rw [if_pos (by rw [s5]; exact r_lo (by omega))]
        · omega
  obtain ⟨M3, x, h1, h2⟩ := key
  refine ⟨M3, ?_, h1, frK_trans hc2 (frK_of h2)⟩
  rw [m_wbOK hc1 hf hw hh, if_pos (by decide), e1, q_jb]
  exact x
theorem ok_owed (hJ : JJ M S) (a b : Int32) : OK (f_X5_owed M a b) (fun M1 => f_X6_owed M1 a b) := by
  obtain ⟨h0, h5, hB⟩ := J_C hJ; have hf := J_f hJ; have hH := hf.1; have hW := hf.2.1.2.1
  by_cases c1 : okv (vW (sv S)) a = true
  · by_cases c2 : okv (vH (sv S)) b = true
    · obtain ⟨w, hw, rfl⟩ := okv_ex (by omega) c1
      obtain ⟨h, hh, rfl⟩ := okv_ex (by omega) c2
      by_cases z : (sv S) (20 + w) h = 0
      · have hl := fs_le (sv S) w h 60
        refine OK_q hJ (M1 := M) (r := if fs (sv S) w h 60 = 0 then -nI 9 else nI (fs (sv S) w h 60)) ?_ (frC_refl M) (fun hR hg => ?_)
        · simp only [f_X5_owed, p_hasW h5, p_hasH h0, c1, c2, if_true, z10, if_false, p_owes hB hf.2.1 (show w < 6 by omega) (show h < 8 by omega), q_jb, z, z00]
          rw [show (60 : Int32) = nI 60 from rfl, p_firstSighting hB hf.2.1 hw hh (by omega), q_jb]
        · by_cases z2 : fs (sv S) w h 60 = 0
          · rw [if_pos z2]
            refine mq_owed hR hg hw hh (s := 0) (e := 61) (Or.inr ⟨rfl, fun i hi => ?_, rfl⟩)
            rw [dk_zero z, if_pos]
            by_cases z3 : fs (sv S) w h i = 0
            · exact z3
            · have := fs_mono z3 (60 - i)
              rw [show i + (60 - i) = 60 by omega] at this
              omega
          · rw [if_neg z2]
            refine mq_owed hR hg hw hh (s := fs (sv S) w h 60) (e := fs (sv S) w h 60 + 1) (Or.inl ⟨rfl, hl, ?_, fun i hi => ?_, rfl⟩)
            · rw [dk_zero z, fs_at z2 60 rfl, if_neg z2]; omega
            · rw [dk_zero z, if_pos]
              by_cases z3 : fs (sv S) w h i = 0
              · exact z3
              · have := fs_mono z3 (60 - i)
                rw [show i + (60 - i) = 60 by omega] at this
                have := fs_le (sv S) w h i
                omega
      · refine OK_q hJ (M1 := M) (r := nI 0) ?_ (frC_refl M) (fun hR hg => mq_owed hR hg hw hh (s := 0) (e := 1) (Or.inl ⟨rfl, by omega, z, fun i hi => by omega, rfl⟩))
        simp only [f_X5_owed, p_hasW h5, p_hasH h0, c1, c2, if_true, z10, if_false, p_owes hB hf.2.1 (show w < 6 by omega) (show h < 8 by omega), q_jb, z]; rfl
    · refine OK_ref (k := 1) (by omega) hJ ?_ (fun M1 e16 _ => ?_)
      · unfold f_X5_owed
        rw [show f_X4_hasWalker M 1 a = nI 1 from by rw [p_hasW h5, if_pos c1], if_neg z10]
        rw [show f_X4_hasHouse M 1 b = nI 0 from by rw [p_hasH h0, if_neg c2], if_pos z00]; rfl
      · simp only [f_X6_owed]
        rw [if_neg (by rw [m_wb2 (J_R hJ e16) (wg_of hf) c2]; decide)]; rfl
  · refine OK_ref (k := 1) (by omega) hJ ?_ (fun M1 e16 _ => ?_)
    · unfold f_X5_owed
      rw [show f_X4_hasWalker M 1 a = nI 0 from by rw [p_hasW h5, if_neg c1], if_pos z00]; rfl
    · simp only [f_X6_owed]
      rw [if_neg (by rw [m_wb1 (J_R hJ e16) (wg_of hf) c1]; decide)]; rfl
-- moved
theorem ok_moved (hJ : JJ M S) (a b c : Int32) : OK (f_X5_moved M a b c) (fun M1 => f_X6_moved M1 a b c) := by
  obtain ⟨h0, h5, hB⟩ := J_C hJ; have hf := J_f hJ; have hH := hf.1; have hW := hf.2.1.2.1
  by_cases c1 : okv (vW (sv S)) a = true
  · by_cases c2 : okv 49 b = true
    · rcases rng c 60 (by decide) (show (60 : Int32) = nI 60 from rfl) with ⟨q1, q2⟩ | ⟨q1, q2, q3, q4⟩ | ⟨n, hn, rfl⟩
      · refine OK_refg (fun r => 1000000000 - r) (k := 4) (by omega) hJ ?_ (fun M1 e16 _ => ?_)
        · unfold f_X5_moved
          rw [show f_X4_hasWalker M 1 a = nI 1 from by rw [p_hasW h5, if_pos c1], if_neg z10]
          rw [p_isCell', if_pos c2, if_neg z10, if_neg q2]; rfl
        · simp only [f_X6_moved, f_X6_moved_j31]
          rw [if_neg (show ¬ f_X6_isWalker (ju M1 16 11 0 0) a = 0 from by rw [m_isWalker (J_R hJ e16) (wg_of hf), if_pos c1]; decide), m_isCell, if_pos c2, if_neg z10, wn_lo q2, if_neg n4]; rfl
      · refine OK_refg (fun r => 1000000000 - r) (k := 6) (by omega) hJ ?_ (fun M1 e16 _ => ?_)
        · unfold f_X5_moved
          rw [show f_X4_hasWalker M 1 a = nI 1 from by rw [p_hasW h5, if_pos c1], if_neg z10]
          rw [p_isCell', if_pos c2, if_neg z10, if_pos q1, if_neg q4]; rfl
        · simp only [f_X6_moved, f_X6_moved_j31]
          rw [if_neg (show ¬ f_X6_isWalker (ju M1 16 11 0 0) a = 0 from by rw [m_isWalker (J_R hJ e16) (wg_of hf), if_pos c1]; decide), m_isCell, if_pos c2, if_neg z10, wn_hi q1 q4, if_neg n6]; rfl
      · obtain ⟨w, hw, rfl⟩ := okv_ex (by omega) c1
        obtain ⟨g, hg2, rfl⟩ := okv_ex (by omega) c2
        obtain ⟨A1, a1, a2, a3⟩ := p_becomeRW (M := M) (o := 2) (o1 := 1) (σ := sv S) (by omega) hJ.1.1
        obtain ⟨A2, b1, b2, b3⟩ := p_aim a3 hf (w := w) (c := g) (by omega) (by omega)
        rw [if_pos ⟨hw, hg2⟩] at b3
        rw [if_pos (show w < vW (sv S) ∧ g < 49 from ⟨hw, hg2⟩)] at b1
        have hfa := wf_aim (w := w) hf hg2
        have eW : vW (aimW (sv S) w g) = vW (sv S) := by show vu (sv S) 7 w g 5 0 = _; rw [vu_ne (by omega)]; rfl
        refine OK_q hJ (M1 := A2) (r := nI (price (aimW (sv S) w g) n w) - nI (price (sv S) n w)) ?_ (fun o h1 _ _ => by rw [b2 o h1, a2 o h1]) (fun hR hg => ?_)
        · have e1 : A2 1 = M 1 := by rw [b2 1 (by omega), a2 1 (by omega)]
          unfold f_X5_moved
          rw [show f_X4_hasWalker M 1 (nI w) = nI 1 from by rw [p_hasW h5, if_pos c1], if_neg z10]
          rw [p_isCell', if_pos c2, if_neg z10, if_pos (r_lo (by omega)), if_pos (r_hi (c := 60) hn (by decide) rfl), a1, q_jb, b1, q_jb2, p_priceBehind b3.1 b3.2.2 hfa.2.1 (by rw [eW]; exact hw) (by omega), q_jb, p_priceBehind (o := 1) (σ := sv S) (by rw [e1]; exact h0) (by rw [e1]; exact hB) hf.2.1 hw (by omega), q_jb]
        · show ∃ M2, f_X6_moved A2 (nI w) (nI g) (nI n) = _ ∧ _
          unfold f_X6_moved
          have hc1 : RM ((ju A2 16 11 0 0) 16) (sv S) := RM_ct hR
          have hc2 : frK A2 (ju A2 16 11 0 0) := frK_ct A2
          generalize ju A2 16 11 0 0 = N at hc1 hc2 ⊢
          obtain ⟨M1, M2, M3, e1, e2, r2, e3, r3, f3, k3⟩ := m_ahead hc1 hg (n := n) (by omega)
          have rg3 := RM_goal r3 (w := w) (c := g)
          obtain ⟨M5, e5, r5, f5⟩ := m_goEvenings rg3 (wg_of hfa) (n := n) (by omega)
          have k5 : KM (M5 16 21) (sv S) := by rw [fr3_at f5 (by omega), ju_f (by omega)]; exact k3
          obtain ⟨M6, e6, r6, f6⟩ := m_again k5 hg
          refine ⟨M6, ?_, r6, frK_trans hc2 (frK_of (frT_trans f3 (frT_of (frA_trans (frA_trans (frA_ju (by omega)) (frA_of f5)) f6))))⟩
          rw [show f_X6_isWalker N (nI w) = nI 1 by rw [m_isWalker hc1 hg, if_pos c1], if_neg z10, m_isCell, if_pos c2, if_neg z10, wn_ok (c := 60) hn (by decide) rfl]
          unfold f_X6_moved_j31
          rw [if_pos n0, e1, q_jb, e2, q_jb, m_priceOf r2 (wg_ev hg) (by rw [evN_W]; exact hw), q_jb, e3, q_jb, q_gd (by omega) (by omega), q_cl (by omega), e5, q_jb, m_priceOf r5 (wg_ev (wg_of hfa)) (by rw [evN_W, eW]; exact hw), q_jb, e6, q_jb, price_ev hw, price_ev (by rw [eW]; exact hw)]
    · refine OK_refg (fun r => 1000000000 - r) (k := 1) (by omega) hJ ?_ (fun M1 e16 _ => ?_)
      · unfold f_X5_moved
        rw [show f_X4_hasWalker M 1 a = nI 1 from by rw [p_hasW h5, if_pos c1], if_neg z10]
        rw [p_isCell', if_neg c2, if_pos z00]; rfl
      · simp only [f_X6_moved, f_X6_moved_j30, f_X6_moved_j31]
        rw [if_neg (show ¬ f_X6_isWalker (ju M1 16 11 0 0) a = 0 from by rw [m_isWalker (J_R hJ e16) (wg_of hf), if_pos c1]; decide), m_isCell, if_neg c2, if_pos z00, if_neg n1]; rfl
  · refine OK_refg (fun r => 1000000000 - r) (k := 1) (by omega) hJ ?_ (fun M1 e16 _ => ?_)
    · unfold f_X5_moved
      rw [show f_X4_hasWalker M 1 a = nI 0 from by rw [p_hasW h5, if_neg c1], if_pos z00]; rfl
    · simp only [f_X6_moved, f_X6_moved_j30, f_X6_moved_j31]
      rw [if_pos (show f_X6_isWalker (ju M1 16 11 0 0) a = 0 from by rw [m_isWalker (J_R hJ e16) (wg_of hf), if_neg c1]; rfl), if_neg n1]; rfl
end Asks
