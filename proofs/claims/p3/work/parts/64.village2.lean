/-! a village told in letters -/
section Vo
variable {M : jm} {S : St}
theorem ok_village (hJ : JJ M S) : OK (f_X5_village M) (fun M1 => f_X6_village M1) := by
  obtain ⟨jc, jr, jw⟩ := hJ
  have hl := jw.2.2.2.2.2.1
  have hs := jw.2.2.2.2.2.2.1
  have hf : wf (sv S) := jw.1
  obtain ⟨A0, a1, a2, a3⟩ := p_becomeRW (M := M) (o := 2) (o1 := 1) (σ := sv S) (by omega) jc.1
  have a13 : A0 13 = M 13 := a2 13 (by omega)
  have l1 : A0 13 1 0 = nI (sln S) := by rw [a13]; exact jc.2.2.2.2.2.1
  have l0 : ∀ i, i < sln S → A0 13 0 i = nI (sls S i) := fun i hi => by rw [a13]; exact jc.2.2.2.2.2.2.1 i hi
  obtain ⟨N, h32, hN, hp, hc⟩ := pc_stop (s := sls S) (len := sln S) hl
  obtain ⟨f1, f2⟩ := x_first l1 l0 hs hl hN hp
  have jr1 : ∀ M1 : jm, M1 16 = M 16 → JR (ju M1 16 14 0 (nI 0)) (setn S 2 0) := fun M1 e => JR_2 (JR_fr e jr)
  by_cases c : 0 < N ∧ pc (sls S) (sln S) N = sln S
  · have vr : ∀ M1 : jm, M1 16 = M 16 → ∃ B : jm, (∀ o, o ≠ 16 → B o = M1 o) ∧ RM (B 16) (sv S) ∧ (∀ f, kp f → B 16 f = ju M1 16 14 0 (nI 0) 16 f) ∧ f_X6_village M1 = f_X6_village_l79 10000 B 0 ∧ KM (B 16 21) (sv S) ∧ B 16 17 0 = nI N ∧ ∀ i, i < N → B 16 18 i = nI (pc (sls S) (sln S) i) ∧ B 16 19 i = nI (sls S (pc (sls S) (sln S) i)) ∧ tld (sls S) B i (sls S (pc (sls S) (sln S) i)) (pc (sls S) (sln S) i + 1) := by
      intro M1 e
      obtain ⟨B, v1, v2, v3, v4, -⟩ := v_ref (σ := sv S) (M1 := M1) (s := sls S) (len := sln S) (by rw [e]; exact jr.1) (by rw [e]; exact jr.2.2.2.2.2.1) (fun i hi => by rw [e]; exact jr.2.2.2.2.2.2.1 i hi) hs hl h32 hN hp (Or.inl c)
      obtain ⟨w1, w2, w3, w4⟩ := v4 c
      exact ⟨B, v1, v2, v3, w1, w2, w3, w4⟩
    have both : ∀ M1 : jm, M1 16 = M 16 → ∃ (r : Int32) (A' B' : jm), f_X1_tell_l25 2 10000 A0 0 0 0 = some (r, A') ∧ f_X6_village M1 = some (r, B') ∧ (∀ o, o ≠ 2 → A' o = A0 o) ∧ (∀ o, o ≠ 16 → B' o = M1 o) ∧ ((r = nI N ∧ ∃ (τ' : vl) (C : jm), RW (A' 2) τ' ∧ wf τ' ∧ RM (C 16) τ' ∧ (∀ o, o ≠ 16 → C o = M1 o) ∧ (∀ f, kp f → C 16 f = ju M1 16 14 0 (nI 0) 16 f) ∧ B' = ju C 16 29 0 (nI 0)) ∨ (¬ 0 ≤ r ∧ RM (B' 16) (sv S) ∧ ∀ f, kp f → B' 16 f = ju M1 16 14 0 (nI 0) 16 f)) := by
      intro M1 e
      obtain ⟨B, v1, v2, v3, w1, w2, w3, w4⟩ := vr M1 e
      obtain ⟨r, A', B', t1, t2, t3, t4, t5⟩ := t_all (σ := sv S) hs hl h32 hN c.2 (wg_of hf) N 0 (by omega) A0 B (sv S) hf a3 v2 l1 l0 w3 w4 w2
      refine ⟨r, A', B', t1, by rw [w1]; exact t2, t3, fun o ho => by rw [t4 o ho, v1 o ho], ?_⟩
      rcases t5 with ⟨q1, τ2, C, q2, q3, q4, q5, q6, q7⟩ | ⟨q1, q2, q3⟩
      · exact Or.inl ⟨q1, τ2, C, q2, q3, q4, fun o ho => by rw [q5 o ho, v1 o ho], fun f hf2 => by rw [q6 f hf2, v3 f hf2], q7⟩
      · exact Or.inr ⟨q1, q2, fun f hf2 => by rw [q3 f hf2, v3 f hf2]⟩
    obtain ⟨r, A1, B0, t1, -, t3, -, -⟩ := both M rfl
    have et : f_X1_tell A0 2 = some (r, A1) := by
      unfold f_X1_tell
      rw [f1 c, q_jb, if_pos rfl, t1]
    have jcD : JC (ju A1 13 1 0 (nI 0)) (setn S 2 0) := JC_fr (M := ju M 13 1 0 (nI 0)) (fun o h1 h2 _ _ => ju_oc (by rw [t3 o h2, a2 o h2])) (JC_2 jc)
    have hd : f_X1_drop A1 = some (ju A1 13 1 0 (nI 0)) := rfl
    by_cases z : 0 ≤ r
    · obtain ⟨A2, b1, b2, b3⟩ : ∃ A2, f_X4_become (ju A1 13 1 0 (nI 0)) 1 2 = some A2 ∧ (∀ o, o ≠ 1 → A2 o = ju A1 13 1 0 (nI 0) o) ∧ ∀ τ, RW (A1 2) τ → RW (A2 1) τ := by
        obtain ⟨A2, e, h1, h2, h3⟩ := p_become (M := ju A1 13 1 0 (nI 0)) (o := 1) (o1 := 2) (by omega)
        exact ⟨A2, e, h1, fun τ hR => RW_of h2 h3 (by rw [ju_ne (by omega)]; exact hR)⟩
      have e5 : f_X5_village M = some (r, ju A2 12 2 0 (nI 0)) := by
        unfold f_X5_village f_X0_forget
        rw [a1, q_jb, et, q_jb2, hd, q_jb, if_pos z, b1, q_jb, q_jb]; rfl
      have e16 : ju A2 12 2 0 (nI 0) 16 = M 16 := by rw [ju_ne (by omega), b2 16 (by omega), ju_ne (by omega), t3 16 (by omega), a2 16 (by omega)]
      obtain ⟨r2, A1', B', u1, u2, u3, u4, u5⟩ := both _ e16
      have ee : (r, A1) = (r2, A1') := Option.some.inj (t1.symm.trans u1)
      have er : r = r2 := congrArg Prod.fst ee
      have eA : A1 = A1' := congrArg Prod.snd ee
      rw [← er, ← eA] at u5
      rw [← er] at u2
      rcases u5 with ⟨q1, τ2, C, q2, q3, q4, q5, q6, q7⟩ | ⟨q1, q2, q3⟩
      · refine ⟨r, ju A2 12 2 0 (nI 0), B', setn (setv (setn S 2 0) τ2) 0 0, e5, u2, JC_16 (M1 := ju A2 12 2 0 (nI 0)) u4 (JC_0 (x := 0) (Nat.zero_le _) (JC_v (M := ju A1 13 1 0 (nI 0)) (b3 τ2 q2) (fun o h1 _ _ _ _ => b2 o h1) jcD) rfl), ?_, wS_0 (wS_v q3 (wS_2 jw))⟩
        rw [q7]
        exact JR_0 (JR_v (M := ju (ju A2 12 2 0 (nI 0)) 16 14 0 (nI 0)) q4 q6 (jr1 _ e16))
      · exact absurd z q1
    · have e5 : f_X5_village M = some (r, ju A1 13 1 0 (nI 0)) := by
        unfold f_X5_village
        rw [a1, q_jb, et, q_jb2, hd, q_jb, if_neg z]
      have e16 : ju A1 13 1 0 (nI 0) 16 = M 16 := by rw [ju_ne (by omega), t3 16 (by omega), a2 16 (by omega)]
      obtain ⟨r2, A1', B', u1, u2, u3, u4, u5⟩ := both _ e16
      have ee : (r, A1) = (r2, A1') := Option.some.inj (t1.symm.trans u1)
      have er : r = r2 := congrArg Prod.fst ee
      rw [← er] at u5 u2
      rcases u5 with ⟨q1, -⟩ | ⟨q1, q2, q3⟩
      · exact absurd (by rw [q1]; exact r_lo (by omega)) z
      · exact ⟨r, ju A1 13 1 0 (nI 0), B', setn S 2 0, e5, u2, JC_16 (M1 := ju A1 13 1 0 (nI 0)) u4 jcD, JR_sc (M := ju (ju A1 13 1 0 (nI 0)) 16 14 0 (nI 0)) q2 q3 (jr1 _ e16), wS_2 jw⟩
  · have hb : (sc (sls S) (sln S) (pc (sls S) (sln S) N)).2 = false := by
      rcases hc with q | q
      · exact absurd q c
      · exact q
    have hq := (sc_le (s := sls S) hp).2
    have hd : f_X1_drop A0 = some (ju A0 13 1 0 (nI 0)) := rfl
    have nn : ∀ x, x < 97 → ¬ nI x = (-9 : Int32) := by decide +kernel
    have et : f_X1_tell A0 2 = some ((-1000) - nI (sc (sls S) (sln S) (pc (sls S) (sln S) N)).1, A0) := by
      unfold f_X1_tell
      rw [f2 hb c, q_jb, if_neg (nn _ (by omega))]
    have e5 : f_X5_village M = some ((-1000) - nI (sc (sls S) (sln S) (pc (sls S) (sln S) N)).1, ju A0 13 1 0 (nI 0)) := by
      unfold f_X5_village
      rw [a1, q_jb, et, q_jb2, hd, q_jb, if_neg (neg1k _ (by omega))]
    have e16 : ju A0 13 1 0 (nI 0) 16 = M 16 := by rw [ju_ne (by omega), a2 16 (by omega)]
    obtain ⟨B, v1, v2, v3, -, v5⟩ := v_ref (σ := sv S) (M1 := ju A0 13 1 0 (nI 0)) (s := sls S) (len := sln S) (by rw [e16]; exact jr.1) (by rw [e16]; exact jr.2.2.2.2.2.1) (fun i hi => by rw [e16]; exact jr.2.2.2.2.2.2.1 i hi) hs hl h32 hN hp (Or.inr ⟨c, hb⟩)
    have jcD : JC (ju A0 13 1 0 (nI 0)) (setn S 2 0) := JC_fr (M := ju M 13 1 0 (nI 0)) (fun o h1 h2 _ _ => ju_oc (by rw [a2 o h2])) (JC_2 jc)
    exact ⟨_, _, B, setn S 2 0, e5, v5 c, JC_16 (M1 := ju A0 13 1 0 (nI 0)) v1 jcD, JR_sc (M := ju (ju A0 13 1 0 (nI 0)) 16 14 0 (nI 0)) v2 v3 (jr1 _ e16), wS_2 jw⟩
end Vo
