/-! what both sides hold -/
def KM (g : Nat → Int32) (σ : vl) : Prop := ∃ G : Nat → Nat → Int32, (∀ q, q < 91 → g q = G (cF q) (cI q)) ∧ RM G σ
theorem RM_cext {G G' : Nat → Nat → Int32} {σ : vl} (hf : wg σ) (h : ∀ q, q < 91 → G' (cF q) (cI q) = G (cF q) (cI q)) (hR : RM G σ) : RM G' σ := by
  obtain ⟨r1, r2, r3, r4, r5, r6⟩ := hR
  have hH := hf.1
  have hW := hf.2.1.2.1
  have k : ∀ q F i, q < 91 → cF q = F → cI q = i → G' F i = G F i := by
    rintro q F i hq rfl rfl; exact h q hq
  refine ⟨by rw [k 0 0 0 (by omega) rfl rfl]; exact r1, by rw [k 1 5 0 (by omega) rfl rfl]; exact r2, by rw [k 2 10 0 (by omega) rfl rfl]; exact r3, fun j hj => ?_, fun j hj => ?_, fun j hj i hi => ?_⟩
  · rw [k (3 + 4 * j) 1 j (by omega) (by unfold cF; (repeat' split) <;> omega) (by unfold cI; (repeat' split) <;> omega), k (3 + 4 * j + 1) 2 j (by omega) (by unfold cF; (repeat' split) <;> omega) (by unfold cI; (repeat' split) <;> omega), k (3 + 4 * j + 2) 3 j (by omega) (by unfold cF; (repeat' split) <;> omega) (by unfold cI; (repeat' split) <;> omega), k (3 + 4 * j + 3) 4 j (by omega) (by unfold cF; (repeat' split) <;> omega) (by unfold cI; (repeat' split) <;> omega)]
    exact r4 j hj
  · rw [k (31 + 3 * j) 6 j (by omega) (by unfold cF; (repeat' split) <;> omega) (by unfold cI; (repeat' split) <;> omega), k (31 + 3 * j + 1) 7 j (by omega) (by unfold cF; (repeat' split) <;> omega) (by unfold cI; (repeat' split) <;> omega), k (31 + 3 * j + 2) 8 j (by omega) (by unfold cF; (repeat' split) <;> omega) (by unfold cI; (repeat' split) <;> omega)]
    exact r5 j hj
  · rw [k (49 + (7 * j + i)) 9 (7 * j + i) (by omega) (by unfold cF; (repeat' split) <;> omega) (by unfold cI; (repeat' split) <;> omega)]
    exact r6 j hj i hi
theorem KM_ext {g g' : Nat → Int32} {σ : vl} (h : ∀ q, q < 91 → g' q = g q) (hK : KM g σ) : KM g' σ := by
  obtain ⟨G, a, b⟩ := hK
  exact ⟨G, fun q hq => by rw [h q hq, a q hq], b⟩
/-- what thinking leaves -/
def frT (M M' : jm) : Prop := (∀ o, o ≠ 16 → M' o = M o) ∧ ∀ f, 11 < f → f ≠ 21 → f ≠ 24 → f ≠ 25 → f ≠ 26 → M' 16 f = M 16 f
def frA (M M' : jm) : Prop := (∀ o, o ≠ 16 → M' o = M o) ∧ ∀ f, 11 < f → f ≠ 24 → f ≠ 25 → f ≠ 26 → M' 16 f = M 16 f
theorem frT_trans {M N K : jm} (a : frT M N) (b : frT N K) : frT M K := ⟨fun o ho => by rw [b.1 o ho, a.1 o ho], fun f q1 q2 q3 q4 q5 => by rw [b.2 f q1 q2 q3 q4 q5, a.2 f q1 q2 q3 q4 q5]⟩
theorem frA_trans {M N K : jm} (a : frA M N) (b : frA N K) : frA M K := ⟨fun o ho => by rw [b.1 o ho, a.1 o ho], fun f q1 q2 q3 q4 => by rw [b.2 f q1 q2 q3 q4, a.2 f q1 q2 q3 q4]⟩
theorem frT_of {M N : jm} (a : frA M N) : frT M N := ⟨a.1, fun f q1 _ q3 q4 q5 => a.2 f q1 q3 q4 q5⟩
theorem frA_of {M N : jm} (a : fr3 M N) : frA M N := ⟨a.1, fun f q1 _ _ _ => a.2 f (by omega) (by omega) (by omega)⟩
theorem frA_ju {M : jm} {f i : Nat} {x : Int32} (h : f ≤ 11) : frA M (ju M 16 f i x) := ⟨fun o ho => ju_ne ho, fun g q1 _ _ _ => ju_f (by omega)⟩
theorem frA_21 {M N : jm} (a : frA M N) : N 16 21 = M 16 21 := a.2 21 (by omega) (by omega) (by omega) (by omega)
theorem frA_refl (M : jm) : frA M M := ⟨fun _ _ => rfl, fun _ _ _ _ _ => rfl⟩
section Think
variable {M : jm} {σ : vl}
theorem m_think (hR : RM (M 16) σ) : ∃ M', f_X6_think M = some M' ∧ RM (M' 16) σ ∧ KM (M' 16 21) σ ∧ frT M M' := by
  obtain ⟨M', e, h1, h2, h3⟩ := carry_take (M := M) (f1 := 21) (Or.inl rfl)
  refine ⟨M', ?_, RM_fe (fun f hf => h2 f (by omega) (by omega) (by omega) (by omega)) hR, ⟨M 16, h3, hR⟩, h1, fun f _ a b c d => h2 f a b c d⟩
  unfold f_X6_think
  rw [e, q_jb]
theorem m_again (hK : KM (M 16 21) σ) (hf : wg σ) : ∃ M', f_X6_again M = some M' ∧ RM (M' 16) σ ∧ frA M M' := by
  obtain ⟨M', e, h1, h2, h3⟩ := carry_back (M := M) (f1 := 21) (Or.inl rfl)
  obtain ⟨G, k1, k2⟩ := hK
  refine ⟨M', ?_, RM_cext hf (fun q hq => by rw [h3 q hq, k1 q hq]) k2, h1, fun f a b c d => h2 f (by omega) b c d⟩
  unfold f_X6_again
  rw [e, q_jb]
end Think
/-- now, the image, what was kept (latest first); the numbers of kept ones, image, letters, row; refusals -/
abbrev St : Type := (Nat → vl) × (Nat → Nat → Nat) × (Nat → Int32)
def sv (S : St) : vl := S.1 0
def siv (S : St) : vl := S.1 1
def shs (S : St) (i : Nat) : vl := S.1 (2 + i)
def shn (S : St) : Nat := S.2.1 0 0
def sim (S : St) : Nat := S.2.1 0 1
def sln (S : St) : Nat := S.2.1 0 2
def srn (S : St) : Nat := S.2.1 0 3
def sls (S : St) (i : Nat) : Nat := S.2.1 1 i
def srw (S : St) (i : Nat) : Nat := S.2.1 2 i
def srf (S : St) (i : Nat) : Int32 := S.2.2 i
def mkS (v : vl) (hn : Nat) (hs : Nat → vl) (im : Nat) (iv : vl) (ln : Nat) (ls : Nat → Nat) (rn : Nat) (rw : Nat → Nat) (rf : Nat → Int32) : St := (fun k => match k with | 0 => v | 1 => iv | j + 2 => hs j, fun k i => match k with | 0 => (match i with | 0 => hn | 1 => im | 2 => ln | _ => rn) | 1 => ls i | _ => rw i, rf)
section mk
variable {v : vl} {hn : Nat} {hs : Nat → vl} {im : Nat} {iv : vl} {ln : Nat} {ls : Nat → Nat} {rn : Nat} {rw : Nat → Nat} {rf : Nat → Int32} {i : Nat}
theorem mk_v : sv (mkS v hn hs im iv ln ls rn rw rf) = v := rfl
theorem mk_iv : siv (mkS v hn hs im iv ln ls rn rw rf) = iv := rfl
theorem mk_hs : shs (mkS v hn hs im iv ln ls rn rw rf) i = hs i := by unfold shs; rw [Nat.add_comm]; rfl
theorem mk_hn : shn (mkS v hn hs im iv ln ls rn rw rf) = hn := rfl
theorem mk_im : sim (mkS v hn hs im iv ln ls rn rw rf) = im := rfl
theorem mk_ln : sln (mkS v hn hs im iv ln ls rn rw rf) = ln := rfl
theorem mk_rn : srn (mkS v hn hs im iv ln ls rn rw rf) = rn := rfl
theorem mk_ls : sls (mkS v hn hs im iv ln ls rn rw rf) i = ls i := rfl
theorem mk_rw : srw (mkS v hn hs im iv ln ls rn rw rf) i = rw i := rfl
theorem mk_rf : srf (mkS v hn hs im iv ln ls rn rw rf) i = rf i := rfl
end mk
def wS (S : St) : Prop := wf (sv S) ∧ (shn S) ≤ 8 ∧ (∀ i, i < (shn S) → wf (shs S i)) ∧ (sim S) ≤ 1 ∧ ((sim S) = 1 → wf (siv S)) ∧ (sln S) ≤ 96 ∧ (∀ i, i < (sln S) → sls S i < 256) ∧ (srn S) ≤ 12 ∧ (∀ i, i < (srn S) → srw S i ≤ 99)
def JC (M : jm) (S : St) : Prop := RW (M 1) (sv S) ∧ M 12 2 0 = nI (shn S) ∧ (∃ nx, nx < 8 ∧ M 12 1 0 = nI nx ∧ ∀ i, i < (shn S) → RW (M (4 + (nx + 7 - i) % 8)) (shs S i)) ∧ M 0 3 0 = nI (sim S) ∧ ((sim S) = 1 → RW (M 3) (siv S)) ∧ M 13 1 0 = nI (sln S) ∧ (∀ i, i < (sln S) → M 13 0 i = nI (sls S i)) ∧ M 0 9 0 = nI (srn S) ∧ (∀ i, i < (srn S) → M 0 8 i = nI (srw S i)) ∧ (∀ k, k < 7 → M 0 10 k = srf S k)
def JR (M : jm) (S : St) : Prop := RM (M 16) (sv S) ∧ M 16 29 0 = nI (shn S) ∧ (∀ i, i < (shn S) → KM (fun k => M 16 27 (91 * ((shn S) - 1 - i) + k)) (shs S i)) ∧ M 16 23 0 = nI (sim S) ∧ ((sim S) = 1 → KM (M 16 22) (siv S)) ∧ M 16 14 0 = nI (sln S) ∧ (∀ i, i < (sln S) → M 16 13 i = nI (sls S i)) ∧ M 16 36 0 = nI (srn S) ∧ (∀ i, i < (srn S) → M 16 35 i = nI (srw S i)) ∧ (∀ k, k < 7 → M 16 12 k = srf S k)
def JJ (M : jm) (S : St) : Prop := JC M S ∧ JR M S ∧ wS S
def kp (f : Nat) : Prop := f = 12 ∨ f = 13 ∨ f = 14 ∨ f = 22 ∨ f = 23 ∨ f = 27 ∨ f = 29 ∨ f = 35 ∨ f = 36
def frK (M M' : jm) : Prop := (∀ o, o ≠ 16 → M' o = M o) ∧ ∀ f, kp f → M' 16 f = M 16 f
theorem frK_of {M N : jm} (a : frT M N) : frK M N := ⟨a.1, fun f q => by unfold kp at q; exact a.2 f (by omega) (by omega) (by omega) (by omega) (by omega)⟩
theorem frK_trans {M N K : jm} (a : frK M N) (b : frK N K) : frK M K := ⟨fun o ho => by rw [b.1 o ho, a.1 o ho], fun f q => by rw [b.2 f q, a.2 f q]⟩
theorem frK_ju {M : jm} {f i : Nat} {x : Int32} (h : ¬ kp f) : frK M (ju M 16 f i x) := ⟨fun o ho => ju_ne ho, fun g q => ju_f (fun e => h (e ▸ q))⟩
def frC (M M' : jm) : Prop := ∀ o, o ≠ 2 → o ≠ 14 → o ≠ 15 → M' o = M o
theorem frC_refl (M : jm) : frC M M := fun _ _ _ _ => rfl
theorem JC_fr {M M' : jm} {S : St} (h : ∀ o, o ≠ 16 → o ≠ 2 → o ≠ 14 → o ≠ 15 → M' o = M o) (hJ : JC M S) : JC M' S := by
  obtain ⟨j1, j2, ⟨nx, n1, n2, n3⟩, j4, j5, j6, j7, j8, j9, j10⟩ := hJ
  unfold JC
  rw [h 1 (by omega) (by omega) (by omega) (by omega), h 12 (by omega) (by omega) (by omega) (by omega), h 0 (by omega) (by omega) (by omega) (by omega), h 3 (by omega) (by omega) (by omega) (by omega), h 13 (by omega) (by omega) (by omega) (by omega)]
  exact ⟨j1, j2, ⟨nx, n1, n2, fun i hi => by rw [h _ (by omega) (by omega) (by omega) (by omega)]; exact n3 i hi⟩, j4, j5, j6, j7, j8, j9, j10⟩
theorem JR_fr {M M' : jm} {S : St} (h : M' 16 = M 16) (hJ : JR M S) : JR M' S := by
  unfold JR
  rw [h]
  exact hJ
theorem JR_sc {M M' : jm} {S : St} (hR : RM (M' 16) (sv S)) (h : ∀ f, kp f → M' 16 f = M 16 f) (hJ : JR M S) : JR M' S := by
  obtain ⟨j1, j2, j3, j4, j5, j6, j7, j8, j9, j10⟩ := hJ
  unfold JR
  unfold kp at h
  rw [h 29 (by omega), h 27 (by omega), h 23 (by omega), h 22 (by omega), h 14 (by omega), h 13 (by omega), h 36 (by omega), h 35 (by omega), h 12 (by omega)]
  exact ⟨hR, j2, j3, j4, j5, j6, j7, j8, j9, j10⟩
def OK {R : Type} (a : Option (R × jm)) (b : jm → Option (R × jm)) : Prop := ∃ r M1 M2 S', a = some (r, M1) ∧ b M1 = some (r, M2) ∧ JJ M2 S'
section OKs
variable {M : jm} {S : St} {R : Type}
theorem OK_q {a : Option (R × jm)} {b : jm → Option (R × jm)} {r : R} {M1 : jm} (hJ : JJ M S) (ha : a = some (r, M1)) (h1 : frC M M1) (hb : RM (M1 16) (sv S) → wg (sv S) → ∃ M2, b M1 = some (r, M2) ∧ RM (M2 16) (sv S) ∧ frK M1 M2) : OK a b := by
  obtain ⟨jc, jr, jw⟩ := hJ
  have e16 : M1 16 = M 16 := h1 16 (by omega) (by omega) (by omega)
  obtain ⟨M2, e2, hR, hF⟩ := hb (by rw [e16]; exact jr.1) (wg_of jw.1)
  exact ⟨r, M1, M2, S, ha, e2, JC_fr (fun o a b c d => by rw [hF.1 o a, h1 o b c d]) jc, JR_sc hR hF.2 (JR_fr e16 jr), jw⟩
theorem x_refuse {k : Nat} (hk : k < 7) : f_X5_refuse M (-nI k) = some (-nI k, ju M 0 10 k (M 0 10 k + 1)) := by
  unfold f_X5_refuse
  rw [show -(-nI k) = nI k from Int32.neg_neg, q_gd hk (by omega), q_gd hk (by omega), q_cl (by omega)]
theorem m_refuse {k : Nat} (hk : k < 7) : f_X6_refuse M (-nI k) = some (-nI k, ju M 16 12 k (M 16 12 k + 1)) := by
  unfold f_X6_refuse
  rw [show -(-nI k) = nI k from Int32.neg_neg, q_gd hk (by omega), q_gd hk (by omega), q_cl (by omega)]
abbrev ct (M : jm) : jm := ju M 16 11 0 0
theorem ct_16 {M : jm} {f : Nat} (h : f ≠ 11) : ct M 16 f = M 16 f := ju_f h
theorem RM_ct {σ : vl} (hR : RM (M 16) σ) : RM (ct M 16) σ := RM_fe (fun f hf => ct_16 (by omega)) hR
theorem frA_ct (M : jm) : frA M (ct M) := frA_ju (by omega)
theorem frK_ct (M : jm) : frK M (ct M) := frK_of (frT_of (frA_ct M))
def rfS (S : St) (k : Nat) : St := (S.1, S.2.1, fun j => if j = k then srf S k + 1 else srf S j)
theorem JJ_ref {k : Nat} (hk : k < 7) (hJ : JJ M S) : JJ (ju (ct (ju M 0 10 k (M 0 10 k + 1))) 16 12 k (ct (ju M 0 10 k (M 0 10 k + 1)) 16 12 k + 1)) (rfS S k) := by
  obtain ⟨⟨j1, j2, ⟨nx, n1, n2, n3⟩, j4, j5, j6, j7, j8, j9, j10⟩, ⟨k1, k2, k3, k4, k5, k6, k7, k8, k9, k10⟩, jw⟩ := hJ
  have e : ∀ o, o ≠ 0 → o ≠ 16 → ju (ct (ju M 0 10 k (M 0 10 k + 1))) 16 12 k (ct (ju M 0 10 k (M 0 10 k + 1)) 16 12 k + 1) o = M o := by
    intro o h1 h2
    unfold ct
    rw [ju_ne h2, ju_ne h2, ju_ne h1]
  have e0 : ∀ f, f ≠ 10 → ju (ct (ju M 0 10 k (M 0 10 k + 1))) 16 12 k (ct (ju M 0 10 k (M 0 10 k + 1)) 16 12 k + 1) 0 f = M 0 f := by
    intro f h1
    unfold ct
    rw [ju_ne (by omega), ju_ne (by omega), ju_f h1]
  have e16 : ∀ f, f ≠ 11 → f ≠ 12 → ju (ct (ju M 0 10 k (M 0 10 k + 1))) 16 12 k (ct (ju M 0 10 k (M 0 10 k + 1)) 16 12 k + 1) 16 f = M 16 f := by
    intro f h1 h2
    unfold ct
    rw [ju_f h2, ju_f h1, ju_ne (by omega)]
  refine ⟨⟨?_, ?_, ⟨nx, n1, ?_, fun i hi => ?_⟩, ?_, ?_, ?_, ?_, ?_, ?_, fun j hj => ?_⟩, ⟨?_, ?_, ?_, ?_, ?_, ?_, ?_, ?_, ?_, fun j hj => ?_⟩, jw⟩
  · rw [e 1 (by omega) (by omega)]; exact j1
  · rw [e 12 (by omega) (by omega)]; exact j2
  · rw [e 12 (by omega) (by omega)]; exact n2
  · rw [e _ (by omega) (by omega)]; exact n3 i hi
  · rw [e0 3 (by omega)]; exact j4
  · rw [e 3 (by omega) (by omega)]; exact j5
  · rw [e 13 (by omega) (by omega)]; exact j6
  · rw [e 13 (by omega) (by omega)]; exact j7
  · rw [e0 9 (by omega)]; exact j8
  · rw [e0 8 (by omega)]; exact j9
  · unfold ct
    rw [ju_ne (by omega), ju_ne (by omega), ju_o, j10 k hk]
    show _ = if j = k then srf S k + 1 else srf S j
    by_cases z : j = k
    · rw [if_pos ⟨rfl, z⟩, if_pos z]
    · rw [if_neg (fun q => z q.2), if_neg z]; exact j10 j hj
  · exact RM_fe (fun f hf => e16 f (by omega) (by omega)) k1
  · rw [e16 29 (by omega) (by omega)]; exact k2
  · rw [e16 27 (by omega) (by omega)]; exact k3
  · rw [e16 23 (by omega) (by omega)]; exact k4
  · rw [e16 22 (by omega) (by omega)]; exact k5
  · rw [e16 14 (by omega) (by omega)]; exact k6
  · rw [e16 13 (by omega) (by omega)]; exact k7
  · rw [e16 36 (by omega) (by omega)]; exact k8
  · rw [e16 35 (by omega) (by omega)]; exact k9
  · have e12 : ∀ i, ct (ju M 0 10 k (M 0 10 k + 1)) 16 12 i = M 16 12 i := fun i => by
      unfold ct
      rw [ju_g (by omega), ju_ne (by omega)]
    rw [ju_o, e12 k, e12 j, k10 k hk]
    show _ = if j = k then srf S k + 1 else srf S j
    by_cases z : j = k
    · rw [if_pos ⟨rfl, z⟩, if_pos z]
    · rw [if_neg (fun q => z q.2), if_neg z]; exact k10 j hj
theorem OK_ref {a : Option (Int32 × jm)} {b : jm → Option (Int32 × jm)} {k : Nat} (hk : k < 7) (hJ : JJ M S) (ha : a = jb2 (f_X5_refuse M (-nI k)) fun r M' => some (r, M')) (hb : ∀ M1, M1 16 = M 16 → (∀ o, o ≠ 0 → M1 o = M o) → b M1 = jb2 (f_X6_refuse (ct M1) (-nI k)) fun r M' => some (r, M')) : OK a b := by
  refine ⟨-nI k, _, _, rfS S k, by rw [ha, x_refuse hk, q_jb2], by rw [hb _ (ju_ne (by omega)) (fun o ho => ju_ne ho), m_refuse hk, q_jb2], JJ_ref hk hJ⟩
end OKs
