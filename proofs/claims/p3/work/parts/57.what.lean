/-! whatKind: that both sides answer (what they answer is not the same: AGE 99) -/
section Asks
variable {M : jm} {S : St} {σ : vl}
theorem RB_house1 {o N : Nat} (hR : RB (M o) σ N) {F h x : Nat} (hF : F = 1 ∨ F = 2) : RB (ju M o F h (nI x) o) (vu σ F h x) N := by
  obtain ⟨a, b, d, e⟩ := hR
  refine ⟨?_, fun j hj => ?_, fun w hw => ?_, fun w hw j hj => ?_⟩
  · rw [ju_f (by omega), a]; unfold vW; rw [vu_ne (by omega)]
  · obtain ⟨b1, b2, b3, b4⟩ := b j hj
    rw [ju_f (k' := 3) (by omega), ju_f (k' := 4) (by omega), vu_ne (F' := 3) (by omega), vu_ne (F' := 4) (by omega), ju_o, ju_o]
    rcases hF with rfl | rfl
    · rw [if_neg (fun z : 2 = 1 ∧ j = h => by omega), vu_ne (F' := 2) (by omega)]
      refine ⟨?_, b2, b3, b4⟩
      by_cases q : j = h
      · subst q; rw [if_pos ⟨rfl, rfl⟩, vu_same]
      · rw [if_neg (fun z => q z.2), vu_ne (by omega)]; exact b1
    · rw [if_neg (fun z : 1 = 2 ∧ j = h => by omega), vu_ne (F' := 1) (by omega)]
      refine ⟨b1, ?_, b3, b4⟩
      by_cases q : j = h
      · subst q; rw [if_pos ⟨rfl, rfl⟩, vu_same]
      · rw [if_neg (fun z => q z.2), vu_ne (by omega)]; exact b2
  · have hw : w < vW σ := by unfold vW at hw ⊢; rwa [vu_ne (by omega)] at hw
    rw [ju_f (by omega), ju_f (by omega), ju_f (by omega), vu_ne (by omega), vu_ne (by omega), vu_ne (by omega)]; exact d w hw
  · rw [ju_f (by omega), vu_ne (by omega)]; exact e w hw j hj
theorem vu1_W {F i a : Nat} (hF : F = 1 ∨ F = 2) : vW (vu σ F i a) = vW σ := by unfold vW; rw [vu_ne (by omega)]
theorem vu1_H {F i a : Nat} (hF : F = 1 ∨ F = 2) : vH (vu σ F i a) = vH σ := by unfold vH; rw [vu_ne (by omega)]
theorem wb_house1 {N : Nat} (hb : wb σ N) {F h x : Nat} (hF : (F = 1 ∧ x < 6) ∨ (F = 2 ∧ x < 10)) : wb (vu σ F h x) N := by
  obtain ⟨b1, b2, b3, b4, b5⟩ := hb
  refine ⟨b1, by rw [vu1_W (by omega)]; exact b2, fun j hj => ?_, fun w hw => ?_, fun w j => ?_⟩
  · obtain ⟨c1, c2, c3, c4⟩ := b3 j hj
    rw [vu_ne (F' := 3) (by omega), vu_ne (F' := 4) (by omega)]
    rcases hF with ⟨rfl, hx⟩ | ⟨rfl, hx⟩
    · rw [vu_ne (F' := 2) (by omega)]
      refine ⟨?_, c2, c3, c4⟩
      by_cases q : j = h
      · subst q; rw [vu_same]; exact hx
      · rw [vu_ne (by omega)]; exact c1
    · rw [vu_ne (F' := 1) (by omega)]
      refine ⟨c1, ?_, c3, c4⟩
      by_cases q : j = h
      · subst q; rw [vu_same]; exact hx
      · rw [vu_ne (by omega)]; exact c2
  · rw [vu1_W (by omega)] at hw
    rw [vu_ne (by omega), vu_ne (by omega), vu_ne (by omega)]; exact b4 w hw
  · rw [vu_ne (by omega)]; exact b5 w j
theorem x_fits {A : jm} {N rn : Nat} (hR : RB (A 2) σ N) (hb : wb σ N) (hr : rn ≤ 12) (h9 : A 0 9 0 = nI rn) {w h : Nat} (hw : w < vW σ) (hh : h < N) : ∃ r, f_X5_fitsNumbers A (nI w) (nI h) = some r := by
  have key : ∀ d i k, i + d = rn → d < k → ∃ r, f_X5_fitsNumbers_l2 A (nI w) (nI h) k (nI i) = some r := by
    intro d
    induction d with
    | zero =>
      intro i k hi hk
      obtain ⟨k, rfl⟩ : ∃ j, k = j + 1 := ⟨k - 1, by omega⟩
      refine ⟨1, ?_⟩
      rw [f_X5_fitsNumbers_l2, h9, if_pos (by rw [q_le (by omega) (by omega)]; omega)]
    | succ d ih =>
      intro i k hi hk
      obtain ⟨k, rfl⟩ : ∃ j, k = j + 1 := ⟨k - 1, by omega⟩
      obtain ⟨r, hr2⟩ := ih (i + 1) k (by omega) (by omega)
      have step : ∀ t, ∃ r, f_X5_fitsNumbers_j31 A (f_X5_fitsNumbers_l2 A (nI w) (nI h) k) (nI w) (nI h) (nI i) t = some r := by
        intro t
        unfold f_X5_fitsNumbers_j31
        rw [p_ageBehind hR hb hw hh (by omega), q_jb, show nI i + 1 = nI (i + 1) from nI_add i 1, hr2]
        split
        · exact ⟨r, rfl⟩
        · exact ⟨0, rfl⟩
      rw [f_X5_fitsNumbers_l2, h9, if_neg (by rw [q_le (by omega) (by omega)]; omega), q_gd (by omega) (by omega), q_gd (by omega) (by omega)]
      split
      · exact step _
      · exact step _
  exact key rn 0 10000 (by omega) (by omega)
theorem x_kinds (hJ : JJ M S) {w h : Nat} (hw : w < vW (sv S)) (hh : h < vH (sv S)) : (∃ r A, f_X5_fittingKinds M (nI w) (nI h) = some (r, A) ∧ frC M A) ∧ (∃ r A, f_X5_fittingFigures M (nI w) (nI h) = some (r, A) ∧ frC M A) := by
  obtain ⟨h0, h5, hB⟩ := J_C hJ; have hf := J_f hJ; have hH := hf.1; have hW := hf.2.1.2.1
  have hrn := hJ.2.2.2.2.2.2.2.2.2.1
  have h9 := hJ.1.2.2.2.2.2.2.2.1
  obtain ⟨A, a1, a2, a3⟩ := p_becomeRW (M := M) (o := 2) (o1 := 1) (σ := sv S) (by omega) hJ.1.1
  have e9 : ∀ B : jm, (∀ o, o ≠ 2 → B o = M o) → B 0 9 0 = nI (srn S) := fun B hB => by rw [hB 0 (by omega)]; exact h9
  constructor
  · unfold f_X5_fittingKinds
    rw [a1, q_jb]
    refine loopE (L := fun k (a : jm × Int32) i => f_X5_fittingKinds_l16 (nI w) (nI h) k a.1 a.2 i) (P := fun i a => (∀ o, o ≠ 2 → a.1 o = M o) ∧ ∃ τ, RB (a.1 2) τ (vH (sv S)) ∧ wb τ (vH (sv S)) ∧ vW τ = vW (sv S)) (Z := fun r => ∃ r' A, r = some (r', A) ∧ frC M A) (n := 6) ?_ ?_ 6 0 10000 (A, 0) (by omega) (by omega) ⟨fun o ho => a2 o ho, sv S, a3.2.2, hf.2.1, rfl⟩
    · rintro k ⟨B, v⟩ i hi ⟨p1, τ, p2, p3, p4⟩
      simp only at p1 p2
      have q2 := RB_house1 (M := B) (o := 2) p2 (F := 1) (h := h) (x := i) (Or.inl rfl)
      have q3 := wb_house1 p3 (F := 1) (h := h) (x := i) (by omega)
      have q1 : ∀ o, o ≠ 2 → ju B 2 1 h (nI i) o = M o := fun o ho => by rw [ju_ne ho, p1 o ho]
      obtain ⟨r, hr⟩ := x_fits q2 q3 hrn (e9 _ q1) (by rw [vu1_W (Or.inl rfl), p4]; exact hw) hh
      refine ⟨(ju B 2 1 h (nI i), if r = 0 then v else v ||| bi i), ?_, q1, _, q2, q3, by rw [vu1_W (Or.inl rfl), p4]⟩
      simp only [f_X5_fittingKinds_l16]
      rw [if_neg (by rw [show (6 : Int32) = nI 6 from rfl, q_le (by omega) (by omega)]; omega), q_gd (by omega) (by omega), q_cl (by omega), hr, q_jb, show nI i + 1 = nI (i + 1) from nI_add i 1]
      split <;> rfl
    · rintro k ⟨B, v⟩ ⟨p1, -⟩
      refine ⟨v, B, ?_, fun o h1 _ _ => p1 o h1⟩
      simp only [f_X5_fittingKinds_l16]
      rw [if_pos (by decide)]
  · unfold f_X5_fittingFigures
    rw [a1, q_jb]
    refine loopE (L := fun k (a : jm × Int32) i => f_X5_fittingFigures_l16 (nI w) (nI h) k a.1 a.2 i) (P := fun i a => (∀ o, o ≠ 2 → a.1 o = M o) ∧ ∃ τ, RB (a.1 2) τ (vH (sv S)) ∧ wb τ (vH (sv S)) ∧ vW τ = vW (sv S)) (Z := fun r => ∃ r' A, r = some (r', A) ∧ frC M A) (n := 10) ?_ ?_ 10 0 10000 (A, 0) (by omega) (by omega) ⟨fun o ho => a2 o ho, sv S, a3.2.2, hf.2.1, rfl⟩
    · rintro k ⟨B, v⟩ i hi ⟨p1, τ, p2, p3, p4⟩
      simp only at p1 p2
      have q2 := RB_house1 (M := B) (o := 2) p2 (F := 2) (h := h) (x := i) (Or.inr rfl)
      have q3 := wb_house1 p3 (F := 2) (h := h) (x := i) (by omega)
      have q1 : ∀ o, o ≠ 2 → ju B 2 2 h (nI i) o = M o := fun o ho => by rw [ju_ne ho, p1 o ho]
      obtain ⟨r, hr⟩ := x_fits q2 q3 hrn (e9 _ q1) (by rw [vu1_W (Or.inr rfl), p4]; exact hw) hh
      refine ⟨(ju B 2 2 h (nI i), if r = 0 then v else v ||| ((1 : Int32) <<< (nI i &&& 31))), ?_, q1, _, q2, q3, by rw [vu1_W (Or.inr rfl), p4]⟩
      simp only [f_X5_fittingFigures_l16]
      rw [if_neg (by rw [show (10 : Int32) = nI 10 from rfl, q_le (by omega) (by omega)]; omega), q_gd (by omega) (by omega), q_cl (by omega), hr, q_jb, show nI i + 1 = nI (i + 1) from nI_add i 1]
      split <;> rfl
    · rintro k ⟨B, v⟩ ⟨p1, -⟩
      refine ⟨v, B, ?_, fun o h1 _ _ => p1 o h1⟩
      simp only [f_X5_fittingFigures_l16]
      rw [if_pos (by decide)]
theorem m_isRow {A : jm} {τ : vl} {rn : Nat} (hR : RM (A 16) τ) (hg : wg τ) (hK : KM (A 16 21) σ) (hs : wg σ) (hr : rn ≤ 12) (h36 : A 16 36 0 = nI rn) {w h : Nat} (hw : w < vW τ) (hh : h < vH τ) : ∃ r B, f_X6_isRow A (nI w) (nI h) = some (r, B) ∧ RM (B 16) σ ∧ KM (B 16 21) σ ∧ frT A B := by
  have hH := hg.1
  have hW := hg.2.1.2.1
  have key : ∀ d i k v B, i + d = rn → d < k → (v = 0 ∨ v = 1) → RM (B 16) (evN τ i) → KM (B 16 21) σ → frT A B → ∃ r C, f_X6_isRow_l5 (nI w) (nI h) k B v (nI i) = some (r, C) ∧ RM (C 16) σ ∧ KM (C 16 21) σ ∧ frT A C := by
    have fin : ∀ v B, (v = 0 ∨ v = 1) → KM (B 16 21) σ → frT A B → ∃ C, (jb (f_X6_again B) fun M_2 => (jgb v (some (v, M_2)))) = some (v, C) ∧ RM (C 16) σ ∧ KM (C 16 21) σ ∧ frT A C := by
      intro v B hv p2 p3
      obtain ⟨C, c1, c2, c3⟩ := m_again p2 hs
      refine ⟨C, ?_, c2, by rw [frA_21 c3]; exact p2, frT_trans p3 (frT_of c3)⟩
      rw [c1, q_jb]
      unfold jgb
      rw [if_pos hv]
    intro d
    induction d with
    | zero =>
      intro i k v B hi hk hv p1 p2 p3
      obtain ⟨k, rfl⟩ : ∃ j, k = j + 1 := ⟨k - 1, by omega⟩
      obtain ⟨C, c⟩ := fin v B hv p2 p3
      refine ⟨v, C, ?_, c.2⟩
      rw [f_X6_isRow_l5, if_pos (by rw [p3.2 36 (by omega) (by omega) (by omega) (by omega) (by omega), h36, q_le (by omega) (by omega)]; omega)]
      exact c.1
    | succ d ih =>
      intro i k v B hi hk hv p1 p2 p3
      obtain ⟨k, rfl⟩ : ∃ j, k = j + 1 := ⟨k - 1, by omega⟩
      rw [f_X6_isRow_l5, if_neg (by rw [p3.2 36 (by omega) (by omega) (by omega) (by omega) (by omega), h36, q_le (by omega) (by omega)]; omega)]
      by_cases z : v = 0
      · obtain ⟨C, c⟩ := fin v B hv p2 p3
        refine ⟨v, C, ?_, c.2⟩
        rw [if_pos z]
        exact c.1
      · obtain ⟨C, c1, c2, c3⟩ := m_evening p1 hg
        have st : ∀ t, (t = 0 ∨ t = 1) → ∃ r C, f_X6_isRow_j60 B (f_X6_isRow_l5 (nI w) (nI h) k) (nI w) (nI h) (nI i) t = some (r, C) ∧ RM (C 16) σ ∧ KM (C 16 21) σ ∧ frT A C := by
          intro t ht
          unfold f_X6_isRow_j60
          rw [c1, q_jb, show nI i + 1 = nI (i + 1) from nI_add i 1]
          exact ih (i + 1) k t C (by omega) (by omega) ht c2 (by rw [fr3_at c3 (by omega)]; exact p2) (frT_trans p3 (frT_of (frA_of c3)))
        have st2 : ∀ t u, ∃ r C, f_X6_isRow_j52 B (f_X6_isRow_l5 (nI w) (nI h) k) (nI w) (nI h) (nI i) t u = some (r, C) ∧ RM (C 16) σ ∧ KM (C 16 21) σ ∧ frT A C := by
          intro t u
          unfold f_X6_isRow_j52
          split
          · exact st 1 (Or.inr rfl)
          · exact st 0 (Or.inl rfl)
        rw [if_neg z, idx7, q_gd (by omega) (by omega), q_gd (by omega) (by omega)]
        split
        · exact st2 _ _
        · exact st2 _ _
  unfold f_X6_isRow
  exact key rn 0 10000 1 A (by omega) (by omega) (Or.inr rfl) (by rw [evN_0]; exact hR) hK (frT_of (frA_refl A))
theorem wf_house1 (hf : wf σ) {F h x : Nat} (hF : (F = 1 ∧ x < 6) ∨ (F = 2 ∧ x < 10)) : wf (vu σ F h x) := by
  obtain ⟨f1, f2, f3, f4⟩ := hf
  have eH : vH (vu σ F h x) = vH σ := vu1_H (by omega)
  have eW : vW (vu σ F h x) = vW σ := vu1_W (by omega)
  refine ⟨by rw [eH]; exact f1, by rw [eH]; exact wb_house1 f2 hF, fun w j q => ?_, by rw [vu_ne (by omega)]; exact f4⟩
  rw [eH, eW] at q
  rw [vu_ne (by omega)]; exact f3 w j q
theorem vu_id {F i : Nat} : vu σ F i (σ F i) = σ := by
  funext F' i'
  unfold vu
  split
  · rename_i q; rw [q.1, q.2]
  · rfl
theorem mq_what (hR : RM (M 16) σ) (hf : wf σ) {rn : Nat} (hr : rn ≤ 12) (h36 : M 16 36 0 = nI rn) {w h : Nat} (hw : w < vW σ) (hh : h < vH σ) {v : Int32} (hv : v = nI 0 ∨ v = nI 1) : ∃ r M2, jb (f_X6_think M) (fun M_3 => f_X6_whatKind_l40 (nI w) (nI h) v 10000 M_3 0 0) = some (r, M2) ∧ RM (M2 16) σ ∧ frT M M2 := by
  have hH := hf.1; have hW := hf.2.1.2.1
  have hg := wg_of hf
  obtain ⟨B, b1, b2, b3, b4⟩ := m_think hR
  rw [b1, q_jb]
  obtain ⟨n, hn1, hn2⟩ : ∃ n, n = (if v = 0 then 6 else 10) ∧ n ≤ 10 := ⟨_, rfl, by split <;> omega⟩
  have hb := hf.2.1.2.2.1 h hh
  refine loopE (L := fun k (a : jm × Int32) i => f_X6_whatKind_l40 (nI w) (nI h) v k a.1 a.2 i) (P := fun i a => RM (a.1 16) σ ∧ KM (a.1 16 21) σ ∧ frT M a.1) (Z := fun r => ∃ r' M2, r = some (r', M2) ∧ RM (M2 16) σ ∧ frT M M2) (n := n) ?_ ?_ n 0 10000 (B, 0) (by omega) (by omega) ⟨b2, b3, b4⟩
  · rintro k ⟨C, y⟩ i hi ⟨p1, p2, p3⟩
    simp only at p1 p2 p3
    -- whatever is set, a village in range
    have set : ∀ D τ, wf τ → vW τ = vW σ → vH τ = vH σ → RM (D 16) τ → KM (D 16 21) σ → frA C D → ∃ a', (jb2 (f_X6_isRow D (nI w) (nI h)) fun r8 M_8 => (if r8 = 0 then (f_X6_whatKind_l40 (nI w) (nI h) v k M_8 (y ||| 0) (nI i + 1)) else (f_X6_whatKind_l40 (nI w) (nI h) v k M_8 (y ||| ((1 : Int32) <<< (nI i &&& 31))) (nI i + 1)))) = f_X6_whatKind_l40 (nI w) (nI h) v k (a' : jm × Int32).1 a'.2 (nI (i + 1)) ∧ RM (a'.1 16) σ ∧ KM (a'.1 16 21) σ ∧ frT M a'.1 := by
      intro D τ hfτ tW tH rD kD fD
      obtain ⟨r, E, e1, e2, e3, e4⟩ := m_isRow rD (wg_of hfτ) kD hg hr (by rw [fD.2 36 (by omega) (by omega) (by omega) (by omega), p3.2 36 (by omega) (by omega) (by omega) (by omega) (by omega)]; exact h36) (w := w) (h := h) (by rw [tW]; exact hw) (by rw [tH]; exact hh)
      refine ⟨(E, if r = 0 then y ||| 0 else y ||| ((1 : Int32) <<< (nI i &&& 31))), ?_, e2, e3, frT_trans p3 (frT_trans (frT_of fD) e4)⟩
      rw [e1, q_jb2, show nI i + 1 = nI (i + 1) from nI_add i 1]
      split <;> rfl
    have c1 := (p1.2.2.2.1 h hh).1
    have c2 := (p1.2.2.2.1 h hh).2.1
    rcases hv with rfl | rfl
    · rw [if_pos (show (nI 0 : Int32) = 0 from rfl)] at hn1
      have r1 := RM_house p1 (F := 1) (h := h) (x := i) (by omega)
      have r2 := RM_house r1 (F := 2) (h := h) (x := vu σ 1 h i 2 h) (by omega)
      rw [vu_id] at r2
      have e2 : vu σ 1 h i 2 h = σ 2 h := vu_ne (by omega)
      rw [e2] at r2
      obtain ⟨a', x1, x2⟩ := set _ _ (wf_house1 hf (F := 1) (h := h) (x := i) (by omega)) (vu1_W (Or.inl rfl)) (vu1_H (Or.inl rfl)) r2 (by rw [ju_f (by omega), ju_f (by omega)]; exact p2) (frA_trans (frA_ju (by omega)) (frA_ju (by omega)))
      refine ⟨a', ?_, x2⟩
      simp only [f_X6_whatKind_l40, f_X6_whatKind_j53, f_X6_whatKind_j76, f_X6_whatKind_j98]
      rw [if_pos (show (nI 0 : Int32) = 0 from rfl), if_neg (by rw [show (6 : Int32) = nI 6 from rfl, q_le (by omega) (by omega)]; omega), if_pos (show (nI 0 : Int32) = 0 from rfl), q_gd (by omega) (by omega), if_neg (by decide), q_gd (by omega) (by omega), q_gd (by omega) (by omega), q_cl (by omega), show ju C 16 1 h (nI i) 16 2 h = nI (σ 2 h) by rw [ju_g (by omega)]; exact c2]
      exact x1
    · rw [if_neg (show ¬ (nI 1 : Int32) = 0 by decide)] at hn1
      have r1 := RM_house p1 (F := 1) (h := h) (x := σ 1 h) (by omega)
      rw [vu_id] at r1
      have r2 := RM_house r1 (F := 2) (h := h) (x := i) (by omega)
      obtain ⟨a', x1, x2⟩ := set _ _ (wf_house1 hf (F := 2) (h := h) (x := i) (by omega)) (vu1_W (Or.inr rfl)) (vu1_H (Or.inr rfl)) r2 (by rw [ju_f (by omega), ju_f (by omega)]; exact p2) (frA_trans (frA_ju (by omega)) (frA_ju (by omega)))
      refine ⟨a', ?_, x2⟩
      simp only [f_X6_whatKind_l40, f_X6_whatKind_j53, f_X6_whatKind_j76, f_X6_whatKind_j98]
      rw [if_neg (show ¬ (nI 1 : Int32) = 0 by decide), if_neg (by rw [show (10 : Int32) = nI 10 from rfl, q_le (by omega) (by omega)]; omega), if_neg (show ¬ (nI 1 : Int32) = 0 by decide), q_gd (by omega) (by omega), q_gd (by omega) (by omega), if_pos (show (nI 1 : Int32) = 1 from rfl), q_gd (by omega) (by omega), q_cl (by omega), c1]
      exact x1
  · rintro k ⟨C, y⟩ ⟨p1, p2, p3⟩
    simp only at p1 p2 p3
    refine ⟨y, C, ?_, p1, p3⟩
    simp only [f_X6_whatKind_l40, f_X6_whatKind_j53]
    rcases hv with rfl | rfl
    · rw [if_pos (show (nI 0 : Int32) = 0 from rfl)] at hn1
      rw [if_pos (show (nI 0 : Int32) = 0 from rfl), if_pos (by rw [hn1]; decide)]
    · rw [if_neg (show ¬ (nI 1 : Int32) = 0 by decide)] at hn1
      rw [if_neg (show ¬ (nI 1 : Int32) = 0 by decide), if_pos (by rw [hn1]; decide)]
theorem OT_q {R R' : Type} {a : Option (R × jm)} {b : jm → Option (R' × jm)} {r : R} {M1 : jm} (hJ : JJ M S) (ha : a = some (r, M1)) (h1 : frC M M1) (hb : RM (M1 16) (sv S) → wg (sv S) → ∃ r' M2, b M1 = some (r', M2) ∧ RM (M2 16) (sv S) ∧ frK M1 M2) : OT a b := by
  obtain ⟨jc, jr, jw⟩ := hJ
  have e16 : M1 16 = M 16 := h1 16 (by omega) (by omega) (by omega)
  obtain ⟨r', M2, e2, hR, hF⟩ := hb (by rw [e16]; exact jr.1) (wg_of jw.1)
  exact ⟨r, r', M1, M2, S, ha, e2, JC_fr (fun o a b c d => by rw [hF.1 o a, h1 o b c d]) jc, JR_sc hR hF.2 (JR_fr e16 jr), jw⟩
theorem ot_whatKind (hJ : JJ M S) (a b c : Int32) : OT (f_X5_whatKind M a b c) (fun M1 => f_X6_whatKind M1 a b c) := by
  obtain ⟨h0, h5, hB⟩ := J_C hJ; have hf := J_f hJ; have hH := hf.1; have hW := hf.2.1.2.1
  by_cases c1 : okv (vW (sv S)) a = true
  · by_cases c2 : okv (vH (sv S)) b = true
    · obtain ⟨w, hw, rfl⟩ := okv_ex (by omega) c1
      obtain ⟨h, hh, rfl⟩ := okv_ex (by omega) c2
      by_cases c3 : okv 2 c = true
      · have hc : c = nI 0 ∨ c = nI 1 := by
          obtain ⟨j, hj, rfl⟩ := okv_ex (by omega) c3
          rcases (show j = 0 ∨ j = 1 by omega) with rfl | rfl
          · exact Or.inl rfl
          · exact Or.inr rfl
        obtain ⟨⟨r1, A1, x1, y1⟩, ⟨r2, A2, x2, y2⟩⟩ := x_kinds hJ hw hh
        have hx : ∃ r A, f_X5_whatKind M (nI w) (nI h) c = some (r, A) ∧ frC M A := by
          unfold f_X5_whatKind f_X5_whatKind_j44
          rw [show f_X4_hasWalker M 1 (nI w) = nI 1 from by rw [p_hasW h5, if_pos c1], if_neg z10]
          rw [show f_X4_hasHouse M 1 (nI h) = nI 1 from by rw [p_hasH h0, if_pos c2], if_neg z10]
          rcases hc with rfl | rfl
          · refine ⟨r1, A1, ?_, y1⟩
            rw [if_pos (show (nI 0 : Int32) = 0 from rfl), if_pos (show (nI 0 : Int32) = 0 from rfl), x1, q_jb2]
          · refine ⟨r2, A2, ?_, y2⟩
            rw [if_neg (show ¬ (nI 1 : Int32) = 0 by decide), if_pos (show (nI 1 : Int32) = 1 from rfl), if_neg (show ¬ (nI 1 : Int32) = 0 by decide), x2, q_jb2]
        obtain ⟨r, A, x, y⟩ := hx
        refine OT_q hJ x y (fun hR hg => ?_)
        have e16 : A 16 = M 16 := y 16 (by omega) (by omega) (by omega)
        obtain ⟨r', C, g1, g2, g3⟩ := mq_what (M := ju A 16 11 0 0) (RM_ct hR) hf (rn := srn S) hJ.2.2.2.2.2.2.2.2.2.1 (by rw [ju_g (by omega), e16]; exact hJ.2.1.2.2.2.2.2.2.2.1) hw hh hc
        refine ⟨r', C, ?_, g2, frK_trans (frK_ct A) (frK_of g3)⟩
        show f_X6_whatKind A (nI w) (nI h) c = _
        unfold f_X6_whatKind
        rw [m_wbOK (RM_ct hR) hg hw hh, show (nI 0 : Int32) = 0 from rfl, wb_0 2 (by omega) (by decide), if_pos c3, if_pos n0]
        exact g1
      · have nn : ∀ j, j < 2 → ¬ c = nI j := fun j hj => okv_ne (by omega) c3 hj
        refine OK_t ?_
        refine OK_ref (k := 2) (by omega) hJ ?_ (fun M1 e16 _ => ?_)
        · unfold f_X5_whatKind
          rw [show f_X4_hasWalker M 1 (nI w) = nI 1 from by rw [p_hasW h5, if_pos c1], if_neg z10]
          rw [show f_X4_hasHouse M 1 (nI h) = nI 1 from by rw [p_hasH h0, if_pos c2], if_neg z10]
          rw [if_neg (show ¬ c = (0 : Int32) from nn 0 (by omega)), if_neg (show ¬ c = (1 : Int32) from nn 1 (by omega))]; rfl
        · show f_X6_whatKind M1 (nI w) (nI h) c = _
          unfold f_X6_whatKind
          rw [m_wbOK (J_R hJ e16) (wg_of hf) hw hh, show (nI 0 : Int32) = 0 from rfl, wb_0 2 (by omega) (by decide), if_neg c3, if_neg n2]; rfl
    · refine OK_t ?_
      refine OK_ref (k := 1) (by omega) hJ ?_ (fun M1 e16 _ => ?_)
      · unfold f_X5_whatKind
        rw [show f_X4_hasWalker M 1 a = nI 1 from by rw [p_hasW h5, if_pos c1], if_neg z10]
        rw [show f_X4_hasHouse M 1 b = nI 0 from by rw [p_hasH h0, if_neg c2], if_pos z00]; rfl
      · show f_X6_whatKind M1 a b c = _
        unfold f_X6_whatKind
        rw [m_wb2 (J_R hJ e16) (wg_of hf) c2, wb_no (by decide), if_neg n1]; rfl
  · refine OK_t ?_
    refine OK_ref (k := 1) (by omega) hJ ?_ (fun M1 e16 _ => ?_)
    · unfold f_X5_whatKind
      rw [show f_X4_hasWalker M 1 a = nI 0 from by rw [p_hasW h5, if_neg c1], if_pos z00]; rfl
    · show f_X6_whatKind M1 a b c = _
      unfold f_X6_whatKind
      rw [m_wb1 (J_R hJ e16) (wg_of hf) c1, wb_no (by decide), if_neg n1]; rfl
end Asks
