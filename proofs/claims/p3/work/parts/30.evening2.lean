theorem q_tst1 (x : Int32) {h : Nat} (hh : h < 8) : (x >>> (nI h &&& nI 31)) &&& nI 1 = nI 1 ↔ bt x h = true := by
  have hb : ∀ i, i < 32 → bt ((x >>> (nI h &&& nI 31)) &&& nI 1) i = (bt x h && decide (i = 0)) := by
    intro i hi
    rw [b_and, bt_1 i hi]
    rw [show (nI 31 : Int32) = 31 from rfl, b_sshr h (by omega) x hi]
    by_cases e : i = 0
    · subst e; rw [if_pos (by omega)]; simp
    · simp [e]
  constructor
  · intro e
    have := hb 0 (by omega)
    rw [e, bt_1 0 (by omega)] at this
    simpa using this.symm
  · intro e
    apply b_ext
    intro i hi
    rw [hb i hi, e, bt_1 i hi]
    simp
theorem m_hasBit (x : Int32) {h : Nat} (hh : h < 8) : f_X6_hasBit x (nI h) = if bt x h = true then nI 1 else nI 0 := by
  unfold f_X6_hasBit
  have e : ((x >>> (nI h &&& 31)) &&& 1 = 1) ↔ bt x h = true := q_tst1 x hh
  by_cases q : bt x h = true
  · rw [if_pos (e.mpr q), if_pos q]; rfl
  · rw [if_neg (fun z => q (e.mp z)), if_neg q]; rfl
theorem bs_bt (p : Nat → Bool) {h : Nat} (hh : h < 8) : ∀ n, n ≤ 8 → bt (nI (bs p n)) h = (decide (h < n) && p h)
  | 0, _ => by
    show bt (nI 0) h = _
    rw [show (nI 0 : Int32) = 0 from rfl, b_0]; simp
  | n + 1, hn => by
    show bt (nI (bs p n + if p n then 2 ^ n else 0)) h = _
    by_cases q : p n = true
    · rw [if_pos q, ← bi_or (bs_lt p n) (by omega), q_or _ (by omega) hh, bs_bt p hh n (by omega)]
      by_cases e : h = n
      · subst e; simp [q]
      · by_cases e2 : h < n
        · simp [e2, e, show h < n + 1 by omega]
        · simp [e2, e, show ¬ h < n + 1 by omega]
    · rw [if_neg q, Nat.add_zero, bs_bt p hh n (by omega)]
      by_cases e : h = n
      · subst e; simp [q]
      · by_cases e2 : h < n
        · simp [e2, show h < n + 1 by omega]
        · simp [e2, show ¬ h < n + 1 by omega]
def fr3 (M0 M : jm) : Prop := (∀ o, o ≠ 16 → M o = M0 o) ∧ ∀ f, f ≠ 6 → f ≠ 9 → f ≠ 10 → M 16 f = M0 16 f
theorem stepW_eq {τ : vl} {b : Bool} {w : Nat} : stepW τ b (w + 1) w (vH τ) = stepW τ b (w + 1) (w + 1) 0 := by
  funext F i
  unfold stepW
  by_cases h6 : F = 6
  · rw [if_pos h6, if_pos h6]
  · rw [if_neg h6, if_neg h6]
    by_cases h20 : 20 ≤ F
    · rw [if_pos h20, if_pos h20]
      by_cases c : i < vH τ
      · by_cases c2 : F - 20 < w + 1
        · have e1 : (F - 20 < w ∨ F - 20 = w ∧ i < vH τ) := by omega
          have e2 : (F - 20 < w + 1 ∨ F - 20 = w + 1 ∧ i < 0) := by omega
          simp only [e1, e2]
        · have e1 : ¬ (F - 20 < w ∨ F - 20 = w ∧ i < vH τ) := by omega
          have e2 : ¬ (F - 20 < w + 1 ∨ F - 20 = w + 1 ∧ i < 0) := by omega
          simp only [e1, e2]
      · simp only [c, false_and, and_false]
    · rw [if_neg h20, if_neg h20]
theorem m_ev112 {M0 : jm} {τ : vl} (hf : wg τ) {b : Bool} {w : Nat} (hw : w < vW τ) (K60 : jm → Int32 → Option jm) (v1 s : Int32) (hs : ∀ h, h < vH τ → bt s h = (decide (b = false) && see τ w (twd (τ 6 w) (τ 7 w)) h)) {k : Nat} {M : jm} (hk : vH τ < k) (hM : RM (M 16) (stepW τ b (w + 1) w 0) ∧ fr3 M0 M) : ∃ M', f_X6_eveningBy_l112 K60 v1 (nI w) s k M 0 = K60 M' (nI (w + 1)) ∧ RM (M' 16) (stepW τ b (w + 1) (w + 1) 0) ∧ fr3 M0 M' := by
  have hH := hf.1
  have hW := hf.2.1.2.1
  rw [← stepW_eq]
  refine loopE (L := fun k (M : jm) i => f_X6_eveningBy_l112 K60 v1 (nI w) s k M i) (P := fun h M => RM (M 16) (stepW τ b (w + 1) w h) ∧ fr3 M0 M) (Z := fun r => ∃ M', r = K60 M' (nI (w + 1)) ∧ RM (M' 16) (stepW τ b (w + 1) w (vH τ)) ∧ fr3 M0 M') (n := vH τ) ?_ ?_ (vH τ) 0 k M (by omega) hk hM
  · rintro k M h hh ⟨hR, hF⟩
    have g0 : M 16 0 0 = nI (vH τ) := by
      have := hR.1
      rw [this]; show nI (stepW τ b (w + 1) w h 0 0) = nI (τ 0 0); rw [stepW_lo (by omega) (by omega)]
    have g9 : M 16 9 (7 * w + h) = nI (τ (20 + w) h) := by
      rw [hR.2.2.2.2.2 w (by omega) h (by omega), stepW_20, if_neg (by omega)]
    have hd := hf.2.1.2.2.2.2 w h
    have ei : 7 * nI w + nI h = nI (7 * w + h) := by
      rw [show (7 : Int32) = nI 7 from rfl, pk_mul, nI_add]
    have e1 : nI h + 1 = nI (h + 1) := nI_add h 1
    have same : f_X6_eveningBy_j160 M K60 (f_X6_eveningBy_l112 K60 v1 (nI w) s k) v1 (nI w) s (nI h) (nI (7 * w + h)) = f_X6_eveningBy_l112 K60 v1 (nI w) s k M (nI (h + 1)) := by
      unfold f_X6_eveningBy_j160
      rw [ei, q_gd (by omega) (by omega), q_gd (by omega) (by omega), q_cl (by omega), ju_id, e1]
    have ext : ∀ {g σ'}, RM g σ' → (∀ F i, F < 20 → σ' F i = stepW τ b (w + 1) w h F i) → (∀ j i, ¬ (j = w ∧ i = h) → σ' (20 + j) i = stepW τ b (w + 1) w h (20 + j) i) → σ' (20 + w) h = (if τ (20 + w) h = 0 ∧ b = false ∧ see τ w (twd (τ 6 w) (τ 7 w)) h = true then 1 else τ (20 + w) h) → RM g (stepW τ b (w + 1) w (h + 1)) := by
      intro g σ' hR' x1 x2 x3
      have y : ∀ F i, F < 20 → stepW τ b (w + 1) w (h + 1) F i = σ' F i := by
        intro F i hF
        rw [x1 F i hF]
        by_cases z : F = 6
        · subst z; rw [stepW_6, stepW_6]
        · rw [stepW_lo hF z, stepW_lo hF z]
      refine RM_ext hR' (y 0 0 (by omega)) (y 5 0 (by omega)) (y 10 0 (by omega)) (fun i _ => ⟨y 1 i (by omega), y 2 i (by omega), y 3 i (by omega), y 4 i (by omega)⟩) (fun i _ => ⟨y 6 i (by omega), y 7 i (by omega), y 8 i (by omega)⟩) (fun j hj i hi => ?_)
      by_cases z : j = w ∧ i = h
      · obtain ⟨rfl, rfl⟩ := z
        rw [x3, stepW_20]
        by_cases c : τ (20 + j) i = 0 ∧ b = false ∧ see τ j (twd (τ 6 j) (τ 7 j)) i = true
        · rw [if_pos c, if_pos ⟨Or.inr ⟨rfl, by omega⟩, hh, c⟩]
        · rw [if_neg c, if_neg (fun z => c z.2.2)]
      · rw [x2 j i z, stepW_20, stepW_20]
        have c : (j < w ∨ j = w ∧ i < h + 1) ↔ (j < w ∨ j = w ∧ i < h) := by omega
        simp only [c]
    simp only [f_X6_eveningBy_l112]
    rw [if_neg (by rw [g0, q_le (by omega) (by omega)]; omega), ei, q_gd (by omega) (by omega), q_cl (by omega), g9]
    by_cases z : τ (20 + w) h = 0
    · rw [z, if_pos (show nI 0 = (0 : Int32) from rfl), m_hasBit s (by omega), hs h hh]
      by_cases c : b = false ∧ see τ w (twd (τ 6 w) (τ 7 w)) h = true
      · rw [if_neg (by simp [c.1, c.2]; decide), q_gd (by omega) (by omega), e1]
        refine ⟨_, rfl, ?_, ?_⟩
        · refine ext (RM_debt (d := 1) hR (w := w) (h := h) (by omega)) (fun F i q => debt_lo q) (fun j i q => ?_) ?_
          · show vu _ (20 + w) h 1 (20 + j) i = _; rw [vu_ne (by omega)]
          · show vu _ (20 + w) h 1 (20 + w) h = _; rw [vu_same, if_pos ⟨z, c⟩]
        · exact ⟨fun o ho => by rw [ju_ne ho, hF.1 o ho], fun f q1 q2 q3 => by rw [ju_f q2, hF.2 f q1 q2 q3]⟩
      · have c' : ¬ ((decide (b = false) && see τ w (twd (τ 6 w) (τ 7 w)) h) = true) := by simpa using c
        rw [if_neg c', if_pos (show nI 0 = (0 : Int32) from rfl), same]
        refine ⟨M, rfl, ?_, hF⟩
        refine ext hR (fun F i q => rfl) (fun j i q => rfl) ?_
        rw [stepW_20, if_neg (by omega), if_neg (fun q => c q.2)]
    · rw [if_neg (show ¬ nI (τ (20 + w) h) = (0 : Int32) from fun q => z ((q_eq (by omega) (by omega)).mp q)), same]
      refine ⟨M, rfl, ?_, hF⟩
      refine ext hR (fun F i q => rfl) (fun j i q => rfl) ?_
      rw [stepW_20, if_neg (by omega), if_neg (fun q => z q.1)]
  · rintro k M ⟨hR, hF⟩
    have g0 : M 16 0 0 = nI (vH τ) := by
      have := hR.1
      rw [this]; show nI (stepW τ b (w + 1) w (vH τ) 0 0) = nI (τ 0 0); rw [stepW_lo (by omega) (by omega)]
    simp only [f_X6_eveningBy_l112]
    rw [if_pos (by rw [g0]; exact (q_le (by omega) (by omega)).mpr (Nat.le_refl _)), show nI w + 1 = nI (w + 1) from nI_add w 1]
    exact ⟨M, rfl, hR, hF⟩
theorem m_ev60 {M0 : jm} {τ : vl} (hf : wg τ) {b : Bool} {k : Nat} {M : jm} (hk : vW τ < k) (hM : RM (M 16) (stepW τ b 0 0 0) ∧ fr3 M0 M) : ∃ M', f_X6_eveningBy_l60 (if b then 1 else 0) k M 0 = some M' ∧ RM (M' 16) (stepW τ b (vW τ) (vW τ) 0) ∧ fr3 M0 M' := by
  have hH := hf.1
  have hW := hf.2.1.2.1
  refine loopE (L := fun k (M : jm) i => f_X6_eveningBy_l60 (if b then 1 else 0) k M i) (P := fun w M => RM (M 16) (stepW τ b w w 0) ∧ fr3 M0 M) (Z := fun r => ∃ M', r = some M' ∧ RM (M' 16) (stepW τ b (vW τ) (vW τ) 0) ∧ fr3 M0 M') (n := vW τ) ?_ ?_ (vW τ) 0 k M (by omega) hk hM
  · rintro k M w hw ⟨hR, hF⟩
    have eW : vW (stepW τ b w w 0) = vW τ := stepW_lo (by omega) (by omega)
    obtain ⟨k6, k7, k8⟩ := hR.2.2.2.2.1 w (by rw [eW]; exact hw)
    obtain ⟨a1, a2, a3⟩ := hf.2.1.2.2.2.1 w hw
    have n6 : M 16 6 w = nI (τ 6 w) := by rw [k6, stepW_6, if_neg (by omega)]
    have n7 : M 16 7 w = nI (τ 7 w) := by rw [k7, stepW_lo (by omega) (by omega)]
    have hc := twd_lt _ a1 _ a2
    have hR1 : RM (ju M 16 6 w (nI (twd (τ 6 w) (τ 7 w))) 16) (stepW τ b (w + 1) w 0) := by
      refine RM_ext (RM_at hR (w := w) (c := twd (τ 6 w) (τ 7 w))) ?_ ?_ ?_ (fun h _ => ?_) (fun j _ => ?_) (fun j _ h _ => ?_)
      · rw [vu_ne (by omega), stepW_lo (by omega) (by omega), stepW_lo (by omega) (by omega)]
      · rw [vu_ne (by omega), stepW_lo (by omega) (by omega), stepW_lo (by omega) (by omega)]
      · rw [vu_ne (by omega), stepW_lo (by omega) (by omega), stepW_lo (by omega) (by omega)]
      · rw [vu_ne (by omega), vu_ne (by omega), vu_ne (by omega), vu_ne (by omega), stepW_lo (by omega) (by omega), stepW_lo (by omega) (by omega), stepW_lo (by omega) (by omega), stepW_lo (by omega) (by omega), stepW_lo (by omega) (by omega), stepW_lo (by omega) (by omega), stepW_lo (by omega) (by omega), stepW_lo (by omega) (by omega)]; exact ⟨rfl, rfl, rfl, rfl⟩
      · rw [vu_ne (F' := 7) (by omega), vu_ne (F' := 8) (by omega), stepW_lo (F := 7) (by omega) (by omega), stepW_lo (F := 8) (by omega) (by omega), stepW_lo (F := 7) (by omega) (by omega), stepW_lo (F := 8) (by omega) (by omega)]
        refine ⟨?_, rfl, rfl⟩
        by_cases e : j = w
        · subst e; rw [vu_same, stepW_6, if_pos (by omega)]
        · rw [vu_ne (by omega), stepW_6, stepW_6]
          by_cases e2 : j < w
          · rw [if_pos (by omega), if_pos e2]
          · rw [if_neg (by omega), if_neg e2]
      · rw [vu_ne (by omega), stepW_20, stepW_20]
    have hF1 : fr3 M0 (ju M 16 6 w (nI (twd (τ 6 w) (τ 7 w)))) := ⟨fun o ho => by rw [ju_ne ho, hF.1 o ho], fun f q1 q2 q3 => by rw [ju_f q1, hF.2 f q1 q2 q3]⟩
    have e1 : ∃ s : Int32, (f_X6_eveningBy_l60 (if b then 1 else 0) (k + 1) M (nI w) = f_X6_eveningBy_j108 (ju M 16 6 w (nI (twd (τ 6 w) (τ 7 w)))) (f_X6_eveningBy_l60 (if b then 1 else 0) k) (if b then 1 else 0) (nI w) s) ∧ ∀ h, h < vH τ → bt s h = (decide (b = false) && see τ w (twd (τ 6 w) (τ 7 w)) h) := by
      have g5 : M 16 5 0 = nI (vW τ) := by rw [hR.2.1, eW]
      simp only [f_X6_eveningBy_l60]
      rw [if_neg (by rw [g5, q_le (by omega) (by omega)]; omega), q_gd (by omega) (by omega), q_gd (by omega) (by omega), q_gd (by omega) (by omega), q_cl (by omega), n6, n7, m_towards _ a1 _ a2]
      cases b with
      | true =>
        refine ⟨0, ?_, fun h hh => ?_⟩
        · rw [if_neg (by decide)]
        · rw [b_0]; rfl
      | false =>
        have eH : vH (stepW τ false (w + 1) w 0) = vH τ := stepW_lo (by omega) (by omega)
        have eW1 : vW (stepW τ false (w + 1) w 0) = vW τ := stepW_lo (by omega) (by omega)
        have q := m_seenFrom hR1 (wg_stepW hf (by omega) (by omega)) (w := w) (c := twd (τ 6 w) (τ 7 w)) (by rw [eW1]; exact hw) hc
        refine ⟨nI (bs (see (stepW τ false (w + 1) w 0) w (twd (τ 6 w) (τ 7 w))) (vH (stepW τ false (w + 1) w 0))), ?_, fun h hh => ?_⟩
        · rw [if_pos (show (if false = true then (1 : Int32) else 0) = 0 from rfl), q_gd (by omega) (by omega), ju_self, q, q_jb]
        · rw [eH, bs_bt _ (by omega) _ (by omega), see_congr (σ := τ) (stepW_lo (by omega) (by omega)) (stepW_lo (by omega) (by omega)) (stepW_lo (by omega) (by omega)) (stepW_lo (by omega) (by omega)) (stepW_lo (by omega) (by omega))]
          simp [hh]
    obtain ⟨s, e1, hs⟩ := e1
    obtain ⟨M', e2, hM'⟩ := m_ev112 hf hw (f_X6_eveningBy_l60 (if b then 1 else 0) k) (if b then 1 else 0) s hs (k := 10000) (by omega) ⟨hR1, hF1⟩
    refine ⟨M', ?_, hM'⟩
    rw [e1]
    unfold f_X6_eveningBy_j108
    exact e2
  · rintro k M ⟨hR, hF⟩
    have eW : vW (stepW τ b (vW τ) (vW τ) 0) = vW τ := stepW_lo (by omega) (by omega)
    have g5 : M 16 5 0 = nI (vW τ) := by rw [hR.2.1, eW]
    simp only [f_X6_eveningBy_l60]
    rw [if_pos (by rw [g5]; exact (q_le (by omega) (by omega)).mpr (Nat.le_refl _))]
    exact ⟨M, rfl, hR, hF⟩
theorem m_eveningBy {M : jm} {σ : vl} (hR : RM (M 16) σ) (hf : wg σ) (b : Bool) : ∃ M', f_X6_eveningBy M (if b then 1 else 0) = some M' ∧ RM (M' 16) (evM b σ) ∧ fr3 M M' := by
  have hH := hf.1
  have hW := hf.2.1.2.1
  have key : ∀ k M1, 42 < k → ((∀ o, o ≠ 16 → M1 o = M o) ∧ (∀ f, f ≠ 9 → f ≠ 10 → M1 16 f = M 16 f) ∧ M1 16 10 0 = nI (σ 10 0 + 1) ∧ ∀ w, w < 6 → ∀ h, h < 7 → M1 16 9 (7 * w + h) = nI (if 7 * w + h < 0 then b0 (σ (20 + w) h) else σ (20 + w) h)) → ∃ M', f_X6_eveningBy_l12 (if b then 1 else 0) k M1 0 = some M' ∧ RM (M' 16) (evM b σ) ∧ fr3 M M' := by
    intro k M1 hk hM1
    refine loopE (L := fun k (M : jm) i => f_X6_eveningBy_l12 (if b then 1 else 0) k M i) (P := fun i M1 => (∀ o, o ≠ 16 → M1 o = M o) ∧ (∀ f, f ≠ 9 → f ≠ 10 → M1 16 f = M 16 f) ∧ M1 16 10 0 = nI (σ 10 0 + 1) ∧ ∀ w, w < 6 → ∀ h, h < 7 → M1 16 9 (7 * w + h) = nI (if 7 * w + h < i then b0 (σ (20 + w) h) else σ (20 + w) h)) (Z := fun r => ∃ M', r = some M' ∧ RM (M' 16) (evM b σ) ∧ fr3 M M') (n := 42) ?_ ?_ 42 0 k M1 (by omega) hk hM1
    · rintro k M1 i hi ⟨h1, h2, h3, h4⟩
      have v : M1 16 9 i = nI (σ (20 + i / 7) (i % 7)) := by
        have := h4 (i / 7) (by omega) (i % 7) (by omega)
        rw [show 7 * (i / 7) + i % 7 = i by omega, if_neg (by omega)] at this
        exact this
      have hd := hf.2.1.2.2.2.2 (i / 7) (i % 7)
      have e1 : nI i + 1 = nI (i + 1) := nI_add i 1
      refine ⟨ju M1 16 9 i (nI (b0 (σ (20 + i / 7) (i % 7)))), ?_, fun o ho => by rw [ju_ne ho, h1 o ho], fun f q1 q2 => by rw [ju_f q1, h2 f q1 q2], by rw [ju_g (by omega), h3], fun w hw h hh => ?_⟩
      · simp only [f_X6_eveningBy_l12]
        rw [if_neg (by rw [show (42 : Int32) = nI 42 from rfl, q_le (by omega) (by omega)]; omega), q_gd (by omega) (by omega), q_gd (by omega) (by omega), q_cl (by omega), v, e1, q_gd (by omega) (by omega), q_gd (by omega) (by omega), q_gd (by omega) (by omega)]
        unfold b0
        by_cases z : σ (20 + i / 7) (i % 7) = 0
        · rw [z, if_pos (by decide), if_pos rfl]; rfl
        · rw [if_neg (by rw [show (0 : Int32) = nI 0 from rfl, q_le (by omega) (by omega)]; omega), if_neg z]
          by_cases z2 : 100 ≤ σ (20 + i / 7) (i % 7)
          · rw [if_pos (by rw [show (100 : Int32) = nI 100 from rfl, q_le (by omega) (by omega)]; omega), show σ (20 + i / 7) (i % 7) = 100 by omega]; rfl
          · rw [if_neg (by rw [show (100 : Int32) = nI 100 from rfl, q_le (by omega) (by omega)]; omega), show nI (σ (20 + i / 7) (i % 7)) + 1 = nI (σ (20 + i / 7) (i % 7) + 1) from nI_add _ 1, show min 100 (σ (20 + i / 7) (i % 7) + 1) = σ (20 + i / 7) (i % 7) + 1 by omega]
      · rw [ju_o]
        by_cases e : 7 * w + h = i
        · rw [if_pos ⟨rfl, e⟩, if_pos (by omega), show i / 7 = w by omega, show i % 7 = h by omega]
        · rw [if_neg (fun z => e z.2), h4 w hw h hh]
          by_cases e2 : 7 * w + h < i
          · rw [if_pos e2, if_pos (by omega)]
          · rw [if_neg e2, if_neg (by omega)]
    · rintro k M1 ⟨h1, h2, h3, h4⟩
      simp only [f_X6_eveningBy_l12]
      rw [if_pos (by decide)]
      have hR1 : RM (M1 16) (stepW (grow σ) b 0 0 0) := by
        obtain ⟨r1, r2, r3, r4, r5, r6⟩ := hR
        have eH : vH (stepW (grow σ) b 0 0 0) = vH σ := by show stepW (grow σ) b 0 0 0 0 0 = _; rw [stepW_lo (by omega) (by omega), grow_lo (by omega) (by omega)]; rfl
        have eW : vW (stepW (grow σ) b 0 0 0) = vW σ := by show stepW (grow σ) b 0 0 0 5 0 = _; rw [stepW_lo (by omega) (by omega), grow_lo (by omega) (by omega)]; rfl
        have eo : ∀ F i, F < 20 → F ≠ 10 → stepW (grow σ) b 0 0 0 F i = σ F i := by
          intro F i q q2
          by_cases z : F = 6
          · subst z; rw [stepW_6, if_neg (by omega), grow_lo (by omega) (by omega)]
          · rw [stepW_lo q z, grow_lo q (by omega)]
        refine ⟨by rw [eH, h2 0 (by omega) (by omega)]; exact r1, by rw [eW, h2 5 (by omega) (by omega)]; exact r2, by rw [h3, stepW_lo (by omega) (by omega), grow_10], fun h hh => ?_, fun w hw => ?_, fun w hw h hh => ?_⟩
        · rw [eH] at hh
          rw [h2 1 (by omega) (by omega), h2 2 (by omega) (by omega), h2 3 (by omega) (by omega), h2 4 (by omega) (by omega), eo 1 h (by omega) (by omega), eo 2 h (by omega) (by omega), eo 3 h (by omega) (by omega), eo 4 h (by omega) (by omega)]; exact r4 h hh
        · rw [eW] at hw
          rw [h2 6 (by omega) (by omega), h2 7 (by omega) (by omega), h2 8 (by omega) (by omega), eo 6 w (by omega) (by omega), eo 7 w (by omega) (by omega), eo 8 w (by omega) (by omega)]; exact r5 w hw
        · rw [h4 w hw h hh, if_pos (by omega), stepW_20, if_neg (by omega), grow_20]
      have eWg : vW (grow σ) = vW σ := by show grow σ 5 0 = _; rw [grow_lo (by omega) (by omega)]; rfl
      have := m_ev60 (M0 := M) (wg_grow hf) (b := b) (k := 10000) (M := M1) (by rw [eWg]; omega) ⟨hR1, h1, fun f q1 q2 q3 => h2 f q2 q3⟩
      rw [eWg] at this
      exact this
  unfold f_X6_eveningBy
  refine key 10000 _ (by omega) ⟨fun o ho => by rw [ju_ne ho], fun f q1 q2 => by rw [ju_f q2], by rw [ju_self, hR.2.2.1]; exact nI_add _ 1, fun w hw h hh => ?_⟩
  rw [ju_g (by omega), if_neg (by omega)]
  exact hR.2.2.2.2.2 w hw h hh
theorem fr3_trans {M N K : jm} (a : fr3 M N) (b : fr3 N K) : fr3 M K := ⟨fun o ho => by rw [b.1 o ho, a.1 o ho], fun f q1 q2 q3 => by rw [b.2 f q1 q2 q3, a.2 f q1 q2 q3]⟩
theorem m_evening {M : jm} {σ : vl} {n : Nat} (hR : RM (M 16) (evN σ n)) (hf : wg σ) : ∃ M', f_X6_eveningBy M 0 = some M' ∧ RM (M' 16) (evN σ (n + 1)) ∧ fr3 M M' := by
  obtain ⟨M', e, h1, h2⟩ := m_eveningBy hR (wg_ev hf) false
  rw [evM_false (wg_ev hf), evN_add] at h1
  exact ⟨M', e, h1, h2⟩
theorem m_goEvenings {M : jm} {σ : vl} {n : Nat} (hR : RM (M 16) σ) (hf : wg σ) (hn : n < 9000) : ∃ M', f_X6_goEvenings M (nI n) = some M' ∧ RM (M' 16) (evN σ n) ∧ fr3 M M' := by
  unfold f_X6_goEvenings
  refine loopE (L := fun k (M : jm) i => f_X6_goEvenings_l2 (nI n) k M i) (P := fun i N => RM (N 16) (evN σ i) ∧ fr3 M N) (Z := fun r => ∃ M', r = some M' ∧ RM (M' 16) (evN σ n) ∧ fr3 M M') (n := n) ?_ ?_ n 0 10000 M (by omega) (by omega) ⟨by rw [evN_0]; exact hR, fun o _ => rfl, fun f _ _ _ => rfl⟩
  · rintro k N i hi ⟨h1, h2⟩
    obtain ⟨N', e, h3, h4⟩ := m_evening h1 hf
    refine ⟨N', ?_, h3, fr3_trans h2 h4⟩
    simp only [f_X6_goEvenings_l2]
    rw [if_neg (by rw [q_le (by omega) (by omega)]; omega), e, q_jb, show nI i + 1 = nI (i + 1) from nI_add i 1]
  · rintro k N ⟨h1, h2⟩
    simp only [f_X6_goEvenings_l2]
    rw [if_pos ((q_le (by omega) (by omega)).mpr (Nat.le_refl _))]
    exact ⟨N, rfl, h1, h2⟩
