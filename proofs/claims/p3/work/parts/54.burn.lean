/-! burn -/
theorem bs_or {p : Nat → Bool} {n i : Nat} (hn : n ≤ 8) (hi : i < n) : nI (bs p n) ||| bi i = nI (bs (fun w => p w || decide (w = i)) n) := by
  apply b_ext
  intro j hj
  rw [b_or, bt_bi i (by omega) j hj]
  by_cases c : j < 8
  · rw [bs_bt _ c _ hn, bs_bt _ c _ hn]
    by_cases c2 : j < n
    · simp [c2]
    · have : ¬ j = i := by omega
      simp [c2, this]
  · rw [bt_hi _ (bs_lt8 hn) j hj (by omega), bt_hi _ (bs_lt8 hn) j hj (by omega)]
    simp [show ¬ j = i by omega]
section Burn
variable {σ : vl}
/-- whether w meets a candle in c on one of the first n evenings -/
def mt (σ : vl) (c w : Nat) : Nat → Bool
  | 0 => false
  | k + 1 => mt σ c w k || decide (σ 8 w ≠ 0 ∧ stp (pl σ w (k + 1)) c ≤ σ 8 w)
def mtc (σ : vl) (n c : Nat) : Nat := cn (fun w => mt σ c w n) (vW σ)
theorem candle_see {c w p : Nat} (h8 : σ 8 w ≤ 2) : see (addH σ 0 0 c) w p (vH σ) = decide (σ 8 w ≠ 0 ∧ stp p c ≤ σ 8 w) := by
  unfold see rg
  rw [addH_1, addH_2, addH_3, addH_4, addH_lo (F := 8) (by omega) (by omega)]
  have e : rch 0 0 = 2 := rfl
  rw [e]
  by_cases q : σ 8 w = 2
  · rw [if_pos q, q]; simp
  · rw [if_neg q]
    by_cases q1 : σ 8 w = 1
    · rw [q1]; simp
    · have q0 : σ 8 w = 0 := by omega
      rw [q0]; simp
theorem candle_owe {c w : Nat} (hf : wg σ) (h8 : σ 8 w ≤ 2) : ∀ n, owe (addH σ 0 0 c) n w (vH σ) = mt σ c w n
  | 0 => by
    have e : dk (addH σ 0 0 c) w (vH σ) 0 = 0 := by
      show addH σ 0 0 c (20 + w) (vH σ) = 0
      rw [addH_lo (by omega) (by omega)]
      exact hf.2.2 w (vH σ) (Or.inr (Nat.le_refl _))
    unfold owe
    rw [e]; rfl
  | n + 1 => by
    have ih := candle_owe (c := c) hf h8 n
    have ep : ∀ k, pl (addH σ 0 0 c) w k = pl σ w k := pl_congr (addH_lo (by omega) (by omega)) (addH_lo (by omega) (by omega))
    unfold owe at ih ⊢
    unfold dk mt
    rw [candle_see h8, ep]
    by_cases z : dk (addH σ 0 0 c) w (vH σ) n = 0
    · rw [z] at ih
      rw [if_pos z, ← ih]
      by_cases y : σ 8 w ≠ 0 ∧ stp (pl σ w (n + 1)) c ≤ σ 8 w
      · simp [y]
      · simp [y]
    · rw [if_neg z, ← ih]
      simp [z]
end Burn
section Asks
variable {M : jm} {S : St} {σ : vl}
theorem p_setCandle {A : jm} (hR : RW (A 2) σ) (hH : vH σ ≤ 7) : ∃ B, f_X4_setCandle A 2 = some (nI (vH σ), B) ∧ (∀ o, o ≠ 2 → B o = A o) ∧ ∀ c, RB (ju B 2 3 (vH σ) (nI c) 2) (addH σ 0 0 c) (vH σ + 1) := by
  refine ⟨ju (ju (ju A 2 1 (vH σ) 0) 2 2 (vH σ) 0) 2 4 0 (A 2 4 0 ||| bi (vH σ)), ?_, fun o ho => by rw [ju_ne ho, ju_ne ho, ju_ne ho], fun c => ?_⟩
  · have e1 : ∀ x : Int32, ju A 2 1 (vH σ) x 2 0 0 = nI (vH σ) := fun x => by rw [ju_g (by omega)]; exact hR.1
    have e2 : ∀ x y : Int32, ju (ju A 2 1 (vH σ) x) 2 2 (vH σ) y 2 0 0 = nI (vH σ) := fun x y => by rw [ju_g (by omega), ju_g (by omega)]; exact hR.1
    have e3 : ∀ x y : Int32, ju (ju A 2 1 (vH σ) x) 2 2 (vH σ) y 2 4 0 = A 2 4 0 := fun x y => by rw [ju_g (by omega), ju_g (by omega)]
    have e4 : ∀ x y z : Int32, ju (ju (ju A 2 1 (vH σ) x) 2 2 (vH σ) y) 2 4 0 z 2 0 0 = nI (vH σ) := fun x y z => by rw [ju_g (by omega), ju_g (by omega), ju_g (by omega)]; exact hR.1
    unfold f_X4_setCandle
    rw [hR.1, q_gd (by omega) (by omega), q_cl (by omega), e1, q_gd (by omega) (by omega), q_cl (by omega), e2, e3, e4]
    rfl
  · refine RB_house (M := A) (M' := ju (ju (ju (ju A 2 1 (vH σ) 0) 2 2 (vH σ) 0) 2 4 0 (A 2 4 0 ||| bi (vH σ))) 2 3 (vH σ) (nI c)) hR.2.2 (x := A 2 4 0 ||| bi (vH σ)) ?_ ?_ (by omega) (fun i => ?_) (fun i => ?_) (fun i => ?_) (fun F hF => ?_)
    · rw [ju_g (by omega), ju_g (by omega), ju_g (by omega), ju_g (by omega)]
    · rw [ju_g (by omega), ju_self]
    · rw [ju_g (by omega), ju_g (by omega), ju_g (by omega), ju_o]
      by_cases q : i = vH σ
      · rw [if_pos ⟨rfl, q⟩, if_pos q]; rfl
      · rw [if_neg (fun z => q z.2), if_neg q]
    · rw [ju_g (by omega), ju_g (by omega), ju_o]
      by_cases q : i = vH σ
      · rw [if_pos ⟨rfl, q⟩, if_pos q]; rfl
      · rw [if_neg (fun z => q z.2), if_neg q, ju_g (by omega)]
    · rw [ju_o]
      by_cases q : i = vH σ
      · rw [if_pos ⟨rfl, q⟩, if_pos q]
      · rw [if_neg (fun z => q z.2), if_neg q, ju_g (by omega), ju_g (by omega), ju_g (by omega)]
    · rw [ju_f (by omega), ju_f (by omega), ju_f (by omega), ju_f (by omega)]
theorem x_burn (hJ : JJ M S) {n : Nat} (hn : n ≤ 60) (v : Int32) : ∃ A, f_X5_burn_j41 M (nI n) v = some ((if v = 0 then (ff (amf (mtc (sv S) n)) 49 0 (nI 0, nI 0)).1 else (ff (amf (mtc (sv S) n)) 49 0 (nI 0, nI 0)).2), A) ∧ frC M A := by
  obtain ⟨h0, h5, hB⟩ := J_C hJ; have hf := J_f hJ; have hH := hf.1; have hW := hf.2.1.2.1
  have hg := wg_of hf
  obtain ⟨A, a1, a2, a3⟩ := p_becomeRW (M := M) (o := 2) (o1 := 1) (σ := sv S) (by omega) hJ.1.1
  obtain ⟨B, b1, b2, b3⟩ := p_setCandle a3 hH
  unfold f_X5_burn_j41
  rw [a1, q_jb, b1, q_jb2]
  refine loopE (L := fun k (a : jm × Int32 × Int32) i => f_X5_burn_l69 (nI n) v (nI (vH (sv S))) k a.1 a.2.1 a.2.2 i) (P := fun i a => (∀ o, o ≠ 2 → a.1 o = M o) ∧ (∀ c, RB (ju a.1 2 3 (vH (sv S)) (nI c) 2) (addH (sv S) 0 0 c) (vH (sv S) + 1)) ∧ a.2 = ff (amf (mtc (sv S) n)) i 0 (nI 0, nI 0)) (Z := fun r => ∃ A, r = some ((if v = 0 then (ff (amf (mtc (sv S) n)) 49 0 (nI 0, nI 0)).1 else (ff (amf (mtc (sv S) n)) 49 0 (nI 0, nI 0)).2), A) ∧ frC M A) (n := 49) ?_ ?_ 49 0 10000 (B, 0, 0) (by omega) (by omega) ⟨fun o ho => by show B o = M o; rw [b2 o ho, a2 o ho], b3, rfl⟩
  · rintro k ⟨C, u⟩ i hi ⟨p1, p2, p3⟩
    simp only at p1 p2 p3
    subst p3
    have eo := p_owersBehind (h := vH (sv S)) (n := n) (p2 i) (wb_addH hf.2.1 hH (by omega) (by omega) hi) (by omega) (by omega)
    rw [addH_W] at eo
    have ec : bs (fun w => owe (addH (sv S) 0 0 i) n w (vH (sv S))) (vW (sv S)) = bs (fun w => mt (sv S) i w n) (vW (sv S)) := bs_congr _ (fun w hw => candle_owe hg (hf.2.1.2.2.2.1 w hw).2.2 n)
    rw [ec] at eo
    refine ⟨(ju C 2 3 (vH (sv S)) (nI i), ff (amf (mtc (sv S) n)) (i + 1) 0 (nI 0, nI 0)), ?_, fun o ho => by show ju C 2 3 (vH (sv S)) (nI i) o = M o; rw [ju_ne ho, p1 o ho], fun c => ?_, rfl⟩
    · simp only [f_X5_burn_l69]
      rw [if_neg (by rw [show (49 : Int32) = nI 49 from rfl, q_le (by omega) (by omega)]; omega), q_gd (by omega) (by omega), q_cl (by omega), eo, q_jb, p_bitCount (by omega), show nI i + 1 = nI (i + 1) from nI_add i 1, ff_succ, Nat.zero_add]
      show (if nI (mtc (sv S) n i) ≤ _ then _ else _) = _
      unfold amf
      split <;> rfl
    · have e : ju (ju C 2 3 (vH (sv S)) (nI i)) 2 3 (vH (sv S)) (nI c) = ju C 2 3 (vH (sv S)) (nI c) := by
        funext o f j
        unfold ju
        split <;> rfl
      rw [e]; exact p2 c
  · rintro k ⟨C, u⟩ ⟨p1, p2, p3⟩
    simp only at p1 p2 p3
    refine ⟨C, ?_, fun o h1 _ _ => p1 o h1⟩
    simp only [f_X5_burn_l69]
    rw [if_pos (by rw [show (49 : Int32) = nI 49 from rfl, q_le (by omega) (by omega)]; omega), p3]
    by_cases z : v = 0
    · rw [if_pos z, if_pos z]
    · rw [if_neg z, if_neg z]
def bmk (σ : vl) (k i : Nat) (c : Nat) : Nat := bs (fun w => if w < i then mt σ c w (k + 1) else mt σ c w k) (vW σ)
theorem m_burn85 {N : jm} (hf : wg σ) {k i : Nat} (hi : i < vW σ) (K59 K73 : jm → Int32 → Option (Int32 × jm)) (v1 v2 v4 : Int32) {A : jm} (hA : RM (A 16) (evN σ (k + 1))) (h34 : ∀ c, c < 49 → A 16 34 c = nI (bmk σ k i c)) (hfr : frK N A) (hk : KM (A 16 21) σ) : ∃ B, f_X6_burn_l85 K59 K73 v1 v2 v4 (nI i) 10000 A 0 = K73 B (nI (i + 1)) ∧ RM (B 16) (evN σ (k + 1)) ∧ (∀ c, c < 49 → B 16 34 c = nI (bmk σ k (i + 1) c)) ∧ frK N B ∧ KM (B 16 21) σ := by
  have hH := hf.1; have hW := hf.2.1.2.1
  have h8 := (hf.2.1.2.2.2.1 i hi).2.2
  have hpl := pl_lt hf.2.1 hi (k + 1)
  obtain ⟨g1, g2, g3⟩ := hA.2.2.2.2.1 i (by rw [evN_W]; exact hi)
  rw [evN_at hi] at g1
  rw [evN_lo σ (k + 1) 8 i (by omega)] at g3
  have step : ∀ c, bmk σ k (i + 1) c = bs (fun w => (if w < i then mt σ c w (k + 1) else mt σ c w k) || (decide (w = i) && decide (σ 8 i ≠ 0 ∧ stp (pl σ i (k + 1)) c ≤ σ 8 i))) (vW σ) := by
    intro c
    refine bs_congr _ (fun w hw => ?_)
    by_cases q : w = i
    · subst q
      rw [if_pos (by omega), if_neg (by omega)]
      simp [mt]
    · by_cases q2 : w < i
      · rw [if_pos (by omega), if_pos q2]; simp [q]
      · rw [if_neg (by omega), if_neg q2]; simp [q]
  by_cases z : σ 8 i = 0
  · refine ⟨A, ?_, hA, fun c hc => ?_, hfr, hk⟩
    · rw [f_X6_burn_l85, if_neg (by decide), q_gd (by omega) (by omega), q_cl (by omega), g3, if_pos (by rw [z]; decide), show nI i + 1 = nI (i + 1) from nI_add i 1]
    · rw [h34 c hc, step]
      congr 1
      exact bs_congr _ (fun w _ => by simp [z])
  · refine loopE (L := fun kk (a : jm) c => f_X6_burn_l85 K59 K73 v1 v2 v4 (nI i) kk a c) (P := fun c0 a => RM (a 16) (evN σ (k + 1)) ∧ (∀ c, c < 49 → a 16 34 c = nI (bmk σ k (if c < c0 then i + 1 else i) c)) ∧ frK N a ∧ KM (a 16 21) σ) (Z := fun r => ∃ B, r = K73 B (nI (i + 1)) ∧ RM (B 16) (evN σ (k + 1)) ∧ (∀ c, c < 49 → B 16 34 c = nI (bmk σ k (i + 1) c)) ∧ frK N B ∧ KM (B 16 21) σ) (n := 49) ?_ ?_ 49 0 10000 A (by omega) (by omega) ⟨hA, fun c hc => by rw [if_neg (by omega)]; exact h34 c hc, hfr, hk⟩
    · rintro kk C c0 hc ⟨p1, p2, p3, p4⟩
      obtain ⟨g1, g2, g3⟩ := p1.2.2.2.2.1 i (by rw [evN_W]; exact hi)
      rw [evN_at hi] at g1
      rw [evN_lo σ (k + 1) 8 i (by omega)] at g3
      have hs := stp_lt _ hpl _ hc
      have v := p2 c0 hc
      rw [if_neg (by omega)] at v
      have fin : ∀ x : Int32, x = nI (bmk σ k (i + 1) c0) → RM (ju C 16 34 c0 x 16) (evN σ (k + 1)) ∧ (∀ c, c < 49 → ju C 16 34 c0 x 16 34 c = nI (bmk σ k (if c < c0 + 1 then i + 1 else i) c)) ∧ frK N (ju C 16 34 c0 x) ∧ KM (ju C 16 34 c0 x 16 21) σ := by
        rintro x rfl
        refine ⟨RM_fe (fun f hf => ju_f (by omega)) p1, fun c hc2 => ?_, frK_trans p3 (frK_ju (by unfold kp; omega)), by rw [ju_f (by omega)]; exact p4⟩
        rw [ju_o]
        by_cases q : c = c0
        · subst q; rw [if_pos ⟨rfl, rfl⟩, if_pos (by omega)]
        · rw [if_neg (fun y => q y.2), p2 c hc2]
          by_cases q2 : c < c0
          · rw [if_pos q2, if_pos (by omega)]
          · rw [if_neg q2, if_neg (by omega)]
      simp only [f_X6_burn_l85]
      rw [if_neg (by rw [show (49 : Int32) = nI 49 from rfl, q_le (by omega) (by omega)]; omega), q_gd (by omega) (by omega), q_cl (by omega), g3, if_neg (by rw [show (0 : Int32) = nI 0 from rfl, q_le (by omega) (by omega)]; omega), q_gd hc (by omega), q_gd (by omega) (by omega), q_gd (by omega) (by omega), g1, m_stepsOf _ hpl _ hc, q_gd hc (by omega), q_cl (by omega), v, show nI c0 + 1 = nI (c0 + 1) from nI_add c0 1]
      by_cases y : stp (pl σ i (k + 1)) c0 ≤ σ 8 i
      · refine ⟨_, by rw [if_neg (by rw [q_lt (by omega) (by omega)]; omega), q_gd hc (by omega)], fin _ ?_⟩
        show nI (bmk σ k i c0) ||| bi i = _
        unfold bmk
        rw [bs_or (by omega) hi, ← bmk, step]
        congr 1
        exact bs_congr _ (fun w _ => by simp [z, y])
      · refine ⟨_, by rw [if_pos (by rw [q_lt (by omega) (by omega)]; omega)], fin _ ?_⟩
        show nI (bmk σ k i c0) ||| nI 0 = _
        rw [q_or0, step]
        congr 1
        exact bs_congr _ (fun w _ => by simp [y])
    · rintro kk C ⟨p1, p2, p3, p4⟩
      refine ⟨C, ?_, p1, fun c hc => by rw [p2 c hc, if_pos hc], p3, p4⟩
      simp only [f_X6_burn_l85]
      rw [if_pos (by rw [show (49 : Int32) = nI 49 from rfl, q_le (by omega) (by omega)]; omega), show nI i + 1 = nI (i + 1) from nI_add i 1]
theorem bmk_0 {k : Nat} (c : Nat) : bmk σ k 0 c = bs (fun w => mt σ c w k) (vW σ) := bs_congr _ (fun w _ => by rw [if_neg (by omega)])
theorem bmk_W {k : Nat} (c : Nat) : bmk σ k (vW σ) c = bs (fun w => mt σ c w (k + 1)) (vW σ) := bs_congr _ (fun w hw => by rw [if_pos hw])
theorem m_burn170 {B : jm} (hW : vW σ ≤ 6) {n : Nat} (h34 : ∀ c, c < 49 → B 16 34 c = nI (bs (fun w => mt σ c w n) (vW σ))) (v : Int32) : f_X6_burn_l170 v 10000 B 0 1 = some ((if v = 0 then (ff (amf (mtc σ n)) 49 0 (nI 0, nI 0)).1 else (ff (amf (mtc σ n)) 49 0 (nI 0, nI 0)).2), B) := by
  have on : ∀ c, c < 49 → f_X6_onesOf (B 16 34 c) = some (nI (mtc σ n c)) := fun c hc => by rw [h34 c hc, m_onesOf (by omega)]; rfl
  have hle : ∀ c, mtc σ n c ≤ 6 := fun c => Nat.le_trans (cn_le _ _) hW
  have key : ∀ d i k b, i + d = 49 → d < k → 1 ≤ i → b < 49 → ff (amf (mtc σ n)) i 0 (nI 0, nI 0) = (nI b, nI (mtc σ n b)) → f_X6_burn_l170 v k B (nI b) (nI i) = some ((if v = 0 then (ff (amf (mtc σ n)) 49 0 (nI 0, nI 0)).1 else (ff (amf (mtc σ n)) 49 0 (nI 0, nI 0)).2), B) := by
    intro d
    induction d with
    | zero =>
      intro i k b hi hk h1 hb e
      obtain ⟨k, rfl⟩ : ∃ j, k = j + 1 := ⟨k - 1, by omega⟩
      have ei : i = 49 := by omega
      subst ei
      rw [e, f_X6_burn_l170, if_pos (by decide)]
      by_cases z : v = 0
      · rw [if_pos z, if_pos z]
      · rw [if_neg z, if_neg z, q_gd hb (by omega), q_cl (by omega), on b hb, q_jb]
    | succ d ih =>
      intro i k b hi hk h1 hb e
      obtain ⟨k, rfl⟩ : ∃ j, k = j + 1 := ⟨k - 1, by omega⟩
      rw [f_X6_burn_l170, if_neg (by rw [show (49 : Int32) = nI 49 from rfl, q_le (by omega) (by omega)]; omega), q_gd (by omega) (by omega), q_cl (by omega), on i (by omega), q_jb, q_gd hb (by omega), q_cl (by omega), on b hb, q_jb, show nI i + 1 = nI (i + 1) from nI_add i 1]
      have a1 := hle i
      have a2 := hle b
      by_cases z : nI (mtc σ n i) ≤ nI (mtc σ n b)
      · rw [if_pos z]
        refine ih (i + 1) k b (by omega) (by omega) (by omega) hb ?_
        rw [ff_succ, Nat.zero_add, e]
        unfold amf
        rw [if_pos z]
      · rw [if_neg z]
        refine ih (i + 1) k i (by omega) (by omega) (by omega) (by omega) ?_
        rw [ff_succ, Nat.zero_add, e]
        unfold amf
        rw [if_neg z]
  refine key 48 1 10000 0 (by omega) (by omega) (by omega) (by omega) ?_
  show amf (mtc σ n) 0 (nI 0, nI 0) = _
  have a0 := hle 0
  unfold amf
  simp only
  by_cases z : mtc σ n 0 = 0
  · rw [z]; simp
  · rw [if_neg (by rw [q_le (by omega) (by omega)]; omega)]
theorem mq_burn (hR : RM (M 16) σ) (hf : wg σ) {n : Nat} (hn : n ≤ 60) (v : Int32) : ∃ M2, f_X6_burn_l31 (nI n) v 10000 M 0 = some ((if v = 0 then (ff (amf (mtc σ n)) 49 0 (nI 0, nI 0)).1 else (ff (amf (mtc σ n)) 49 0 (nI 0, nI 0)).2), M2) ∧ RM (M2 16) σ ∧ frK M M2 := by
  have hH := hf.1; have hW := hf.2.1.2.1
  refine loopE (L := fun k (a : jm) c => f_X6_burn_l31 (nI n) v k a c) (P := fun c0 a => RM (a 16) σ ∧ (∀ c, c < c0 → a 16 34 c = nI 0) ∧ frK M a) (Z := fun r => ∃ M2, r = some ((if v = 0 then (ff (amf (mtc σ n)) 49 0 (nI 0, nI 0)).1 else (ff (amf (mtc σ n)) 49 0 (nI 0, nI 0)).2), M2) ∧ RM (M2 16) σ ∧ frK M M2) (n := 49) ?_ ?_ 49 0 10000 M (by omega) (by omega) ⟨hR, fun c hc => by omega, frK_of (frT_of (frA_refl M))⟩
  · rintro k A c0 hc ⟨p1, p2, p3⟩
    refine ⟨ju A 16 34 c0 (nI 0), ?_, RM_fe (fun f hf => ju_f (by omega)) p1, fun c hc2 => ?_, frK_trans p3 (frK_ju (by unfold kp; omega))⟩
    · simp only [f_X6_burn_l31]
      rw [if_neg (by rw [show (49 : Int32) = nI 49 from rfl, q_le (by omega) (by omega)]; omega), q_gd hc (by omega), q_cl (by omega), show nI c0 + 1 = nI (c0 + 1) from nI_add c0 1]; rfl
    · rw [ju_o]
      by_cases q : c = c0
      · rw [if_pos ⟨rfl, q⟩]
      · rw [if_neg (fun y => q y.2)]; exact p2 c (by omega)
  · rintro k A ⟨p1, p2, p3⟩
    obtain ⟨B, b1, b2, b3, b4⟩ := m_think p1
    simp only [f_X6_burn_l31]
    rw [if_pos (by rw [show (49 : Int32) = nI 49 from rfl, q_le (by omega) (by omega)]; omega), b1, q_jb]
    have i0 : ∀ c, c < 49 → B 16 34 c = nI (bs (fun w => mt σ c w 0) (vW σ)) := fun c hc => by
      rw [b4.2 34 (by omega) (by omega) (by omega) (by omega) (by omega), p2 c hc]
      congr 1
      symm
      rw [bs_0]
      intro i _; rfl
    refine loopE (L := fun k (a : jm) i => f_X6_burn_l59 (nI n) v k a i) (P := fun i a => RM (a 16) (evN σ i) ∧ KM (a 16 21) σ ∧ frK M a ∧ (∀ c, c < 49 → a 16 34 c = nI (bs (fun w => mt σ c w i) (vW σ)))) (Z := fun r => ∃ M2, r = some ((if v = 0 then (ff (amf (mtc σ n)) 49 0 (nI 0, nI 0)).1 else (ff (amf (mtc σ n)) 49 0 (nI 0, nI 0)).2), M2) ∧ RM (M2 16) σ ∧ frK M M2) (n := n) ?_ ?_ n 0 10000 B (by omega) (by omega) ⟨by rw [evN_0]; exact b2, b3, frK_trans p3 (frK_of b4), i0⟩
    · rintro kk C i hi ⟨q1, q2, q3, q4⟩
      obtain ⟨D, d1, d2, d3⟩ := m_evening q1 hf
      simp only [f_X6_burn_l59]
      rw [if_neg (by rw [q_le (by omega) (by omega)]; omega), d1, q_jb]
      have kD : KM (D 16 21) σ := by rw [fr3_at d3 (by omega)]; exact q2
      have fD : frK M D := frK_trans q3 (frK_of (frT_of (frA_of d3)))
      have eW : vW (evN σ (i + 1)) = vW σ := evN_W σ (i + 1)
      refine loopE (L := fun k2 (a : jm) w => f_X6_burn_l73 (f_X6_burn_l59 (nI n) v kk) (nI n) v (nI i) k2 a w) (P := fun w a => RM (a 16) (evN σ (i + 1)) ∧ (∀ c, c < 49 → a 16 34 c = nI (bmk σ i w c)) ∧ frK M a ∧ KM (a 16 21) σ) (Z := fun r => ∃ a', r = f_X6_burn_l59 (nI n) v kk a' (nI (i + 1)) ∧ RM (a' 16) (evN σ (i + 1)) ∧ KM (a' 16 21) σ ∧ frK M a' ∧ (∀ c, c < 49 → a' 16 34 c = nI (bs (fun w => mt σ c w (i + 1)) (vW σ)))) (n := vW σ) ?_ ?_ (vW σ) 0 10000 D (by omega) (by omega) ⟨d2, fun c hc => by rw [fr3_at d3 (by omega), q4 c hc, bmk_0], fD, kD⟩
      · rintro k2 E w hw ⟨r1, r2, r3, r4⟩
        obtain ⟨F, f1, f2, f3, f4, f5⟩ := m_burn85 (N := M) hf hw (f_X6_burn_l59 (nI n) v kk) (f_X6_burn_l73 (f_X6_burn_l59 (nI n) v kk) (nI n) v (nI i) k2) (nI n) v (nI i) r1 r2 r3 r4
        refine ⟨F, ?_, f2, f3, f4, f5⟩
        simp only [f_X6_burn_l73]
        rw [if_neg (by rw [r1.2.1, eW, q_le (by omega) (by omega)]; omega)]
        exact f1
      · rintro k2 E ⟨r1, r2, r3, r4⟩
        refine ⟨E, ?_, r1, r4, r3, fun c hc => by rw [r2 c hc, bmk_W]⟩
        simp only [f_X6_burn_l73]
        rw [if_pos (by rw [r1.2.1, eW, q_le (by omega) (by omega)]; omega), show nI i + 1 = nI (i + 1) from nI_add i 1]
    · rintro kk C ⟨q1, q2, q3, q4⟩
      obtain ⟨D, d1, d2, d3⟩ := m_again q2 hf
      refine ⟨D, ?_, d2, frK_trans q3 (frK_of (frT_of d3))⟩
      simp only [f_X6_burn_l59]
      rw [if_pos (by rw [q_le (by omega) (by omega)]; omega), d1, q_jb]
      exact m_burn170 hW (fun c hc => by rw [d3.2 34 (by omega) (by omega) (by omega) (by omega)]; exact q4 c hc) v
theorem ok_burn (hJ : JJ M S) (a b : Int32) : OK (f_X5_burn M a b) (fun M1 => f_X6_burn M1 a b) := by
  obtain ⟨h0, h5, hB⟩ := J_C hJ; have hf := J_f hJ; have hH := hf.1; have hW := hf.2.1.2.1
  have hw1 : ∀ v : Int32, ¬ (1 : Int32) ≤ v → f_X6_wrongNumber v 1 30 = -4 := fun v h => by unfold f_X6_wrongNumber; rw [if_neg h]
  by_cases c1 : (1 : Int32) ≤ a
  · by_cases c2 : a ≤ 30
    · obtain ⟨n, hn, rfl⟩ : ∃ n, n ≤ 30 ∧ a = nI n := by
        obtain ⟨j, hj, rfl⟩ := nI_of (x := a) (fun z => by
          rw [Int32.lt_iff_toInt_lt] at z
          rw [Int32.le_iff_toInt_le] at c1
          have e0 : (0 : Int32).toInt = 0 := rfl
          have e1 : (1 : Int32).toInt = 1 := rfl
          omega)
        rw [show (30 : Int32) = nI 30 from rfl, q_le hj (by omega)] at c2
        exact ⟨j, c2, rfl⟩
      have wn : f_X6_wrongNumber (nI n) 1 30 = 0 := by unfold f_X6_wrongNumber; rw [if_pos c1, if_pos c2]
      by_cases c3 : okv 2 b = true
      · obtain ⟨A, x1, x2⟩ := x_burn hJ (show n ≤ 60 by omega) b
        refine OK_q hJ (M1 := A) (r := (if b = 0 then (ff (amf (mtc (sv S) n)) 49 0 (nI 0, nI 0)).1 else (ff (amf (mtc (sv S) n)) 49 0 (nI 0, nI 0)).2)) ?_ x2 (fun hR hg => ?_)
        · unfold f_X5_burn
          rw [if_pos c1, if_pos c2, x1]
          have hb : b = nI 0 ∨ b = nI 1 := by
            obtain ⟨j, hj, rfl⟩ := okv_ex (by omega) c3
            rcases (show j = 0 ∨ j = 1 by omega) with rfl | rfl
            · exact Or.inl rfl
            · exact Or.inr rfl
          rcases hb with rfl | rfl <;> rfl
        · obtain ⟨C, g1, g2, g3⟩ := mq_burn (M := ju A 16 11 0 0) (RM_ct hR) hg (show n ≤ 60 by omega) b
          refine ⟨C, ?_, g2, frK_trans (frK_ct A) g3⟩
          show f_X6_burn A (nI n) b = _
          unfold f_X6_burn
          rw [wn, wb_0 2 (by omega) (by decide), if_pos c3, if_pos n0]
          exact g1
      · have nn : ∀ j, j < 2 → ¬ b = nI j := fun j hj => okv_ne (by omega) c3 hj
        refine OK_ref (k := 2) (by omega) hJ ?_ (fun M1 e16 _ => ?_)
        · unfold f_X5_burn
          rw [if_pos c1, if_pos c2, if_neg (show ¬ b = (0 : Int32) from nn 0 (by omega)), if_neg (show ¬ b = (1 : Int32) from nn 1 (by omega))]; rfl
        · show f_X6_burn M1 (nI n) b = _
          unfold f_X6_burn
          rw [wn, wb_0 2 (by omega) (by decide), if_neg c3, if_neg n2]; rfl
    · refine OK_ref (k := 6) (by omega) hJ ?_ (fun M1 e16 _ => ?_)
      · unfold f_X5_burn
        rw [if_pos c1, if_neg c2]; rfl
      · show f_X6_burn M1 a b = _
        unfold f_X6_burn
        rw [show f_X6_wrongNumber a 1 30 = -6 from by unfold f_X6_wrongNumber; rw [if_pos c1, if_neg c2], wb_no (by decide), if_neg n6]; rfl
  · refine OK_ref (k := 4) (by omega) hJ ?_ (fun M1 e16 _ => ?_)
    · unfold f_X5_burn
      rw [if_neg c1]; rfl
    · show f_X6_burn M1 a b = _
      unfold f_X6_burn
      rw [hw1 a c1, wb_no (by decide), if_neg n4]; rfl
end Asks
