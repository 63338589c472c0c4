/-! the way home: both sides come to an answer -/
theorem loopX {α R : Type} (L : Nat → α → Int32 → Option R) (P : Nat → α → Prop) (Z : Option R → Prop) (n : Nat) (hs : ∀ k a i, i < n → P i a → Z (L (k + 1) a (nI i)) ∨ ∃ a', L (k + 1) a (nI i) = L k a' (nI (i + 1)) ∧ P (i + 1) a') (he : ∀ k a, P n a → Z (L (k + 1) a (nI n))) :
    ∀ (d i k : Nat) (a : α), i + d = n → d < k → P i a → Z (L k a (nI i)) := by
  intro d
  induction d with
  | zero =>
    intro i k a hi hk hp
    obtain ⟨k, rfl⟩ : ∃ j, k = j + 1 := ⟨k - 1, by omega⟩
    have e : i = n := by omega
    subst e
    exact he k a hp
  | succ d ih =>
    intro i k a hi hk hp
    obtain ⟨k, rfl⟩ : ∃ j, k = j + 1 := ⟨k - 1, by omega⟩
    rcases hs k a i (by omega) hp with h | ⟨a', h1, h2⟩
    · exact h
    · rw [h1]
      exact ih (i + 1) k _ (by omega) (by omega) h2
theorem i_inc (i : Nat) : nI i + 1 = nI (i + 1) := nI_add i 1
section Wx
variable {M : jm}
theorem x_openE (v : Int32) : ∃ r, f_X3_openCells M v = some r := by
  refine loopE (fun k a i => f_X3_openCells_l5 M v k a i) (fun _ _ => True) (fun o => ∃ r, o = some r) 49 (fun k a i hi _ => ?_) (fun k a _ => ?_) 49 0 10000 0 rfl (by omega) trivial
  · show ∃ a', f_X3_openCells_l5 M v (k + 1) a (nI i) = f_X3_openCells_l5 M v k a' (nI (i + 1)) ∧ True
    rw [f_X3_openCells_l5, if_neg (by rw [show (49 : Int32) = nI 49 from rfl, q_le (by omega) (by omega)]; omega), q_gd (by omega) (by omega), i_inc]
    by_cases c : M 14 0 (Int32.toNatClampNeg (nI i)) &&& (v ^^^ -1) = 0
    · rw [if_pos c]; exact ⟨_, rfl, trivial⟩
    · rw [if_neg c]; exact ⟨_, rfl, trivial⟩
  · show ∃ r, f_X3_openCells_l5 M v (k + 1) a (nI 49) = some r
    rw [f_X3_openCells_l5, if_pos (by decide)]
    exact ⟨_, rfl⟩
theorem x_overE (v : Int64) {a b : Nat} (ha : a < 49) (hb : b < 49) : ∃ r, f_X3_shortestOver v (nI a) (nI b) = some r := by
  have hT := stp_lt a ha b hb
  unfold f_X3_shortestOver
  rw [p_steps a ha b hb, show (12 : Int32) = nI 12 from rfl, nI_add]
  refine loopX (fun k c i => f_X3_shortestOver_l18 v (nI b) (nI (stp a b + 12)) k c i) (fun i _ => 1 ≤ i) (fun o => ∃ r, o = some r) (stp a b + 13) (fun k c i hi _ => ?_) (fun k c _ => ?_) (stp a b + 12) 1 10000 _ (by omega) (by omega) (Nat.le_refl 1)
  · show (∃ r, f_X3_shortestOver_l18 v (nI b) (nI (stp a b + 12)) (k + 1) c (nI i) = some r) ∨ ∃ a', f_X3_shortestOver_l18 v (nI b) (nI (stp a b + 12)) (k + 1) c (nI i) = f_X3_shortestOver_l18 v (nI b) (nI (stp a b + 12)) k a' (nI (i + 1)) ∧ 1 ≤ i + 1
    rw [f_X3_shortestOver_l18, if_neg (by rw [q_lt (by omega) (by omega)]; omega), i_inc]
    split
    · exact Or.inr ⟨_, rfl, by omega⟩
    · exact Or.inl ⟨_, rfl⟩
  · show ∃ r, f_X3_shortestOver_l18 v (nI b) (nI (stp a b + 12)) (k + 1) c (nI (stp a b + 13)) = some r
    rw [f_X3_shortestOver_l18, if_pos (by rw [q_lt (by omega) (by omega)]; omega)]
    exact ⟨_, rfl⟩
theorem x_atE (v : Int32) {H a b : Nat} (hH : H < 8) (ha : a < 49) (hb : b < 49) : ∃ r, f_X3_shortestAt M v (nI H) (nI a) (nI b) = some r := by
  have h2 : 2 ^ H < 2 ^ 8 := Nat.pow_lt_pow_right (by omega) hH
  have eb : (1 : Int32) <<< (nI H &&& 31) = nI (2 ^ H) := bi_eq H hH
  unfold f_X3_shortestAt
  refine loopE (fun k c i => f_X3_shortestAt_l7 M v (nI H) (nI a) (nI b) k c i) (fun _ _ => True) (fun o => ∃ r, o = some r) (2 ^ H) (fun k c i hi _ => ?_) (fun k c _ => ?_) (2 ^ H) 0 10000 _ (by omega) (by omega) trivial
  · show ∃ a', f_X3_shortestAt_l7 M v (nI H) (nI a) (nI b) (k + 1) c (nI i) = f_X3_shortestAt_l7 M v (nI H) (nI a) (nI b) k a' (nI (i + 1)) ∧ True
    obtain ⟨r3, e3⟩ := x_openE (M := M) (nI i)
    obtain ⟨r4, e4⟩ := x_overE r3 ha hb
    rw [f_X3_shortestAt_l7, eb, if_neg (by rw [q_le (by omega) (by omega)]; omega), i_inc, q_gd (by omega) (by omega), e3, q_jb, e4, q_jb]
    repeat' split
    all_goals exact ⟨_, rfl, trivial⟩
  · show ∃ r, f_X3_shortestAt_l7 M v (nI H) (nI a) (nI b) (k + 1) c (nI (2 ^ H)) = some r
    rw [f_X3_shortestAt_l7, eb, if_pos ((q_le (by omega) (by omega)).mpr (Nat.le_refl _))]
    exact ⟨_, rfl⟩
theorem x_findLE {H a b : Nat} (hH : H < 8) (ha : a < 49) (hb : b < 49) : ∃ M', f_X3_find_l77 1 (nI b) (nI a) (nI H) 10000 M (nI 0) = some M' ∧ ∀ o, o ≠ 14 → M' o = M o := by
  refine loopX (fun k c i => f_X3_find_l77 1 (nI b) (nI a) (nI H) k c i) (fun _ (c : jm) => ∀ o, o ≠ 14 → c o = M o) (fun o => ∃ M', o = some M' ∧ ∀ o, o ≠ 14 → M' o = M o) H (fun k c i hi hp => ?_) (fun k c hp => ?_) H 0 10000 M (by omega) (by omega) (fun _ _ => rfl)
  · show (∃ M', f_X3_find_l77 1 (nI b) (nI a) (nI H) (k + 1) c (nI i) = some M' ∧ ∀ o, o ≠ 14 → M' o = M o) ∨ ∃ c', f_X3_find_l77 1 (nI b) (nI a) (nI H) (k + 1) c (nI i) = f_X3_find_l77 1 (nI b) (nI a) (nI H) k c' (nI (i + 1)) ∧ ∀ o, o ≠ 14 → c' o = M o
    obtain ⟨r, e⟩ := x_atE (M := ju c 14 1 0 (nI i)) (nI i) hH ha hb
    rw [f_X3_find_l77, if_neg (by rw [q_le (by omega) (by omega)]; omega), e, q_jb, i_inc]
    have hfr : ∀ o, o ≠ 14 → ju (ju c 14 1 0 (nI i)) 14 2 0 r o = M o := fun o ho => by rw [ju_ne ho, ju_ne ho, hp o ho]
    split
    · exact Or.inr ⟨_, rfl, hfr⟩
    · exact Or.inl ⟨_, rfl, hfr⟩
  · show ∃ M', f_X3_find_l77 1 (nI b) (nI a) (nI H) (k + 1) c (nI H) = some M' ∧ ∀ o, o ≠ 14 → M' o = M o
    rw [f_X3_find_l77, if_pos ((q_le (by omega) (by omega)).mpr (Nat.le_refl _))]
    exact ⟨_, rfl, fun o ho => by rw [ju_ne ho, ju_ne ho, hp o ho]⟩
theorem x_findE {σ : vl} (h0 : M 1 0 0 = nI (vH σ)) (hR : RB (M 1) σ (vH σ)) (hf : wf σ) {w b : Nat} (hw : w < vW σ) (hb : b < 49) : ∃ M', f_X3_find M 1 (nI w) (nI b) = some M' ∧ ∀ o, o ≠ 14 → M' o = M o := by
  have hH := hf.1
  have hW := hf.2.1.2.1
  have ha := (hf.2.1.2.2.2.1 w hw).1
  have ea : M 1 6 w = nI (σ 6 w) := (hR.2.2.1 w hw).1
  have ow : f_X4_owesBehind M 1 (nI w) 0 = some (nI (bs (owe σ 0 w) (vH σ))) := p_owesBehind h0 hR hf.2.1 hw (n := 0) (by omega)
  unfold f_X3_find
  rw [q_gd (by omega) (by omega), ow, q_jb, q_cl (by omega), ea]
  refine loopE (fun k c i => f_X3_find_l19 1 (nI w) (nI b) (nI (σ 6 w)) (nI (bs (owe σ 0 w) (vH σ))) k c i) (fun _ (c : jm) => ∀ o, o ≠ 14 → c o = M o) (fun o => ∃ M', o = some M' ∧ ∀ o, o ≠ 14 → M' o = M o) 49 (fun k c i hi hp => ?_) (fun k c hp => ?_) 49 0 10000 M (by omega) (by omega) (fun _ _ => rfl)
  · show ∃ c', f_X3_find_l19 1 (nI w) (nI b) (nI (σ 6 w)) (nI (bs (owe σ 0 w) (vH σ))) (k + 1) c (nI i) = f_X3_find_l19 1 (nI w) (nI b) (nI (σ 6 w)) (nI (bs (owe σ 0 w) (vH σ))) k c' (nI (i + 1)) ∧ ∀ o, o ≠ 14 → c' o = M o
    have c1 := hp 1 (by omega)
    rw [f_X3_find_l19, if_neg (by rw [show (49 : Int32) = nI 49 from rfl, q_le (by omega) (by omega)]; omega), p_seesFrom (by rw [c1]; exact h0) (by rw [c1]; exact hR) hf.2.1 hw hi, q_jb, q_gd (by omega) (by omega), i_inc]
    exact ⟨_, rfl, fun o ho => by rw [ju_ne ho, hp o ho]⟩
  · show ∃ M', f_X3_find_l19 1 (nI w) (nI b) (nI (σ 6 w)) (nI (bs (owe σ 0 w) (vH σ))) (k + 1) c (nI 49) = some M' ∧ ∀ o, o ≠ 14 → M' o = M o
    have fr : ∀ o, o ≠ 14 → ju (ju c 14 1 0 0) 14 2 0 0 o = M o := fun o ho => by rw [ju_ne ho, ju_ne ho, hp o ho]
    have e0 : ju (ju c 14 1 0 0) 14 2 0 0 1 0 0 = nI (vH σ) := by rw [fr 1 (by omega)]; exact h0
    rw [f_X3_find_l19, if_pos (by decide)]
    by_cases z : nI (σ 6 w) = nI b
    · rw [if_pos z]; exact ⟨_, rfl, fr⟩
    · rw [if_neg z, e0]
      obtain ⟨M', g1, g2⟩ := x_findLE (M := ju (ju c 14 1 0 0) 14 2 0 0) (H := vH σ) (a := σ 6 w) (b := b) (by omega) ha hb
      exact ⟨M', g1, fun o ho => by rw [g2 o ho, fr o ho]⟩
end Wx
/-! the reference's waiting places -/
def nb (c d : Nat) : Nat := if d = 0 then (if c ≤ 6 then 49 else c - 7) else if d = 1 then (if 6 ≤ c % 7 then 49 else c + 1) else if d = 2 then (if 42 ≤ c then 49 else c + 7) else (if c % 7 = 0 then 49 else c - 1)
theorem nb_lt : ∀ c, c < 49 → ∀ d, d < 4 → nb c d ≤ 49 := by decide +kernel
theorem m_beside : ∀ c, c < 49 → ∀ d, d < 4 → f_X6_beside (nI c) (nI d) = if nb c d = 49 then -1 else nI (nb c d) := by decide +kernel
theorem and_dn (y : Nat) (x : Int32) : ∃ z, z ≤ y ∧ nI y &&& x = nI z := ⟨(nI y &&& x).toBitVec.toNat, by
  show ((BitVec.ofNat 32 y) &&& x.toBitVec).toNat ≤ y
  rw [BitVec.toNat_and, BitVec.toNat_ofNat]
  exact Nat.le_trans Nat.and_le_left (Nat.mod_le _ _), by
  apply Int32.toBitVec_inj.mp
  show (nI y &&& x).toBitVec = BitVec.ofNat 32 (nI y &&& x).toBitVec.toNat
  simp⟩
theorem cn_lt (p : Nat → Bool) : ∀ N v, v < N → p v = false → cn p N < N
  | 0, v, h, _ => absurd h (Nat.not_lt_zero v)
  | N + 1, v, h, e => by
    show cn p N + (if p N = true then 1 else 0) < N + 1
    have hl := cn_le p N
    by_cases z : v = N
    · rw [← z, e, if_neg (by simp)]
      rw [z]; omega
    · have := cn_lt p N v (by omega) e
      split <;> omega
theorem cn_one (p q : Nat → Bool) (v : Nat) (hp : p v = false) (hq : q v = true) (h : ∀ j, j ≠ v → q j = p j) : ∀ N, cn q N = cn p N + if v < N then 1 else 0
  | 0 => rfl
  | N + 1 => by
    show cn q N + (if q N = true then 1 else 0) = cn p N + (if p N = true then 1 else 0) + _
    rw [cn_one p q v hp hq h N]
    by_cases z : N = v
    · rw [z, hp, hq, if_neg (by omega), if_pos rfl, if_neg (by simp), if_pos (by omega)]
    · rw [h N z]
      by_cases y : v < N
      · rw [if_pos y, if_pos (show v < N + 1 by omega)]; omega
      · rw [if_neg y, if_neg (show ¬ v < N + 1 by omega)]; omega
section Wm
variable {M0 : jm} {σ : vl}
/-- what holds of the waiting places -/
def WI (M0 M : jm) (n : Nat) : Prop := (∀ o, o ≠ 16 → M o = M0 o) ∧ (∀ f, f ≠ 30 → f ≠ 31 → f ≠ 32 → M 16 f = M0 16 f) ∧ M 16 32 0 = nI n ∧ n = cn (fun v => decide (0 ≤ M 16 30 v)) 6272 ∧ (∀ j, j < n → ∃ v, v < 6272 ∧ M 16 31 j = nI v ∧ ∃ x, x ≤ j ∧ M 16 30 v = nI x) ∧ (∀ v, v < 6272 → M 16 30 v = -1 ∨ ∃ x, x ≤ 6272 ∧ M 16 30 v = nI x)
theorem WI_le {M : jm} {n : Nat} (h : WI M0 M n) : n ≤ 6272 := by
  rw [h.2.2.2.1]
  exact cn_le _ _
/-- one more place waits -/
theorem WI_add {M : jm} {n i t v : Nat} (h : WI M0 M n) (hi : i < n) (ht : t < 6272) (hv : M 16 31 i = nI v) (hn : M 16 30 t = -1) {x : Nat} (hx : x ≤ i) (h30 : M 16 30 v = nI x) : n < 6272 ∧ WI M0 (ju (ju (ju M 16 30 t (nI (x + 1))) 16 31 n (nI t)) 16 32 0 (nI (n + 1))) (n + 1) := by
  obtain ⟨w1, w2, w3, w4, w5, w6⟩ := id h
  have hle := WI_le h
  have hlt : n < 6272 := by
    rw [w4]
    refine cn_lt _ _ t ht ?_
    rw [hn]; decide
  obtain ⟨M', hM'⟩ : ∃ M', M' = ju (ju (ju M 16 30 t (nI (x + 1))) 16 31 n (nI t)) 16 32 0 (nI (n + 1)) := ⟨_, rfl⟩
  have e30 : ∀ j, M' 16 30 j = if j = t then nI (x + 1) else M 16 30 j := fun j => by
    rw [hM', ju_g (by omega), ju_g (by omega), ju_o]
    by_cases z : j = t
    · rw [if_pos ⟨rfl, z⟩, if_pos z]
    · rw [if_neg (fun q => z q.2), if_neg z]
  have e31 : ∀ j, M' 16 31 j = if j = n then nI t else M 16 31 j := fun j => by
    rw [hM', ju_g (by omega), ju_o]
    by_cases z : j = n
    · rw [if_pos ⟨rfl, z⟩, if_pos z]
    · rw [if_neg (fun q => z q.2), if_neg z, ju_g (by omega)]
  rw [← hM']
  refine ⟨hlt, fun o ho => by rw [hM', ju_ne ho, ju_ne ho, ju_ne ho, w1 o ho], fun f f1 f2 f3 => by rw [hM', ju_f f3, ju_f f2, ju_f f1, w2 f f1 f2 f3], by rw [hM', ju_self], ?_, fun j hj => ?_, fun u hu => ?_⟩
  · rw [cn_one (fun v => decide (0 ≤ M 16 30 v)) (fun v => decide (0 ≤ M' 16 30 v)) t (by show decide (0 ≤ M 16 30 t) = false; rw [hn]; decide) (by
      show decide (0 ≤ M' 16 30 t) = true
      rw [e30, if_pos rfl]; exact decide_eq_true (r_lo (by omega))) (fun j hj => by
      show decide (0 ≤ M' 16 30 j) = decide (0 ≤ M 16 30 j)
      rw [e30, if_neg hj]) 6272, if_pos ht, ← w4]
  · by_cases z : j = n
    · exact ⟨t, ht, by rw [e31, if_pos z], x + 1, by omega, by rw [e30, if_pos rfl]⟩
    · obtain ⟨v, v1, v2, y, y1, y2⟩ := w5 j (by omega)
      refine ⟨v, v1, by rw [e31, if_neg z]; exact v2, y, y1, ?_⟩
      rw [e30, if_neg]
      · exact y2
      · intro q
        rw [q, hn] at y2
        have := congrArg Int32.toInt y2
        rw [nI_toInt (by omega)] at this
        have e : (-1 : Int32).toInt = -1 := rfl
        omega
  · rw [e30]
    by_cases z : u = t
    · rw [if_pos z]; exact Or.inr ⟨x + 1, by omega, rfl⟩
    · rw [if_neg z]; exact w6 u hu
/-- the four steps from the place that waits at i -/
theorem m_four {w i : Nat} (hR : RM (M0 16) σ) (hg : wg σ) (hw : w < vW σ) (K : jm → Int32 → Option jm) (r2 : Int32) {M : jm} {n : Nat} (h : WI M0 M n) (hi : i < n) : ∃ M' n', n ≤ n' ∧ WI M0 M' n' ∧ f_X6_layWays_l78 K (nI w) r2 (nI i) 10000 M (nI 0) = K M' (nI (i + 1)) := by
  have hH := hg.1
  refine loopE (fun k c d => f_X6_layWays_l78 K (nI w) r2 (nI i) k c d) (fun _ (c : jm) => ∃ n', n ≤ n' ∧ WI M0 c n') (fun o => ∃ M' n', n ≤ n' ∧ WI M0 M' n' ∧ o = K M' (nI (i + 1))) 4 (fun k c d hd hp => ?_) (fun k c hp => ?_) 4 0 10000 M (by omega) (by omega) ⟨n, Nat.le_refl n, h⟩
  · show ∃ c', f_X6_layWays_l78 K (nI w) r2 (nI i) (k + 1) c (nI d) = f_X6_layWays_l78 K (nI w) r2 (nI i) k c' (nI (d + 1)) ∧ ∃ n', n ≤ n' ∧ WI M0 c' n'
    obtain ⟨n1, hn1, hW⟩ := hp
    obtain ⟨w1, w2, w3, w4, w5, w6⟩ := id hW
    have hle := WI_le hW
    obtain ⟨v, v1, v2, x, x1, x2⟩ := w5 i (by omega)
    have ed : nI v / 128 = nI (v / 128) := pk_div (d := 128) (by omega) (by omega) (by omega)
    have er : nI v - nI v / 128 * 128 = nI (v % 128) := pk_rem (d := 128) (by omega) (by omega) (by omega)
    have hc : v / 128 < 49 := by omega
    have hb := m_beside (v / 128) hc d hd
    have hb2 := nb_lt (v / 128) hc d hd
    have hRc : RM (c 16) σ := RM_fe (fun f hf => w2 f (by omega) (by omega) (by omega)) hR
    -- what is done with a place found
    have j132 : ∀ b t, b < 49 → t < 128 → ∃ c', f_X6_layWays_j132 c K (f_X6_layWays_l78 K (nI w) r2 (nI i) k) (nI w) r2 (nI i) (nI d) (nI b) (nI t) = f_X6_layWays_l78 K (nI w) r2 (nI i) k c' (nI (d + 1)) ∧ ∃ n', n ≤ n' ∧ WI M0 c' n' := by
      intro b t hb ht
      have ei : (128 : Int32) * nI b + nI t = nI (128 * b + t) := by rw [show (128 : Int32) = nI 128 from rfl, pk_mul, nI_add]
      unfold f_X6_layWays_j132
      rw [if_neg (r_lo' (by omega)), ei, q_gd (by omega) (by omega), q_cl (by omega), i_inc]
      by_cases z : 0 ≤ c 16 30 (128 * b + t)
      · rw [if_pos z]; exact ⟨c, rfl, n1, hn1, hW⟩
      · have hm : c 16 30 (128 * b + t) = -1 := by
          rcases w6 (128 * b + t) (by omega) with q | ⟨y, y1, y2⟩
          · exact q
          · exact absurd (by rw [y2]; exact r_lo (by omega)) z
        obtain ⟨g1, g2⟩ := WI_add hW (i := i) (t := 128 * b + t) (v := v) (by omega) (by omega) v2 hm x1 x2
        have e32 : ju c 16 30 (128 * b + t) (nI x + 1) 16 32 0 = nI n1 := by rw [ju_g (by omega)]; exact w3
        rw [if_neg z, q_gd (by omega) (by omega), q_cl (by omega), v2, q_gd (by omega) (by omega), q_gd (by omega) (by omega), q_cl (by omega), x2, e32, q_gd (by omega) (by omega), q_cl (by omega), show ju (ju c 16 30 (128 * b + t) (nI x + 1)) 16 31 n1 (nI (128 * b + t)) 16 32 0 = nI n1 by rw [ju_g (by omega)]; exact e32, i_inc, i_inc]
        exact ⟨_, rfl, n1 + 1, by omega, g2⟩
    rw [f_X6_layWays_l78, if_neg (by rw [show (4 : Int32) = nI 4 from rfl, q_le (by omega) (by omega)]; omega), q_gd (by omega) (by omega), q_cl (by omega), v2, ed, hb]
    by_cases z : nb (v / 128) d = 49
    · rw [if_pos z, if_neg (by decide)]
      unfold f_X6_layWays_j132
      rw [if_pos (by decide), i_inc]
      exact ⟨c, rfl, n1, hn1, hW⟩
    · rw [if_neg z, if_pos (r_lo (by omega)), q_gd (by omega) (by omega), m_seenFrom hRc hg hw (c := nb (v / 128) d) (by omega), q_jb]
      obtain ⟨y, y1, y2⟩ := and_dn (bs (see σ w (nb (v / 128) d)) (vH σ)) (r2 ^^^ -1)
      have hbs := bs_lt (see σ w (nb (v / 128) d)) (vH σ)
      have hp7 : 2 ^ (vH σ) ≤ 2 ^ 7 := Nat.pow_le_pow_right (by omega) hH
      rw [show nI v - nI (v / 128) * 128 = nI (v % 128) by rw [← ed]; exact er, y2, fa_or]
      exact j132 _ _ (by omega) (Nat.or_lt_two_pow (n := 7) (by omega) (by omega))
  · show ∃ M' n', n ≤ n' ∧ WI M0 M' n' ∧ f_X6_layWays_l78 K (nI w) r2 (nI i) (k + 1) c (nI 4) = K M' (nI (i + 1))
    obtain ⟨n1, hn1, hW⟩ := hp
    rw [f_X6_layWays_l78, if_pos (by decide), i_inc]
    exact ⟨c, n1, hn1, hW, rfl⟩
theorem m_waits {w : Nat} (hR : RM (M0 16) σ) (hg : wg σ) (hw : w < vW σ) (r2 : Int32) : ∀ d i k, i + d = 6272 → d < k → ∀ (M : jm) (n : Nat), WI M0 M n → i ≤ n → ∃ M' n', f_X6_layWays_l67 (nI w) r2 k M (nI i) = some M' ∧ WI M0 M' n' := by
  intro d
  induction d with
  | zero =>
    intro i k hi hk M n h hin
    obtain ⟨k, rfl⟩ : ∃ j, k = j + 1 := ⟨k - 1, by omega⟩
    have := WI_le h
    rw [f_X6_layWays_l67, h.2.2.1, if_pos (by rw [q_le (by omega) (by omega)]; omega)]
    exact ⟨M, n, rfl, h⟩
  | succ d ih =>
    intro i k hi hk M n h hin
    obtain ⟨k, rfl⟩ : ∃ j, k = j + 1 := ⟨k - 1, by omega⟩
    have := WI_le h
    rw [f_X6_layWays_l67, h.2.2.1]
    by_cases z : n ≤ i
    · rw [if_pos (by rw [q_le (by omega) (by omega)]; omega)]
      exact ⟨M, n, rfl, h⟩
    · rw [if_neg (by rw [q_le (by omega) (by omega)]; omega)]
      obtain ⟨M', n', g1, g2, g3⟩ := m_four hR hg hw (f_X6_layWays_l67 (nI w) r2 k) r2 h (i := i) (by omega)
      rw [show (0 : Int32) = nI 0 from rfl, g3]
      exact ih (i + 1) k (by omega) (by omega) M' n' g2 (by omega)
theorem m_layWays {M : jm} (hR : RM (M 16) σ) (hg : wg σ) {w : Nat} (hw : w < vW σ) : ∃ M', f_X6_layWays M (nI w) = some M' ∧ (∀ o, o ≠ 16 → M' o = M o) ∧ (∀ f, f ≠ 30 → f ≠ 31 → f ≠ 32 → M' 16 f = M 16 f) := by
  have hW := hg.2.1.2.1
  have ha := (hg.2.1.2.2.2.1 w hw).1
  unfold f_X6_layWays
  refine loopE (fun k c i => f_X6_layWays_l2 (nI w) k c i) (fun i (c : jm) => (∀ o, o ≠ 16 → c o = M o) ∧ (∀ f, f ≠ 30 → f ≠ 31 → f ≠ 32 → c 16 f = M 16 f) ∧ ∀ v, v < i → c 16 30 v = -1) (fun o => ∃ M', o = some M' ∧ (∀ o, o ≠ 16 → M' o = M o) ∧ (∀ f, f ≠ 30 → f ≠ 31 → f ≠ 32 → M' 16 f = M 16 f)) 6272 (fun k c i hi hp => ?_) (fun k c hp => ?_) 6272 0 10000 M (by omega) (by omega) ⟨fun _ _ => rfl, fun _ _ _ _ => rfl, fun v hv => absurd hv (Nat.not_lt_zero v)⟩
  · show ∃ c', f_X6_layWays_l2 (nI w) (k + 1) c (nI i) = f_X6_layWays_l2 (nI w) k c' (nI (i + 1)) ∧ (∀ o, o ≠ 16 → c' o = M o) ∧ (∀ f, f ≠ 30 → f ≠ 31 → f ≠ 32 → c' 16 f = M 16 f) ∧ ∀ v, v < i + 1 → c' 16 30 v = -1
    obtain ⟨p1, p2, p3⟩ := hp
    rw [f_X6_layWays_l2, if_neg (by rw [show (6272 : Int32) = nI 6272 from rfl, q_le (by omega) (by omega)]; omega), q_gd (by omega) (by omega), q_cl (by omega), i_inc]
    refine ⟨_, rfl, fun o ho => by rw [ju_ne ho, p1 o ho], fun f f1 f2 f3 => by rw [ju_f f1, p2 f f1 f2 f3], fun v hv => ?_⟩
    rw [ju_o]
    by_cases z : v = i
    · rw [if_pos ⟨rfl, z⟩]
    · rw [if_neg (fun q => z q.2)]; exact p3 v (by omega)
  · show ∃ M', f_X6_layWays_l2 (nI w) (k + 1) c (nI 6272) = some M' ∧ (∀ o, o ≠ 16 → M' o = M o) ∧ (∀ f, f ≠ 30 → f ≠ 31 → f ≠ 32 → M' 16 f = M 16 f)
    obtain ⟨p1, p2, p3⟩ := hp
    have hRc : RM (c 16) σ := RM_fe (fun f hf => p2 f (by omega) (by omega) (by omega)) hR
    have ea : c 16 6 w = nI (σ 6 w) := (hRc.2.2.2.2.1 w hw).1
    have ei : (128 : Int32) * nI (σ 6 w) = nI (128 * σ 6 w) := by rw [show (128 : Int32) = nI 128 from rfl, pk_mul]
    have ea2 : ju c 16 30 (128 * σ 6 w) 0 16 6 w = nI (σ 6 w) := by rw [ju_g (by omega)]; exact ea
    have e00 : Int32.toNatClampNeg 0 = 0 := rfl
    rw [f_X6_layWays_l2, if_pos (by decide), m_owesBits hRc hg hw, q_jb, q_gd (by omega) (by omega), q_cl (by omega), ea, ei, q_gd (by omega) (by omega), q_gd (by omega) (by omega), show (0 : Int32) = nI 0 from rfl, q_gd (by omega) (by omega), q_cl (by omega), show (nI 0 : Int32) = 0 from rfl, e00, ea2, ei]
    obtain ⟨B, hB⟩ : ∃ B, B = ju (ju (ju c 16 30 (128 * σ 6 w) 0) 16 31 0 (nI (128 * σ 6 w))) 16 32 0 1 := ⟨_, rfl⟩
    rw [← hB]
    have e30 : ∀ j, B 16 30 j = if j = 128 * σ 6 w then 0 else c 16 30 j := fun j => by
      rw [hB, ju_g (by omega), ju_g (by omega), ju_o]
      by_cases z : j = 128 * σ 6 w
      · rw [if_pos ⟨rfl, z⟩, if_pos z]
      · rw [if_neg (fun q => z q.2), if_neg z]
    have hcn : ∀ N, cn (fun v => decide (0 ≤ B 16 30 v)) N = cn (fun _ => false) N + (if 128 * σ 6 w < N then 1 else 0) ∨ 6272 < N := by
      intro N
      by_cases hN : 6272 < N
      · exact Or.inr hN
      · left
        have e1 : cn (fun v => decide (0 ≤ B 16 30 v)) N = cn (fun v => decide (v = 128 * σ 6 w)) N := by
          refine cn_congr N (fun v hv => ?_)
          show decide (0 ≤ B 16 30 v) = decide (v = 128 * σ 6 w)
          rw [e30]
          by_cases z : v = 128 * σ 6 w
          · rw [if_pos z, decide_eq_true z]; rfl
          · rw [if_neg z, p3 v (by omega), decide_eq_false z]; rfl
        rw [e1]
        exact cn_one (fun _ => false) (fun v => decide (v = 128 * σ 6 w)) (128 * σ 6 w) rfl (decide_eq_true rfl) (fun j hj => decide_eq_false hj) N
    have hcf : ∀ N, cn (fun _ => false) N = 0 := by
      intro N
      induction N with
      | zero => rfl
      | succ N ih => show cn (fun _ => false) N + (if false = true then 1 else 0) = 0; rw [ih]; rfl
    have hWI : WI M B 1 := by
      refine ⟨fun o ho => by rw [hB, ju_ne ho, ju_ne ho, ju_ne ho, p1 o ho], fun f f1 f2 f3 => by rw [hB, ju_f f3, ju_f f2, ju_f f1, p2 f f1 f2 f3], by rw [hB, ju_self]; rfl, ?_, fun j hj => ⟨128 * σ 6 w, by omega, ?_, 0, Nat.zero_le _, by rw [e30, if_pos rfl]; rfl⟩, fun v hv => ?_⟩
      · rcases hcn 6272 with q | q
        · rw [q, hcf, if_pos (by omega)]
        · omega
      · rw [show j = 0 by omega, hB, ju_g (by omega), ju_self]
      · rw [e30]
        by_cases z : v = 128 * σ 6 w
        · rw [if_pos z]; exact Or.inr ⟨0, by omega, rfl⟩
        · rw [if_neg z]; exact Or.inl (p3 v hv)
    obtain ⟨M', n', g1, g2⟩ := m_waits hR hg hw (nI (bs (owe σ 0 w) (vH σ))) 6272 0 10000 (by omega) (by omega) B 1 hWI (Nat.zero_le _)
    exact ⟨M', g1, g2.1, g2.2.1⟩
end Wm
