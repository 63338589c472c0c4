/-! mean; what one needs of a call whose answer is not looked at -/
def OT {R R' : Type} (a : Option (R × jm)) (b : jm → Option (R' × jm)) : Prop := ∃ r r' M1 M2 S', a = some (r, M1) ∧ b M1 = some (r', M2) ∧ JJ M2 S'
def OT0 {R R' : Type} (M : jm) (a : Option R) (b : jm → Option (R' × jm)) : Prop := ∃ r r' M2 S', a = some r ∧ b M = some (r', M2) ∧ JJ M2 S'
theorem OK_t {R : Type} {a : Option (R × jm)} {b : jm → Option (R × jm)} (h : OK a b) : OT a b := by
  obtain ⟨r, M1, M2, S', h1, h2, h3⟩ := h
  exact ⟨r, r, M1, M2, S', h1, h2, h3⟩
theorem OK0_t {R : Type} {M : jm} {a : Option R} {b : jm → Option (R × jm)} (h : OK0 M a b) : OT0 M a b := by
  obtain ⟨r, M2, S', h1, h2, h3⟩ := h
  exact ⟨r, r, M2, S', h1, h2, h3⟩
/-- the greatest of 1 .. k that divides both -/
def gd (p W : Nat) : Nat → Nat
  | 0 => 1
  | k + 1 => if p % (k + 1) = 0 ∧ W % (k + 1) = 0 then k + 1 else gd p W k
theorem gd_dvd (p W : Nat) : ∀ k, gd p W k ∣ p ∧ gd p W k ∣ W
  | 0 => ⟨Nat.one_dvd p, Nat.one_dvd W⟩
  | k + 1 => by
    unfold gd
    split
    · rename_i h; exact ⟨Nat.dvd_of_mod_eq_zero h.1, Nat.dvd_of_mod_eq_zero h.2⟩
    · exact gd_dvd p W k
theorem gd_pos (p W : Nat) : ∀ k, 0 < gd p W k
  | 0 => Nat.zero_lt_one
  | k + 1 => by
    unfold gd
    split
    · omega
    · exact gd_pos p W k
theorem gd_le (p W : Nat) : ∀ k, gd p W k ≤ max k 1
  | 0 => by show 1 ≤ _; omega
  | k + 1 => by
    have := gd_le p W k
    unfold gd
    split <;> omega
theorem gd_ge {p W d : Nat} (h1 : d ∣ p) (h2 : d ∣ W) : ∀ k, d ≤ k → d ≤ gd p W k
  | 0, h => by have := gd_pos p W 0; omega
  | k + 1, h => by
    unfold gd
    split
    · exact h
    · rename_i n
      by_cases e : d = k + 1
      · subst e; exact absurd ⟨Nat.mod_eq_zero_of_dvd h1, Nat.mod_eq_zero_of_dvd h2⟩ n
      · exact gd_ge h1 h2 k (by omega)
theorem gd_gcd {p W : Nat} (hW : 0 < W) : gd p W W = Nat.gcd p W := by
  have h1 := gd_dvd p W W
  apply Nat.le_antisymm
  · exact Nat.le_of_dvd (Nat.gcd_pos_of_pos_right p hW) (Nat.dvd_gcd h1.1 h1.2)
  · exact gd_ge (Nat.gcd_dvd_left p W) (Nat.gcd_dvd_right p W) W (Nat.le_of_dvd hW (Nat.gcd_dvd_right p W))
theorem m_div1 {x y k : Nat} (hx : x < 2 ^ 63) (hy : y < 2 ^ 63) : f_X6_divisor_l6 (k + 1) (lN x) (lN y) = if y = 0 then some (lN x) else f_X6_divisor_l6 k (lN y) (lN (x % y)) := by
  rw [f_X6_divisor_l6]
  by_cases c : y = 0
  · rw [if_pos (by rw [lg_cmp_eq, c]; rfl), if_pos c]
  · have hn : ¬ lN y = (0 : Int64) := by rw [show (0 : Int64) = lN 0 from rfl, pk_lEQ hy (by omega)]; exact c
    rw [if_neg (by rw [lg_cmp_eq]; exact hn), if_neg c]
    unfold jgl
    rw [if_neg hn, pk_lRem hx (by omega) hy]
theorem gcd_step (x y : Nat) : Nat.gcd y (x % y) = Nat.gcd x y := by
  rw [Nat.gcd_comm x y, Nat.gcd_rec y x, Nat.gcd_comm]
theorem m_divisor (j : Nat) : ∀ x y k, x < 2 ^ 63 → y < 2 ^ 63 → y < 2 ^ j → 2 * j < k → f_X6_divisor_l6 k (lN x) (lN y) = some (lN (Nat.gcd x y)) := by
  induction j with
  | zero =>
    intro x y k hx hy hj hk
    obtain ⟨k, rfl⟩ : ∃ z, k = z + 1 := ⟨k - 1, by omega⟩
    have hy0 : y = 0 := by simpa using hj
    subst hy0
    rw [m_div1 hx hy, if_pos rfl, Nat.gcd_zero_right]
  | succ j ih =>
    intro x y k hx hy hj hk
    obtain ⟨k, rfl⟩ : ∃ z, k = z + 2 := ⟨k - 2, by omega⟩
    rw [m_div1 hx hy]
    by_cases c : y = 0
    · rw [if_pos c, c, Nat.gcd_zero_right]
    · have h1 : x % y < y := Nat.mod_lt _ (by omega)
      rw [if_neg c, m_div1 hy (by omega)]
      by_cases c2 : x % y = 0
      · rw [if_pos c2, ← gcd_step, c2, Nat.gcd_zero_right]
      · have h2 : y % (x % y) < x % y := Nat.mod_lt _ (by omega)
        have h3 : 2 * (y % (x % y)) < y := by
          by_cases q : 2 * (x % y) ≤ y
          · omega
          · have : y % (x % y) = y - x % y := by
              rw [Nat.mod_eq_sub_mod (by omega), Nat.mod_eq_of_lt (by omega)]
            omega
        have h4 : 2 ^ (j + 1) = 2 * 2 ^ j := by rw [Nat.pow_succ]; omega
        rw [if_neg c2, ih _ _ _ (by omega) (by omega) (by omega) (by omega), gcd_step, gcd_step]
theorem m_partOf {p W : Nat} (hp : p < 2 ^ 63) (hW : W < 2 ^ 63) (h0 : 0 < p) (v : Int32) : f_X6_partOf (lN p) (lN W) v = some (lN (if v = 0 then p / Nat.gcd p W else W / Nat.gcd p W)) := by
  have hg : 0 < Nat.gcd p W := Nat.gcd_pos_of_pos_left W h0
  have hl : Nat.gcd p W ≤ p := Nat.le_of_dvd h0 (Nat.gcd_dvd_left p W)
  unfold f_X6_partOf f_X6_divisor jgl
  rw [if_neg (by rw [lg_cmp_eq, show (0 : Int64) = lN 0 from rfl, pk_lEQ hp (by omega)]; omega), m_divisor 63 p W 10000 hp hW (by omega) (by omega), q_jb]
  rw [if_neg (show ¬ lN (Nat.gcd p W) = 0 by rw [show (0 : Int64) = lN 0 from rfl, pk_lEQ (by omega) (by omega)]; omega), pk_lDiv hp hg (by omega), pk_lDiv hW hg (by omega), if_neg (show ¬ lN (Nat.gcd p W) = 0 by rw [show (0 : Int64) = lN 0 from rfl, pk_lEQ (by omega) (by omega)]; omega)]
  split <;> rfl
section Asks
variable {M : jm} {S : St} {σ : vl}
def mea (σ : vl) (v : Int32) : Int64 := lN (if v = 0 then prices σ 0 / gd (prices σ 0) (vW σ) (max (vW σ) 1) else max (vW σ) 1 / gd (prices σ 0) (vW σ) (max (vW σ) 1))
theorem q_gz {α : Type} {n : Nat} {a : Option α} (h : 0 < n) (h2 : n < 2 ^ 31) : jgz (nI n) a = a := by
  unfold jgz
  rw [if_neg]
  rw [show (0 : Int32) = nI 0 from rfl, q_eq h2 (by omega)]; omega
theorem p_mean (h5 : M 1 5 0 = nI (vW σ)) (hf : wf σ) (v : Int32) : f_X5_mean_l30 v (nI (prices σ 0)) 10000 M 1 2 = some (mea σ v, M) := by
  have hH := hf.1; have hW := hf.2.1.2.1
  have hp := prices_le (n := 0) hf.2.1
  have L : ∀ d k f, k + d = max (vW σ) 1 → 1 ≤ k → d < f → f_X5_mean_l30 v (nI (prices σ 0)) f M (nI (gd (prices σ 0) (vW σ) k)) (nI (k + 1)) = some (mea σ v, M) := by
    intro d
    induction d with
    | zero =>
      intro k f h1 h2 h3
      obtain ⟨f, rfl⟩ : ∃ j, f = j + 1 := ⟨f - 1, by omega⟩
      have ek : k = max (vW σ) 1 := by omega
      have g1 := gd_pos (prices σ 0) (vW σ) k
      have g2 := gd_le (prices σ 0) (vW σ) k
      rw [f_X5_mean_l30, h5, if_pos (by rw [q_lt (by omega) (by omega)]; omega), q_gz g1 (by omega), q_gz g1 (by omega), pk_div (by omega) g1 (by omega)]
      have e1 : (if (1 : Int32) < nI (vW σ) then nI (vW σ) else 1) = nI (max (vW σ) 1) := by
        by_cases q : 1 < vW σ
        · rw [if_pos (by rw [show (1 : Int32) = nI 1 from rfl, q_lt (by omega) (by omega)]; exact q), Nat.max_eq_left (by omega)]
        · rw [if_neg (by rw [show (1 : Int32) = nI 1 from rfl, q_lt (by omega) (by omega)]; exact q), Nat.max_eq_right (by omega)]; rfl
      have b1 : prices σ 0 / gd (prices σ 0) (vW σ) k ≤ prices σ 0 := Nat.div_le_self _ _
      have b2 : max (vW σ) 1 / gd (prices σ 0) (vW σ) k ≤ max (vW σ) 1 := Nat.div_le_self _ _
      rw [e1, pk_div (by omega) g1 (by omega), nI_l (by omega), nI_l (by omega)]
      unfold mea
      rw [← ek]
      split <;> rfl
    | succ d ih =>
      intro k f h1 h2 h3
      obtain ⟨f, rfl⟩ : ∃ j, f = j + 1 := ⟨f - 1, by omega⟩
      have hk : k + 1 ≤ vW σ := by omega
      have r1 : prices σ 0 % (k + 1) < k + 1 := Nat.mod_lt _ (by omega)
      have r2 : vW σ % (k + 1) < k + 1 := Nat.mod_lt _ (by omega)
      have ih := ih (k + 1) f (by omega) (by omega) (by omega)
      rw [f_X5_mean_l30, h5, if_neg (by rw [q_lt (by omega) (by omega)]; omega), q_gz (by omega) (by omega), q_gz (by omega) (by omega), pk_rem (by omega) (by omega) (by omega), pk_rem (by omega) (by omega) (by omega), show nI (k + 1) + 1 = nI (k + 1 + 1) from nI_add (k + 1) 1]
      unfold gd at ih
      have e0 : ∀ x, x < 100 → (nI x = (0 : Int32) ↔ x = 0) := fun x hx => q_eq (a := x) (b := 0) (by omega) (by omega)
      by_cases c1 : prices σ 0 % (k + 1) = 0
      · rw [if_pos ((e0 _ (by omega)).mpr c1)]
        by_cases c2 : vW σ % (k + 1) = 0
        · rw [if_pos ((e0 _ (by omega)).mpr c2)]; rw [if_pos ⟨c1, c2⟩] at ih; exact ih
        · rw [if_neg (fun z => c2 ((e0 _ (by omega)).mp z))]; rw [if_neg (fun z => c2 z.2)] at ih; exact ih
      · rw [if_neg (fun z => c1 ((e0 _ (by omega)).mp z))]; rw [if_neg (fun z => c1 z.1)] at ih; exact ih
  have e1 : gd (prices σ 0) (vW σ) 1 = 1 := by
    unfold gd
    split <;> rfl
  have := L (max (vW σ) 1 - 1) 1 10000 (by omega) (by omega) (by omega)
  rw [e1] at this
  exact this
theorem m_mean (hf : wf σ) {v : Int32} (hv : v = nI 0 ∨ v = nI 1) : f_X6_partOf (lN (prices σ 0)) (lN (vW σ)) v = some (mea σ v) := by
  have hH := hf.1; have hW := hf.2.1.2.1
  have hp := prices_le (n := 0) hf.2.1
  by_cases c : prices σ 0 = 0
  · unfold f_X6_partOf mea
    rw [c, if_pos (by rw [lg_cmp_eq]; rfl)]
    by_cases w : vW σ = 0
    · rw [w]
      rcases hv with rfl | rfl <;> rfl
    · have e : gd 0 (vW σ) (max (vW σ) 1) = vW σ := by rw [Nat.max_eq_left (by omega), gd_gcd (by omega), Nat.gcd_zero_left]
      rw [e, Nat.max_eq_left (by omega), Nat.div_self (by omega), Nat.zero_div]
      rcases hv with rfl | rfl <;> rfl
  · have w : 0 < vW σ := by
      rcases Nat.eq_zero_or_pos (vW σ) with q | q
      · exact absurd (by unfold prices; rw [q]; rfl) c
      · exact q
    rw [m_partOf (by omega) (by omega) (by omega)]
    unfold mea
    rw [Nat.max_eq_left (by omega), gd_gcd w]
theorem ok_mean (hJ : JJ M S) (a : Int32) : OK (f_X5_mean M a) (fun M1 => f_X6_mean M1 a) := by
  obtain ⟨h0, h5, hB⟩ := J_C hJ; have hf := J_f hJ; have hH := hf.1; have hW := hf.2.1.2.1
  have hp := prices_le (n := 0) hf.2.1
  by_cases c1 : okv 2 a = true
  · have hv : a = nI 0 ∨ a = nI 1 := by
      obtain ⟨j, hj, rfl⟩ := okv_ex (by omega) c1
      rcases (show j = 0 ∨ j = 1 by omega) with rfl | rfl
      · exact Or.inl rfl
      · exact Or.inr rfl
    refine OK_q hJ (M1 := M) (r := mea (sv S) a) ?_ (frC_refl M) (fun hR hg => ⟨ju M 16 11 0 0, ?_, RM_ct hR, frK_ct M⟩)
    · have e : f_X5_mean_j16 M a = some (mea (sv S) a, M) := by
        unfold f_X5_mean_j16
        rw [show (0 : Int32) = nI 0 from rfl, p_pricesBehind h0 hB hf.2.1 (by omega), q_jb, p_mean h5 hf]
      unfold f_X5_mean
      rw [e]
      rcases hv with rfl | rfl <;> rfl
    · have hc1 : RM ((ju M 16 11 0 0) 16) (sv S) := RM_ct hR
      show f_X6_mean M a = _
      unfold f_X6_mean
      rw [m_inL a 1 2 (by omega) (by decide), if_pos c1, if_neg z10, m_allPrices hc1 hg, q_jb, hc1.2.1, nI_l (by omega), nI_l (by omega), m_mean hf hv, q_jb]
  · have nn : ∀ j, j < 2 → ¬ a = nI j := fun j hj => okv_ne (by omega) c1 hj
    refine OK_refg (fun r => 4000000000000000000 - r.toInt64) (k := 2) (by omega) hJ ?_ (fun M1 e16 _ => ?_)
    · unfold f_X5_mean f_X5_refuseLong
      rw [if_neg (show ¬ a = (0 : Int32) from nn 0 (by omega)), if_neg (show ¬ a = (1 : Int32) from nn 1 (by omega)), show (-2 : Int32) = -nI 2 from rfl, x_refuse (by omega)]; rfl
    · show f_X6_mean M1 a = _
      unfold f_X6_mean
      rw [m_inL a 1 2 (by omega) (by decide), if_neg c1, if_pos z00]; rfl
end Asks
