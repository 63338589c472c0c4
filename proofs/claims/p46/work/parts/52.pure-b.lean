/-! mean; what one needs of a call whose answer is not looked at -/
def OT {R R' : Type} (a : Option (R × jm)) (b : jm → Option (R' × jm)) : Prop := ∃ r r' M1 M2 S', a = some (r, M1) ∧ b M1 = some (r', M2) ∧ JJ M2 S'
def OT0 {R R' : Type} (M : jm) (a : Option R) (b : jm → Option (R' × jm)) : Prop := ∃ r r' M2 S', a = some r ∧ b M = some (r', M2) ∧ JJ M2 S'
theorem OK_t {R : Type} {a : Option (R × jm)} {b : jm → Option (R × jm)} (h : OK a b) : OT a b := by
  obtain ⟨r, M1, M2, S', h1, h2, h3⟩ := h
  exact ⟨r, r, M1, M2, S', h1, h2, h3⟩
theorem OK0_t {R : Type} {M : jm} {a : Option R} {b : jm → Option (R × jm)} (h : OK0 M a b) : OT0 M a b := by
  obtain ⟨r, M2, S', h1, h2, h3⟩ := h
  exact ⟨r, r, M2, S', h1, h2, h3⟩
/-- the greatest of 1 .. k that divides both -/
def gd (p W : Nat) : Nat → Nat
  | 0 => 1
  | k + 1 => if p % (k + 1) = 0 ∧ W % (k + 1) = 0 then k + 1 else gd p W k
theorem gd_dvd (p W : Nat) : ∀ k, gd p W k ∣ p ∧ gd p W k ∣ W
  | 0 => ⟨Nat.one_dvd p, Nat.one_dvd W⟩
  | k + 1 => by
    unfold gd
    split
    · rename_i h; exact ⟨Nat.dvd_of_mod_eq_zero h.1, Nat.dvd_of_mod_eq_zero h.2⟩
    · exact gd_dvd p W k
theorem gd_pos (p W : Nat) : ∀ k, 0 < gd p W k
  | 0 => Nat.zero_lt_one
  | k + 1 => by
    unfold gd
    split
    · omega
    · exact gd_pos p W k
theorem gd_le (p W : Nat) : ∀ k, gd p W k ≤ max k 1
  | 0 => by show 1 ≤ _; omega
  | k + 1 => by
    have := gd_le p W k
    unfold gd
    split <;> omega
theorem gd_ge {p W d : Nat} (h1 : d ∣ p) (h2 : d ∣ W) : ∀ k, d ≤ k → d ≤ gd p W k
  | 0, h => by have := gd_pos p W 0; omega
  | k + 1, h => by
    unfold gd
    split
    · exact h
    · rename_i n
      by_cases e : d = k + 1
      · subst e; exact absurd ⟨Nat.mod_eq_zero_of_dvd h1, Nat.mod_eq_zero_of_dvd h2⟩ n
      · exact gd_ge h1 h2 k (by omega)
theorem gd_gcd {p W : Nat} (hW : 0 < W) : gd p W W = Nat.gcd p W := by
  have h1 := gd_dvd p W W
  apply Nat.le_antisymm
  · exact Nat.le_of_dvd (Nat.gcd_pos_of_pos_right p hW) (Nat.dvd_gcd h1.1 h1.2)
  · exact gd_ge (Nat.gcd_dvd_left p W) (Nat.gcd_dvd_right p W) W (Nat.le_of_dvd hW (Nat.gcd_dvd_right p W))
theorem m_div1 {x y k : Nat} (hx : x < 2 ^ 63) (hy : y < 2 ^ 63) : f_X6_divisor_l6 (k + 1) (lN x) (lN y) = if y = 0 then some (lN x) else f_X6_divisor_l6 k (lN y) (lN (x % y)) := by
  rw [f_X6_divisor_l6]
  by_cases c : y = 0
  · rw [if_pos (by rw [lg_cmp_eq, c]; rfl), if_pos c]
  · have hn : ¬ lN y = (0 : Int64) := by rw [show (0 : Int64) = lN 0 from rfl, pk_lEQ hy (by omega)]; exact c
    rw [if_neg (by rw [lg_cmp_eq]; exact hn), if_neg c]
    unfold jgl
    rw [if_neg hn, pk_lRem hx (by omega) hy]
theorem gcd_step (x y : Nat) : Nat.gcd y (x % y) = Nat.gcd x y := by
  rw [Nat.gcd_comm x y, Nat.gcd_rec y x, Nat.gcd_comm]
theorem m_divisor (j : Nat) : ∀ x y k, x < 2 ^ 63 → y < 2 ^ 63 → y < 2 ^ j → 2 * j < k → f_X6_divisor_l6 k (lN x) (lN y) = some (lN (Nat.gcd x y)) := by
  induction j with
  | zero =>
    intro x y k hx hy hj hk
    obtain ⟨k, rfl⟩ : ∃ z, k = z + 1 := ⟨k - 1, by omega⟩
    have hy0 : y = 0 := by simpa using hj
    subst hy0
    rw [m_div1 hx hy, if_pos rfl, Nat.gcd_zero_right]
  | succ j ih =>
    intro x y k hx hy hj hk
    obtain ⟨k, rfl⟩ : ∃ z, k = z + 2 := ⟨k - 2, by omega⟩
    rw [m_div1 hx hy]
    by_cases c : y = 0
    · rw [if_pos c, c, Nat.gcd_zero_right]
    · have h1 : x % y < y := Nat.mod_lt _ (by omega)
      rw [if_neg c, m_div1 hy (by omega)]
      by_cases c2 : x % y = 0
      · rw [if_pos c2, ← gcd_step, c2, Nat.gcd_zero_right]
      · have h2 : y % (x % y) < x % y := Nat.mod_lt _ (by omega)
        have h3 : 2 * (y % (x % y)) < y := by
          by_cases q : 2 * (x % y) ≤ y
          · omega
          · have : y % (x % y) = y - x % y := by
              rw [Nat.mod_eq_sub_mod (by omega), Nat.mod_eq_of_lt (by omega)]
            omega
        have h4 : 2 ^ (j + 1) = 2 * 2 ^ j := by rw [Nat.pow_succ]; omega
        rw [if_neg c2, ih _ _ _ (by omega) (by omega) (by omega) (by omega), gcd_step, gcd_step]
theorem m_partOf {p W : Nat} (hp : p < 2 ^ 63) (hW : W < 2 ^ 63) (h0 : 0 < p) (v : Int32) : f_X6_partOf (lN p) (lN W) v = some (lN (if v = 0 then p / Nat.gcd p W else W / Nat.gcd p W)) := by
  have hg : 0 < Nat.gcd p W := Nat.gcd_pos_of_pos_left W h0
  have hl : Nat.gcd p W ≤ p := Nat.le_of_dvd h0 (Nat.gcd_dvd_left p W)
  unfold f_X6_partOf f_X6_divisor jgl
  rw [if_neg (by rw [lg_cmp_eq, show (0 : Int64) = lN 0 from rfl, pk_lEQ hp (by omega)]; omega), m_divisor 63 p W 10000 hp hW (by omega) (by omega), q_jb]
  rw [if_neg (show ¬ lN (Nat.gcd p W) = 0 by rw [show (0 : Int64) = lN 0 from rfl, pk_lEQ (by omega) (by omega)]; omega), pk_lDiv hp hg (by omega), pk_lDiv hW hg (by omega), if_neg (show ¬ lN (Nat.gcd p W) = 0 by rw [show (0 : Int64) = lN 0 from rfl, pk_lEQ (by omega) (by omega)]; omega)]
  split <;> rfl
section Asks
variable {M : jm} {S : St} {σ : vl}
def mea (σ : vl) (v : Int32) : Int64 := lN (if v = 0 then prices σ 0 / gd (prices σ 0) (vW σ) (max (vW σ) 1) else max (vW σ) 1 / gd (prices σ 0) (vW σ) (max (vW σ) 1))
theorem q_gz {α : Type} {n : Nat} {a : Option α} (h : 0 < n) (h2 : n < 2 ^ 31) : jgz (nI n) a = a := by
  unfold jgz
  rw [if_neg]
  rw [show (0 : Int32) = nI 0 from rfl, q_eq h2 (by omega)]; omega
theorem p_mean (h5 : M 1 5 0 = nI (vW σ)) (hf : wf σ) (v : Int32) : f_X5_mean_l30 v (nI (prices σ 0)) 10000 M 1 2 = some (mea σ v, M) := by
  have hH := hf.1; have hW := hf.2.1.2.1
  have hp := prices_le (n := 0) hf.2.1
  have L : ∀ d k f, k + d = max (vW σ) 1 → 1 ≤ k → d < f → f_X5_mean_l30 v (nI (prices σ 0)) f M (nI (gd (prices σ 0) (vW σ) k)) (nI (k + 1)) = some (mea σ v, M) := by
    intro d
    induction d with
    | zero =>
      intro k f h1 h2 h3
      obtain ⟨f, rfl⟩ : ∃ j, f = j + 1 := ⟨f - 1, by omega⟩
      have ek : k = max (vW σ) 1 := by omega
      have g1 := gd_pos (prices σ 0) (vW σ) k
      have g2 := gd_le (prices σ 0) (vW σ) k
      rw [f_X5_mean_l30, h5, if_pos (by rw [q_lt (by omega) (by omega)]; omega), q_gz g1 (by omega), q_gz g1 (by omega), pk_div (by omega) g1 (by omega)]
      have e1 : (if (1 : Int32) < nI (vW σ) then nI (vW σ) else 1) = nI (max (vW σ) 1) := by
        by_cases q : 1 < vW σ
        · rw [if_pos (by rw [show (1 : Int32) = nI 1 from rfl, q_lt (by omega) (by omega)]; exact q), Nat.max_eq_left (by omega)]
        · rw [if_neg (by rw [show (1 : Int32) = nI 1 from rfl, q_lt (by omega) (by omega)]; exact q), Nat.max_eq_right (by omega)]; rfl
      have b1 : prices σ 0 / gd (prices σ 0) (vW σ) k ≤ prices σ 0 := Nat.div_le_self _ _
      have b2 : max (vW σ) 1 / gd (prices σ 0) (vW σ) k ≤ max (vW σ) 1 := Nat.div_le_self _ _
      rw [e1, pk_div (by omega) g1 (by omega), nI_l (by omega), nI_l (by omega)]
      unfold mea
      rw [← ek]
      split <;> rfl
    | succ d ih =>
      intro k f h1 h2 h3
      obtain ⟨f, rfl⟩ : ∃ j, f = j + 1 := ⟨f - 1, by omega⟩
      have hk : k + 1 ≤ vW σ := by omega
      have r1 : prices σ 0 % (k + 1) < k + 1 := Nat.mod_lt _ (by omega)
      have r2 : vW σ % (k + 1) < k + 1 := Nat.mod_lt _ (by omega)
      have ih := ih (k + 1) f (by omega) (by omega) (by omega)
      rw [f_X5_mean_l30, h5, if_neg (by rw [q_lt (by omega) (by omega)]; omega), q_gz (by omega) (by omega), q_gz (by omega) (by omega), pk_rem (by omega) (by omega) (by omega), pk_rem (by omega) (by omega) (by omega), show nI (k + 1) + 1 = nI (k + 1 + 1) from nI_add (k + 1) 1]
      unfold gd at ih
      have e0 : ∀ x, x < 100 → (nI x = (0 : Int32) ↔ x = 0) := fun x hx => q_eq (a := x) (b := 0) (by omega) (by omega)
      by_cases c1 : prices σ 0 % (k + 1) = 0
      · rw [if_pos ((e0 _ (by omega)).mpr c1)]
        by_cases c2 : vW σ % (k + 1) = 0
        · rw [if_pos ((e0 _ (by omega)).mpr c2)]; rw [if_pos ⟨c1, c2⟩] at ih; exact ih
        · rw [if_neg (fun z => c2 ((e0 _ (by omega)).mp z))]; rw [if_neg (fun z => c2 z.2)] at ih; exact ih
      · rw [if_neg (fun z => c1 ((e0 _ (by omega)).mp z))]; rw [if_neg (fun z => c1 z.1)] at ih; exact ih
  have e1 : gd (prices σ 0) (vW σ) 1 = 1 := by
    unfold gd
    split <;> rfl
  have := L (max (vW σ) 1 - 1) 1 10000 (by omega) (by omega) (by omega)
  rw [e1] at this
  exact this
theorem m_mean (hf : wf σ) {v : Int32} (hv : v = nI 0 ∨ v = nI 1) : f_X6_partOf (lN (prices σ 0)) (lN (vW σ)) v = some (mea σ v) := by
  have hH := hf.1; have hW := hf.2.1.2.1
  have hp := prices_le (n := 0) hf.2.1
  by_cases c : prices σ 0 = 0
  · unfold f_X6_partOf mea
    rw [c, if_pos (by rw [lg_cmp_eq]; rfl)]
    by_cases w : vW σ = 0
    · rw [w]
      rcases hv with rfl | rfl <;> rfl
    · have e : gd 0 (vW σ) (max (vW σ) 1) = vW σ := by rw [Nat.max_eq_left (by omega), gd_gcd (by omega), Nat.gcd_zero_left]
      rw [e, Nat.max_eq_left (by omega), Nat.div_self (by omega), Nat.zero_div]
      rcases hv with rfl | rfl <;> rfl
  · have w : 0 < vW σ := by
      rcases Nat.eq_zero_or_pos (vW σ) with q | q
      · exact absurd (by unfold prices; rw [q]; rfl) c
      · exact q
    rw [m_partOf (by omega) (by omega) (by omega)]
    unfold mea
    rw [Nat.max_eq_left (by omega), gd_gcd w]
theorem ok_mean (hJ : JJ M S) (a : Int32) : OK (f_X5_mean M a) (fun M1 => f_X6_mean M1 a) := by
  obtain ⟨h0, h5, hB⟩ := J_C hJ; have hf := J_f hJ; have hH := hf.1; have hW := hf.2.1.2.1
  have hp := prices_le (n := 0) hf.2.1
  by_cases c1 : okv 2 a = true
  · have hv : a = nI 0 ∨ a = nI 1 := by
      obtain ⟨j, hj, rfl⟩ := okv_ex (by omega) c1
      rcases (show j = 0 ∨ j = 1 by omega) with rfl | rfl
      · exact Or.inl rfl
      · exact Or.inr rfl
    refine OK_q hJ (M1 := M) (r := mea (sv S) a) ?_ (frC_refl M) (fun hR hg => ⟨ju M 16 11 0 0, ?_, RM_ct hR, frK_ct M⟩)
    · have e : f_X5_mean_j16 M a = some (mea (sv S) a, M) := by
        unfold f_X5_mean_j16
        rw [show (0 : Int32) = nI 0 from rfl, p_pricesBehind h0 hB hf.2.1 (by omega), q_jb, p_mean h5 hf]
      unfold f_X5_mean
      rw [e]
      rcases hv with rfl | rfl <;> rfl
    · have hc1 : RM ((ju M 16 11 0 0) 16) (sv S) := RM_ct hR
      show f_X6_mean M a = _
      unfold f_X6_mean
      rw [m_inL a 1 2 (by omega) (by decide), if_pos c1, if_neg z10, m_allPrices hc1 hg, q_jb, hc1.2.1, nI_l (by omega), nI_l (by omega), m_mean hf hv, q_jb]
  · have nn : ∀ j, j < 2 → ¬ a = nI j := fun j hj => okv_ne (by omega) c1 hj
    refine OK_refg (fun r => 4000000000000000000 - r.toInt64) (k := 2) (by omega) hJ ?_ (fun M1 e16 _ => ?_)
    · unfold f_X5_mean f_X5_refuseLong
      rw [if_neg (show ¬ a = (0 : Int32) from nn 0 (by omega)), if_neg (show ¬ a = (1 : Int32) from nn 1 (by omega)), show (-2 : Int32) = -nI 2 from rfl, x_refuse (by omega)]; rfl
    · show f_X6_mean M1 a = _
      unfold f_X6_mean
      rw [m_inL a 1 2 (by omega) (by decide), if_neg c1, if_pos z00]; rfl
end Asks

/-! gaps -/
theorem sm_eq_iff {f g : Nat → Nat} : ∀ n, (∀ i, i < n → f i ≤ g i) → (sm f n = sm g n ↔ ∀ i, i < n → f i = g i)
  | 0, _ => ⟨fun _ i hi => by omega, fun _ => rfl⟩
  | n + 1, h => by
    have h1 := sm_eq_iff n (fun i hi => h i (by omega))
    have h2 := h n (by omega)
    have h3 : sm f n ≤ sm g n := by
      have : ∀ m, m ≤ n → sm f m ≤ sm g m := by
        intro m
        induction m with
        | zero => intro _; exact Nat.le_refl 0
        | succ m ih =>
          intro hm
          have := ih (by omega)
          have := h m (by omega)
          show sm f m + f m ≤ sm g m + g m
          omega
      exact this n (Nat.le_refl n)
    constructor
    · intro e i hi
      have e : sm f n + f n = sm g n + g n := e
      by_cases q : i = n
      · subst q; omega
      · exact h1.mp (by omega) i (by omega)
    · intro e
      show sm f n + f n = sm g n + g n
      rw [h1.mpr (fun i hi => e i (by omega)), e n (by omega)]
theorem cn_sm (p : Nat → Bool) : ∀ n, cn p n = sm (fun i => if p i then 1 else 0) n
  | 0 => rfl
  | n + 1 => by show cn p n + _ = sm _ n + _; rw [cn_sm p n]
theorem cn_eq_iff {p q : Nat → Bool} (n : Nat) (h : ∀ i, i < n → p i = true → q i = true) : cn p n = cn q n ↔ ∀ i, i < n → p i = q i := by
  rw [cn_sm, cn_sm, sm_eq_iff n (fun i hi => ?_)]
  · refine ⟨fun e i hi => ?_, fun e i hi => by rw [e i hi]⟩
    have := e i hi
    cases h1 : p i <;> cases h2 : q i <;> simp [h1, h2] at this ⊢
  · have := h i hi
    cases h1 : p i <;> cases h2 : q i <;> simp [h1, h2] at this ⊢
theorem cn_mono {p q : Nat → Bool} (n : Nat) (h : ∀ i, i < n → p i = true → q i = true) : cn p n ≤ cn q n := by
  induction n with
  | zero => exact Nat.le_refl 0
  | succ n ih =>
    have h1 := ih (fun i hi => h i (by omega))
    have h2 := h n (by omega)
    show cn p n + _ ≤ cn q n + _
    cases a : p n <;> cases b : q n <;> simp [a, b] at h2 ⊢ <;> omega
section Gaps
variable {σ : vl}
theorem owe_mono {n w h : Nat} (q : owe σ n w h = true) : owe σ (n + 1) w h = true := by
  unfold owe at q ⊢
  simp only [decide_eq_true_eq] at q ⊢
  unfold dk
  rw [if_neg q]
  omega
def nw (σ : vl) (n : Nat) : Prop := ∃ w, w < vW σ ∧ ∃ h, h < vH σ ∧ owe σ n w h = false ∧ owe σ (n + 1) w h = true
theorem debts_nw (n : Nat) : debts σ (n + 1) = debts σ n ↔ ¬ nw σ n := by
  unfold debts
  rw [eq_comm, sm_eq_iff _ (fun w _ => cn_mono _ (fun h _ q => owe_mono q))]
  constructor
  · rintro e ⟨w, hw, h, hh, q1, q2⟩
    have := (cn_eq_iff _ (fun h _ q => owe_mono q)).mp (e w hw) h hh
    rw [q1, q2] at this; cases this
  · intro e w hw
    refine (cn_eq_iff _ (fun h _ q => owe_mono q)).mpr (fun h hh => ?_)
    cases q1 : owe σ n w h
    · cases q2 : owe σ (n + 1) w h
      · rfl
      · exact absurd ⟨w, hw, h, hh, q1, q2⟩ e
    · rw [owe_mono q1]
theorem owe_fs {w h n : Nat} (hb : wb σ (vH σ)) (hn : n + 1 ≤ 61) : (owe σ n w h = false ∧ owe σ (n + 1) w h = true) ↔ (σ (20 + w) h = 0 ∧ fs σ w h 61 = n + 1) := by
  unfold owe
  simp only [decide_eq_false_iff_not, decide_eq_true_eq, ne_eq, Decidable.not_not]
  by_cases z : σ (20 + w) h = 0
  · have hl := fs_le σ w h n
    have hl1 := fs_le σ w h (n + 1)
    rw [dk_zero z, dk_zero z]
    have a1 : (if fs σ w h n = 0 then 0 else min 100 (n - fs σ w h n + 1)) = 0 ↔ fs σ w h n = 0 := by
      split
      · simp [*]
      · rename_i q; constructor
        · intro e; omega
        · intro e; exact absurd e q
    have a2 : (if fs σ w h (n + 1) = 0 then 0 else min 100 (n + 1 - fs σ w h (n + 1) + 1)) = 0 ↔ fs σ w h (n + 1) = 0 := by
      split
      · simp [*]
      · rename_i q; constructor
        · intro e; omega
        · intro e; exact absurd e q
    rw [a1, a2]
    constructor
    · rintro ⟨q1, q2⟩
      have e : fs σ w h (n + 1) = n + 1 := by
        have q3 := q2
        unfold fs at q3 ⊢
        rw [if_neg (by omega)] at q3 ⊢
        split at q3
        · rename_i s; rw [if_pos s]
        · exact absurd rfl q3
      have := fs_mono q2 (61 - (n + 1))
      rw [show n + 1 + (61 - (n + 1)) = 61 by omega] at this
      exact ⟨z, by omega⟩
    · rintro ⟨-, q⟩
      have q2 := fs_at (σ := σ) (w := w) (h := h) (s := n + 1) (by omega) 61 q
      refine ⟨?_, by omega⟩
      rcases Nat.eq_zero_or_pos (fs σ w h n) with s | s
      · exact s
      · have := fs_mono (σ := σ) (w := w) (h := h) (n := n) (by omega) 1
        omega
  · constructor
    · rintro ⟨q, -⟩
      rw [dk_pos z (hb.2.2.2.2 w h)] at q
      omega
    · rintro ⟨q, -⟩; exact absurd q z
def gset (σ : vl) (w i m : Nat) : Nat := if σ (20 + w) i = 0 ∧ fs σ w i 61 ≠ 0 then m ||| 2 ^ fs σ w i 61 else m
def gmask (σ : vl) : Nat := ff (fun w m => ff (gset σ w) (vH σ) 0 m) (vW σ) 0 0
theorem gset_bit (w i m k : Nat) : (gset σ w i m).testBit k = (m.testBit k || decide (σ (20 + w) i = 0 ∧ fs σ w i 61 ≠ 0 ∧ fs σ w i 61 = k)) := by
  unfold gset
  split
  · rename_i c
    rw [Nat.testBit_or, Nat.testBit_two_pow]
    simp [c.1, c.2]
  · rename_i c
    have : ¬ (σ (20 + w) i = 0 ∧ fs σ w i 61 ≠ 0 ∧ fs σ w i 61 = k) := fun z => c ⟨z.1, z.2.1⟩
    simp only [this, decide_false, Bool.or_false]
theorem gmask_bit (k : Nat) : (gmask σ).testBit k = true ↔ ∃ w, w < vW σ ∧ ∃ h, h < vH σ ∧ σ (20 + w) h = 0 ∧ fs σ w h 61 ≠ 0 ∧ fs σ w h 61 = k := by
  have key : ∀ m0 W, (ff (fun w m => ff (gset σ w) (vH σ) 0 m) W 0 m0).testBit k = true ↔ m0.testBit k = true ∨ ∃ w, w < W ∧ ∃ h, h < vH σ ∧ σ (20 + w) h = 0 ∧ fs σ w h 61 ≠ 0 ∧ fs σ w h 61 = k := by
    intro m0 W
    induction W with
    | zero => exact ⟨Or.inl, fun z => z.elim id (fun ⟨w, hw, _⟩ => by omega)⟩
    | succ W ih =>
      have inner : ∀ m H, (ff (gset σ W) H 0 m).testBit k = true ↔ m.testBit k = true ∨ ∃ h, h < H ∧ σ (20 + W) h = 0 ∧ fs σ W h 61 ≠ 0 ∧ fs σ W h 61 = k := by
        intro m H
        induction H with
        | zero => exact ⟨Or.inl, fun z => z.elim id (fun ⟨h, hh, _⟩ => by omega)⟩
        | succ H ih2 =>
          rw [ff_succ, gset_bit, Nat.zero_add, Bool.or_eq_true, ih2, decide_eq_true_eq]
          constructor
          · rintro ((a | ⟨h, hh, q⟩) | q)
            · exact Or.inl a
            · exact Or.inr ⟨h, by omega, q⟩
            · exact Or.inr ⟨H, by omega, q⟩
          · rintro (a | ⟨h, hh, q⟩)
            · exact Or.inl (Or.inl a)
            · by_cases e : h = H
              · subst e; exact Or.inr q
              · exact Or.inl (Or.inr ⟨h, by omega, q⟩)
      rw [ff_succ, Nat.zero_add, inner, ih]
      constructor
      · rintro ((a | ⟨w, hw, q⟩) | q)
        · exact Or.inl a
        · exact Or.inr ⟨w, by omega, q⟩
        · exact Or.inr ⟨W, by omega, q⟩
      · rintro (a | ⟨w, hw, q⟩)
        · exact Or.inl (Or.inl a)
        · by_cases e : w = W
          · subst e; exact Or.inr q
          · exact Or.inl (Or.inr ⟨w, by omega, q⟩)
  unfold gmask
  rw [key]
  constructor
  · rintro (a | q)
    · rw [Nat.zero_testBit] at a; cases a
    · exact q
  · exact Or.inr
theorem gmask_lt : gmask σ < 2 ^ 62 := by
  apply Nat.lt_pow_two_of_testBit
  intro i hi
  cases q : (gmask σ).testBit i
  · rfl
  · obtain ⟨w, _, h, _, _, _, e⟩ := (gmask_bit i).mp q
    have := fs_le σ w h 61
    omega
theorem gmask_nw {n : Nat} (hb : wb σ (vH σ)) (hn : n ≤ 60) : (gmask σ).testBit (n + 1) = true ↔ nw σ n := by
  rw [gmask_bit]
  constructor
  · rintro ⟨w, hw, h, hh, a, b, c⟩
    exact ⟨w, hw, h, hh, (owe_fs hb (by omega)).mpr ⟨a, c⟩⟩
  · rintro ⟨w, hw, h, hh, q⟩
    obtain ⟨a, c⟩ := (owe_fs hb (by omega)).mp q
    exact ⟨w, hw, h, hh, a, by omega, c⟩
end Gaps
section Asks
variable {M : jm} {S : St} {σ : vl}
theorem p_growing (h0 : M 1 0 0 = nI (vH σ)) (hB : RB (M 1) σ (vH σ)) (hf : wf σ) : f_X5_eveningsOfNewDebts M = some (lN (gmask σ)) := by
  have hH := hf.1; have hW := hf.2.1.2.1
  unfold f_X5_eveningsOfNewDebts
  rw [show (0 : Int32) = nI 0 from rfl, show (0 : Int64) = lN 0 from rfl, loop0 (L := fun k (m : Nat) i => f_X5_eveningsOfNewDebts_l4 M k (lN m) i) (f := fun w m => ff (gset σ w) (vH σ) 0 m) (K := fun m => some (lN m)) (n := vW σ)]
  · rfl
  · intro k m w hw
    simp only [f_X5_eveningsOfNewDebts_l4]
    rw [if_neg (by rw [hB.1, q_le (by omega) (by omega)]; omega), show (0 : Int32) = nI 0 from rfl, loop0 (L := fun k2 (m : Nat) i => f_X5_eveningsOfNewDebts_l18 M (f_X5_eveningsOfNewDebts_l4 M k) (nI w) k2 (lN m) i) (f := gset σ w) (K := fun m => f_X5_eveningsOfNewDebts_l4 M k (lN m) (nI (w + 1))) (n := vH σ)]
    · intro k2 m i hi
      have hl := fs_le σ w i 61
      simp only [f_X5_eveningsOfNewDebts_l18]
      rw [if_neg (by rw [h0, q_le (by omega) (by omega)]; omega), p_owes hB hf.2.1 (by omega) (by omega), q_jb, show nI i + 1 = nI (i + 1) from nI_add i 1]
      unfold gset
      by_cases z : σ (20 + w) i = 0
      · rw [if_pos z, if_pos z00, show (61 : Int32) = nI 61 from rfl, p_firstSighting hB hf.2.1 hw hi (by omega), q_jb]
        by_cases z2 : fs σ w i 61 = 0
        · rw [if_pos z2, if_pos (by decide), if_neg (fun q => q.2 z2)]
        · rw [if_neg z2, if_neg (by rw [show (0 : Int32) = nI 0 from rfl, q_le (by omega) (by omega)]; omega), if_pos ⟨z, z2⟩, show (1 : Int64) = lN 1 from rfl, wb_shl 1 (by omega), fb_orL, Nat.one_mul]
      · rw [if_neg z, if_neg z10, if_neg (fun q => z q.1)]
    · intro k2 m
      simp only [f_X5_eveningsOfNewDebts_l18]
      rw [if_pos (by rw [h0, q_le (by omega) (by omega)]; omega), show nI w + 1 = nI (w + 1) from nI_add w 1]
    · omega
  · intro k m
    simp only [f_X5_eveningsOfNewDebts_l4]
    rw [if_pos (by rw [hB.1, q_le (by omega) (by omega)]; omega)]
  · omega
theorem g_tst {m k : Nat} (hm : m < 2 ^ 62) (hk : k < 62) : lg_cmp ((lN m >>> (Int32.toInt64 (nI k) &&& 63)) &&& 1) 0 = 0 ↔ m.testBit k = false := by
  have hD : ((lN k).toBitVec.smod 64).toNat = k := by
    have : ∀ k, k < 62 → ((lN k).toBitVec.smod 64).toNat = k := by decide +kernel
    exact this k hk
  have h1 : m / 2 ^ k ≤ m := Nat.div_le_self _ _
  rw [wb_c k (by omega), pf_shr hD hm, wb_a1 (by omega), lg_cmp_eq, show (0 : Int64) = lN 0 from rfl, pk_lEQ (by omega) (by omega), Nat.testBit_eq_decide_div_mod_eq]
  simp only [decide_eq_false_iff_not]
  omega
theorem gaps_eq {N : jm} (hb : wg σ) : ∀ d n k k2 A, n + d = 61 → d < k → d + 1 < k2 → RM (A 16) (evN σ n) → KM (A 16 21) σ → frT N A → ∃ r M2, f_X5_gaps_l7 M (lN (gmask σ)) k (nI n) = some r ∧ f_X6_gaps_l14 k2 A (-9) (nI n) = some (r, M2) ∧ RM (M2 16) σ ∧ frT N M2 := by
  intro d
  induction d with
  | zero =>
    intro n k k2 A hn hk hk2 p1 p2 p3
    obtain ⟨k, rfl⟩ : ∃ j, k = j + 1 := ⟨k - 1, by omega⟩
    obtain ⟨k2, rfl⟩ : ∃ j, k2 = j + 1 := ⟨k2 - 1, by omega⟩
    obtain ⟨B, b1, b2, b3⟩ := m_again p2 hb
    refine ⟨-9, B, ?_, ?_, b2, frT_trans p3 (frT_of b3)⟩
    · rw [f_X5_gaps_l7, if_pos (by rw [show (60 : Int32) = nI 60 from rfl, q_lt (by omega) (by omega)]; omega)]
    · rw [f_X6_gaps_l14, if_pos (by rw [show (60 : Int32) = nI 60 from rfl, q_lt (by omega) (by omega)]; omega), b1, q_jb]
  | succ d ih =>
    intro n k k2 A hn hk hk2 p1 p2 p3
    obtain ⟨k, rfl⟩ : ∃ j, k = j + 1 := ⟨k - 1, by omega⟩
    obtain ⟨k2, rfl⟩ : ∃ j, k2 = j + 2 := ⟨k2 - 2, by omega⟩
    obtain ⟨B, b1, b2, b3⟩ := m_evening p1 hb
    have hd1 := m_allDebts p1 (wg_ev hb)
    have hd2 := m_allDebts b2 (wg_ev hb)
    rw [debts_ev] at hd1 hd2
    have kB : KM (B 16 21) σ := by rw [fr3_at b3 (by omega)]; exact p2
    have fB : frT N B := frT_trans p3 (frT_of (frA_of b3))
    have hle : ∀ m, debts σ m ≤ 7 * 6 := fun m => by
      have h1 := sm_le (f := fun w => cn (owe σ m w) (vH σ)) (c := 7) (vW σ) (fun w _ => Nat.le_trans (cn_le _ _) hb.1)
      have h2 := hb.2.1.2.1
      unfold debts
      omega
    have hx : f_X5_gaps_l7 M (lN (gmask σ)) (k + 1) (nI n) = if debts σ (n + 1) = debts σ n then some (nI n) else f_X5_gaps_l7 M (lN (gmask σ)) k (nI (n + 1)) := by
      rw [f_X5_gaps_l7, if_neg (by rw [show (60 : Int32) = nI 60 from rfl, q_lt (by omega) (by omega)]; omega), show nI n + 1 = nI (n + 1) from nI_add n 1]
      by_cases z : nw σ n
      · rw [if_neg (by rw [g_tst gmask_lt (by omega), (gmask_nw hb.2.1 (by omega)).mpr z]; simp), if_neg (fun q => (debts_nw n).mp q z)]
      · rw [if_pos (by
          rw [g_tst gmask_lt (by omega)]
          cases q : (gmask σ).testBit (n + 1)
          · rfl
          · exact absurd ((gmask_nw hb.2.1 (by omega)).mp q) z), if_pos ((debts_nw n).mpr z)]
    have hy : f_X6_gaps_l14 (k2 + 2) A (-9) (nI n) = if debts σ (n + 1) = debts σ n then f_X6_gaps_l14 (k2 + 1) B (nI n) (nI (n + 1)) else f_X6_gaps_l14 (k2 + 1) B (-9) (nI (n + 1)) := by
      rw [f_X6_gaps_l14, if_neg (by rw [show (60 : Int32) = nI 60 from rfl, q_lt (by omega) (by omega)]; omega), if_neg (by decide), hd1, q_jb, b1, q_jb, hd2, q_jb, show nI n + 1 = nI (n + 1) from nI_add n 1]
      have he : nI (debts σ (n + 1)) = nI (debts σ n) ↔ debts σ (n + 1) = debts σ n := q_eq (Nat.lt_of_le_of_lt (hle _) (by omega)) (Nat.lt_of_le_of_lt (hle _) (by omega))
      by_cases z : nw σ n
      · rw [if_neg (fun q => (debts_nw n).mp (he.mp q) z), if_neg (fun q => (debts_nw n).mp q z)]
      · rw [if_pos (he.mpr ((debts_nw n).mpr z)), if_pos ((debts_nw n).mpr z)]
    rw [hx, hy]
    by_cases z : nw σ n
    · rw [if_neg (fun q => (debts_nw n).mp q z), if_neg (fun q => (debts_nw n).mp q z)]
      exact ih (n + 1) k (k2 + 1) B (by omega) (by omega) (by omega) b2 kB fB
    · rw [if_pos ((debts_nw n).mpr z), if_pos ((debts_nw n).mpr z)]
      obtain ⟨C, c1, c2, c3⟩ := m_again kB hb
      refine ⟨nI n, C, rfl, ?_, c2, frT_trans fB (frT_of c3)⟩
      rw [f_X6_gaps_l14, c1, if_pos (show (0 : Int32) ≤ nI n from r_lo (by omega)), q_jb]
      split <;> rfl
theorem ok_gaps (hJ : JJ M S) : OK0 M (f_X5_gaps M) (fun M1 => f_X6_gaps M1) := by
  obtain ⟨h0, h5, hB⟩ := J_C hJ; have hf := J_f hJ; have hH := hf.1; have hW := hf.2.1.2.1
  obtain ⟨A, a1, a2, a3, a4⟩ := m_think (M := ju M 16 11 0 0) (RM_ct hJ.2.1.1)
  obtain ⟨r, B, b1, b2, b3, b4⟩ := gaps_eq (M := M) (N := ju M 16 11 0 0) (wg_of hf) 61 0 10000 10000 A (by omega) (by omega) (by omega) (by rw [evN_0]; exact a2) a3 a4
  refine OK0_q hJ (r := r) ?_ (fun hR hg => ⟨B, ?_, b3, frK_trans (frK_ct M) (frK_of b4)⟩)
  · unfold f_X5_gaps
    rw [p_growing h0 hB hf, q_jb]
    exact b1
  · show f_X6_gaps M = _
    unfold f_X6_gaps
    rw [a1, q_jb]
    exact b2
end Asks

/-! burn -/
theorem bs_or {p : Nat → Bool} {n i : Nat} (hn : n ≤ 8) (hi : i < n) : nI (bs p n) ||| bi i = nI (bs (fun w => p w || decide (w = i)) n) := by
  apply b_ext
  intro j hj
  rw [b_or, bt_bi i (by omega) j hj]
  by_cases c : j < 8
  · rw [bs_bt _ c _ hn, bs_bt _ c _ hn]
    by_cases c2 : j < n
    · simp [c2]
    · have : ¬ j = i := by omega
      simp [c2, this]
  · rw [bt_hi _ (bs_lt8 hn) j hj (by omega), bt_hi _ (bs_lt8 hn) j hj (by omega)]
    simp [show ¬ j = i by omega]
section Burn
variable {σ : vl}
/-- whether w meets a candle in c on one of the first n evenings -/
def mt (σ : vl) (c w : Nat) : Nat → Bool
  | 0 => false
  | k + 1 => mt σ c w k || decide (σ 8 w ≠ 0 ∧ stp (pl σ w (k + 1)) c ≤ σ 8 w)
def mtc (σ : vl) (n c : Nat) : Nat := cn (fun w => mt σ c w n) (vW σ)
theorem candle_see {c w p : Nat} (h8 : σ 8 w ≤ 2) : see (addH σ 0 0 c) w p (vH σ) = decide (σ 8 w ≠ 0 ∧ stp p c ≤ σ 8 w) := by
  unfold see rg
  rw [addH_1, addH_2, addH_3, addH_4, addH_lo (F := 8) (by omega) (by omega)]
  have e : rch 0 0 = 2 := rfl
  rw [e]
  by_cases q : σ 8 w = 2
  · rw [if_pos q, q]; simp
  · rw [if_neg q]
    by_cases q1 : σ 8 w = 1
    · rw [q1]; simp
    · have q0 : σ 8 w = 0 := by omega
      rw [q0]; simp
theorem candle_owe {c w : Nat} (hf : wg σ) (h8 : σ 8 w ≤ 2) : ∀ n, owe (addH σ 0 0 c) n w (vH σ) = mt σ c w n
  | 0 => by
    have e : dk (addH σ 0 0 c) w (vH σ) 0 = 0 := by
      show addH σ 0 0 c (20 + w) (vH σ) = 0
      rw [addH_lo (by omega) (by omega)]
      exact hf.2.2 w (vH σ) (Or.inr (Nat.le_refl _))
    unfold owe
    rw [e]; rfl
  | n + 1 => by
    have ih := candle_owe (c := c) hf h8 n
    have ep : ∀ k, pl (addH σ 0 0 c) w k = pl σ w k := pl_congr (addH_lo (by omega) (by omega)) (addH_lo (by omega) (by omega))
    unfold owe at ih ⊢
    unfold dk mt
    rw [candle_see h8, ep]
    by_cases z : dk (addH σ 0 0 c) w (vH σ) n = 0
    · rw [z] at ih
      rw [if_pos z, ← ih]
      by_cases y : σ 8 w ≠ 0 ∧ stp (pl σ w (n + 1)) c ≤ σ 8 w
      · simp [y]
      · simp [y]
    · rw [if_neg z, ← ih]
      simp [z]
end Burn
section Asks
variable {M : jm} {S : St} {σ : vl}
theorem p_setCandle {A : jm} (hR : RW (A 2) σ) (hH : vH σ ≤ 7) : ∃ B, f_X4_setCandle A 2 = some (nI (vH σ), B) ∧ (∀ o, o ≠ 2 → B o = A o) ∧ ∀ c, RB (ju B 2 3 (vH σ) (nI c) 2) (addH σ 0 0 c) (vH σ + 1) := by
  refine ⟨ju (ju (ju A 2 1 (vH σ) 0) 2 2 (vH σ) 0) 2 4 0 (A 2 4 0 ||| bi (vH σ)), ?_, fun o ho => by rw [ju_ne ho, ju_ne ho, ju_ne ho], fun c => ?_⟩
  · have e1 : ∀ x : Int32, ju A 2 1 (vH σ) x 2 0 0 = nI (vH σ) := fun x => by rw [ju_g (by omega)]; exact hR.1
    have e2 : ∀ x y : Int32, ju (ju A 2 1 (vH σ) x) 2 2 (vH σ) y 2 0 0 = nI (vH σ) := fun x y => by rw [ju_g (by omega), ju_g (by omega)]; exact hR.1
    have e3 : ∀ x y : Int32, ju (ju A 2 1 (vH σ) x) 2 2 (vH σ) y 2 4 0 = A 2 4 0 := fun x y => by rw [ju_g (by omega), ju_g (by omega)]
    have e4 : ∀ x y z : Int32, ju (ju (ju A 2 1 (vH σ) x) 2 2 (vH σ) y) 2 4 0 z 2 0 0 = nI (vH σ) := fun x y z => by rw [ju_g (by omega), ju_g (by omega), ju_g (by omega)]; exact hR.1
    unfold f_X4_setCandle
    rw [hR.1, q_gd (by omega) (by omega), q_cl (by omega), e1, q_gd (by omega) (by omega), q_cl (by omega), e2, e3, e4]
    rfl
  · refine RB_house (M := A) (M' := ju (ju (ju (ju A 2 1 (vH σ) 0) 2 2 (vH σ) 0) 2 4 0 (A 2 4 0 ||| bi (vH σ))) 2 3 (vH σ) (nI c)) hR.2.2 (x := A 2 4 0 ||| bi (vH σ)) ?_ ?_ (by omega) (fun i => ?_) (fun i => ?_) (fun i => ?_) (fun F hF => ?_)
    · rw [ju_g (by omega), ju_g (by omega), ju_g (by omega), ju_g (by omega)]
    · rw [ju_g (by omega), ju_self]
    · rw [ju_g (by omega), ju_g (by omega), ju_g (by omega), ju_o]
      by_cases q : i = vH σ
      · rw [if_pos ⟨rfl, q⟩, if_pos q]; rfl
      · rw [if_neg (fun z => q z.2), if_neg q]
    · rw [ju_g (by omega), ju_g (by omega), ju_o]
      by_cases q : i = vH σ
      · rw [if_pos ⟨rfl, q⟩, if_pos q]; rfl
      · rw [if_neg (fun z => q z.2), if_neg q, ju_g (by omega)]
    · rw [ju_o]
      by_cases q : i = vH σ
      · rw [if_pos ⟨rfl, q⟩, if_pos q]
      · rw [if_neg (fun z => q z.2), if_neg q, ju_g (by omega), ju_g (by omega), ju_g (by omega)]
    · rw [ju_f (by omega), ju_f (by omega), ju_f (by omega), ju_f (by omega)]
theorem x_burn (hJ : JJ M S) {n : Nat} (hn : n ≤ 60) (v : Int32) : ∃ A, f_X5_burn_j41 M (nI n) v = some ((if v = 0 then (ff (amf (mtc (sv S) n)) 49 0 (nI 0, nI 0)).1 else (ff (amf (mtc (sv S) n)) 49 0 (nI 0, nI 0)).2), A) ∧ frC M A := by
  obtain ⟨h0, h5, hB⟩ := J_C hJ; have hf := J_f hJ; have hH := hf.1; have hW := hf.2.1.2.1
  have hg := wg_of hf
  obtain ⟨A, a1, a2, a3⟩ := p_becomeRW (M := M) (o := 2) (o1 := 1) (σ := sv S) (by omega) hJ.1.1
  obtain ⟨B, b1, b2, b3⟩ := p_setCandle a3 hH
  unfold f_X5_burn_j41
  rw [a1, q_jb, b1, q_jb2]
  refine loopE (L := fun k (a : jm × Int32 × Int32) i => f_X5_burn_l69 (nI n) v (nI (vH (sv S))) k a.1 a.2.1 a.2.2 i) (P := fun i a => (∀ o, o ≠ 2 → a.1 o = M o) ∧ (∀ c, RB (ju a.1 2 3 (vH (sv S)) (nI c) 2) (addH (sv S) 0 0 c) (vH (sv S) + 1)) ∧ a.2 = ff (amf (mtc (sv S) n)) i 0 (nI 0, nI 0)) (Z := fun r => ∃ A, r = some ((if v = 0 then (ff (amf (mtc (sv S) n)) 49 0 (nI 0, nI 0)).1 else (ff (amf (mtc (sv S) n)) 49 0 (nI 0, nI 0)).2), A) ∧ frC M A) (n := 49) ?_ ?_ 49 0 10000 (B, 0, 0) (by omega) (by omega) ⟨fun o ho => by show B o = M o; rw [b2 o ho, a2 o ho], b3, rfl⟩
  · rintro k ⟨C, u⟩ i hi ⟨p1, p2, p3⟩
    simp only at p1 p2 p3
    subst p3
    have eo := p_owersBehind (h := vH (sv S)) (n := n) (p2 i) (wb_addH hf.2.1 hH (by omega) (by omega) hi) (by omega) (by omega)
    rw [addH_W] at eo
    have ec : bs (fun w => owe (addH (sv S) 0 0 i) n w (vH (sv S))) (vW (sv S)) = bs (fun w => mt (sv S) i w n) (vW (sv S)) := bs_congr _ (fun w hw => candle_owe hg (hf.2.1.2.2.2.1 w hw).2.2 n)
    rw [ec] at eo
    refine ⟨(ju C 2 3 (vH (sv S)) (nI i), ff (amf (mtc (sv S) n)) (i + 1) 0 (nI 0, nI 0)), ?_, fun o ho => by show ju C 2 3 (vH (sv S)) (nI i) o = M o; rw [ju_ne ho, p1 o ho], fun c => ?_, rfl⟩
    · simp only [f_X5_burn_l69]
      rw [if_neg (by rw [show (49 : Int32) = nI 49 from rfl, q_le (by omega) (by omega)]; omega), q_gd (by omega) (by omega), q_cl (by omega), eo, q_jb, p_bitCount (by omega), show nI i + 1 = nI (i + 1) from nI_add i 1, ff_succ, Nat.zero_add]
      show (if nI (mtc (sv S) n i) ≤ _ then _ else _) = _
      unfold amf
      split <;> rfl
    · have e : ju (ju C 2 3 (vH (sv S)) (nI i)) 2 3 (vH (sv S)) (nI c) = ju C 2 3 (vH (sv S)) (nI c) := by
        funext o f j
        unfold ju
        split <;> rfl
      rw [e]; exact p2 c
  · rintro k ⟨C, u⟩ ⟨p1, p2, p3⟩
    simp only at p1 p2 p3
    refine ⟨C, ?_, fun o h1 _ _ => p1 o h1⟩
    simp only [f_X5_burn_l69]
    rw [if_pos (by rw [show (49 : Int32) = nI 49 from rfl, q_le (by omega) (by omega)]; omega), p3]
    by_cases z : v = 0
    · rw [if_pos z, if_pos z]
    · rw [if_neg z, if_neg z]
def bmk (σ : vl) (k i : Nat) (c : Nat) : Nat := bs (fun w => if w < i then mt σ c w (k + 1) else mt σ c w k) (vW σ)
theorem m_burn85 {N : jm} (hf : wg σ) {k i : Nat} (hi : i < vW σ) (K59 K73 : jm → Int32 → Option (Int32 × jm)) (v1 v2 v4 : Int32) {A : jm} (hA : RM (A 16) (evN σ (k + 1))) (h34 : ∀ c, c < 49 → A 16 34 c = nI (bmk σ k i c)) (hfr : frK N A) (hk : KM (A 16 21) σ) : ∃ B, f_X6_burn_l85 K59 K73 v1 v2 v4 (nI i) 10000 A 0 = K73 B (nI (i + 1)) ∧ RM (B 16) (evN σ (k + 1)) ∧ (∀ c, c < 49 → B 16 34 c = nI (bmk σ k (i + 1) c)) ∧ frK N B ∧ KM (B 16 21) σ := by
  have hH := hf.1; have hW := hf.2.1.2.1
  have h8 := (hf.2.1.2.2.2.1 i hi).2.2
  have hpl := pl_lt hf.2.1 hi (k + 1)
  obtain ⟨g1, g2, g3⟩ := hA.2.2.2.2.1 i (by rw [evN_W]; exact hi)
  rw [evN_at hi] at g1
  rw [evN_lo σ (k + 1) 8 i (by omega)] at g3
  have step : ∀ c, bmk σ k (i + 1) c = bs (fun w => (if w < i then mt σ c w (k + 1) else mt σ c w k) || (decide (w = i) && decide (σ 8 i ≠ 0 ∧ stp (pl σ i (k + 1)) c ≤ σ 8 i))) (vW σ) := by
    intro c
    refine bs_congr _ (fun w hw => ?_)
    by_cases q : w = i
    · subst q
      rw [if_pos (by omega), if_neg (by omega)]
      simp [mt]
    · by_cases q2 : w < i
      · rw [if_pos (by omega), if_pos q2]; simp [q]
      · rw [if_neg (by omega), if_neg q2]; simp [q]
  by_cases z : σ 8 i = 0
  · refine ⟨A, ?_, hA, fun c hc => ?_, hfr, hk⟩
    · rw [f_X6_burn_l85, if_neg (by decide), q_gd (by omega) (by omega), q_cl (by omega), g3, if_pos (by rw [z]; decide), show nI i + 1 = nI (i + 1) from nI_add i 1]
    · rw [h34 c hc, step]
      congr 1
      exact bs_congr _ (fun w _ => by simp [z])
  · refine loopE (L := fun kk (a : jm) c => f_X6_burn_l85 K59 K73 v1 v2 v4 (nI i) kk a c) (P := fun c0 a => RM (a 16) (evN σ (k + 1)) ∧ (∀ c, c < 49 → a 16 34 c = nI (bmk σ k (if c < c0 then i + 1 else i) c)) ∧ frK N a ∧ KM (a 16 21) σ) (Z := fun r => ∃ B, r = K73 B (nI (i + 1)) ∧ RM (B 16) (evN σ (k + 1)) ∧ (∀ c, c < 49 → B 16 34 c = nI (bmk σ k (i + 1) c)) ∧ frK N B ∧ KM (B 16 21) σ) (n := 49) ?_ ?_ 49 0 10000 A (by omega) (by omega) ⟨hA, fun c hc => by rw [if_neg (by omega)]; exact h34 c hc, hfr, hk⟩
    · rintro kk C c0 hc ⟨p1, p2, p3, p4⟩
      obtain ⟨g1, g2, g3⟩ := p1.2.2.2.2.1 i (by rw [evN_W]; exact hi)
      rw [evN_at hi] at g1
      rw [evN_lo σ (k + 1) 8 i (by omega)] at g3
      have hs := stp_lt _ hpl _ hc
      have v := p2 c0 hc
      rw [if_neg (by omega)] at v
      have fin : ∀ x : Int32, x = nI (bmk σ k (i + 1) c0) → RM (ju C 16 34 c0 x 16) (evN σ (k + 1)) ∧ (∀ c, c < 49 → ju C 16 34 c0 x 16 34 c = nI (bmk σ k (if c < c0 + 1 then i + 1 else i) c)) ∧ frK N (ju C 16 34 c0 x) ∧ KM (ju C 16 34 c0 x 16 21) σ := by
        rintro x rfl
        refine ⟨RM_fe (fun f hf => ju_f (by omega)) p1, fun c hc2 => ?_, frK_trans p3 (frK_ju (by unfold kp; omega)), by rw [ju_f (by omega)]; exact p4⟩
        rw [ju_o]
        by_cases q : c = c0
        · subst q; rw [if_pos ⟨rfl, rfl⟩, if_pos (by omega)]
        · rw [if_neg (fun y => q y.2), p2 c hc2]
          by_cases q2 : c < c0
          · rw [if_pos q2, if_pos (by omega)]
          · rw [if_neg q2, if_neg (by omega)]
      simp only [f_X6_burn_l85]
      rw [if_neg (by rw [show (49 : Int32) = nI 49 from rfl, q_le (by omega) (by omega)]; omega), q_gd (by omega) (by omega), q_cl (by omega), g3, if_neg (by rw [show (0 : Int32) = nI 0 from rfl, q_le (by omega) (by omega)]; omega), q_gd hc (by omega), q_gd (by omega) (by omega), q_gd (by omega) (by omega), g1, m_stepsOf _ hpl _ hc, q_gd hc (by omega), q_cl (by omega), v, show nI c0 + 1 = nI (c0 + 1) from nI_add c0 1]
      by_cases y : stp (pl σ i (k + 1)) c0 ≤ σ 8 i
      · refine ⟨_, by rw [if_neg (by rw [q_lt (by omega) (by omega)]; omega), q_gd hc (by omega)], fin _ ?_⟩
        show nI (bmk σ k i c0) ||| bi i = _
        unfold bmk
        rw [bs_or (by omega) hi, ← bmk, step]
        congr 1
        exact bs_congr _ (fun w _ => by simp [z, y])
      · refine ⟨_, by rw [if_pos (by rw [q_lt (by omega) (by omega)]; omega)], fin _ ?_⟩
        show nI (bmk σ k i c0) ||| nI 0 = _
        rw [q_or0, step]
        congr 1
        exact bs_congr _ (fun w _ => by simp [y])
    · rintro kk C ⟨p1, p2, p3, p4⟩
      refine ⟨C, ?_, p1, fun c hc => by rw [p2 c hc, if_pos hc], p3, p4⟩
      simp only [f_X6_burn_l85]
      rw [if_pos (by rw [show (49 : Int32) = nI 49 from rfl, q_le (by omega) (by omega)]; omega), show nI i + 1 = nI (i + 1) from nI_add i 1]
theorem bmk_0 {k : Nat} (c : Nat) : bmk σ k 0 c = bs (fun w => mt σ c w k) (vW σ) := bs_congr _ (fun w _ => by rw [if_neg (by omega)])
theorem bmk_W {k : Nat} (c : Nat) : bmk σ k (vW σ) c = bs (fun w => mt σ c w (k + 1)) (vW σ) := bs_congr _ (fun w hw => by rw [if_pos hw])
theorem m_burn170 {B : jm} (hW : vW σ ≤ 6) {n : Nat} (h34 : ∀ c, c < 49 → B 16 34 c = nI (bs (fun w => mt σ c w n) (vW σ))) (v : Int32) : f_X6_burn_l170 v 10000 B 0 1 = some ((if v = 0 then (ff (amf (mtc σ n)) 49 0 (nI 0, nI 0)).1 else (ff (amf (mtc σ n)) 49 0 (nI 0, nI 0)).2), B) := by
  have on : ∀ c, c < 49 → f_X6_onesOf (B 16 34 c) = some (nI (mtc σ n c)) := fun c hc => by rw [h34 c hc, m_onesOf (by omega)]; rfl
  have hle : ∀ c, mtc σ n c ≤ 6 := fun c => Nat.le_trans (cn_le _ _) hW
  have key : ∀ d i k b, i + d = 49 → d < k → 1 ≤ i → b < 49 → ff (amf (mtc σ n)) i 0 (nI 0, nI 0) = (nI b, nI (mtc σ n b)) → f_X6_burn_l170 v k B (nI b) (nI i) = some ((if v = 0 then (ff (amf (mtc σ n)) 49 0 (nI 0, nI 0)).1 else (ff (amf (mtc σ n)) 49 0 (nI 0, nI 0)).2), B) := by
    intro d
    induction d with
    | zero =>
      intro i k b hi hk h1 hb e
      obtain ⟨k, rfl⟩ : ∃ j, k = j + 1 := ⟨k - 1, by omega⟩
      have ei : i = 49 := by omega
      subst ei
      rw [e, f_X6_burn_l170, if_pos (by decide)]
      by_cases z : v = 0
      · rw [if_pos z, if_pos z]
      · rw [if_neg z, if_neg z, q_gd hb (by omega), q_cl (by omega), on b hb, q_jb]
    | succ d ih =>
      intro i k b hi hk h1 hb e
      obtain ⟨k, rfl⟩ : ∃ j, k = j + 1 := ⟨k - 1, by omega⟩
      rw [f_X6_burn_l170, if_neg (by rw [show (49 : Int32) = nI 49 from rfl, q_le (by omega) (by omega)]; omega), q_gd (by omega) (by omega), q_cl (by omega), on i (by omega), q_jb, q_gd hb (by omega), q_cl (by omega), on b hb, q_jb, show nI i + 1 = nI (i + 1) from nI_add i 1]
      have a1 := hle i
      have a2 := hle b
      by_cases z : nI (mtc σ n i) ≤ nI (mtc σ n b)
      · rw [if_pos z]
        refine ih (i + 1) k b (by omega) (by omega) (by omega) hb ?_
        rw [ff_succ, Nat.zero_add, e]
        unfold amf
        rw [if_pos z]
      · rw [if_neg z]
        refine ih (i + 1) k i (by omega) (by omega) (by omega) (by omega) ?_
        rw [ff_succ, Nat.zero_add, e]
        unfold amf
        rw [if_neg z]
  refine key 48 1 10000 0 (by omega) (by omega) (by omega) (by omega) ?_
  show amf (mtc σ n) 0 (nI 0, nI 0) = _
  have a0 := hle 0
  unfold amf
  simp only
  by_cases z : mtc σ n 0 = 0
  · rw [z]; simp
  · rw [if_neg (by rw [q_le (by omega) (by omega)]; omega)]
theorem mq_burn (hR : RM (M 16) σ) (hf : wg σ) {n : Nat} (hn : n ≤ 60) (v : Int32) : ∃ M2, f_X6_burn_l31 (nI n) v 10000 M 0 = some ((if v = 0 then (ff (amf (mtc σ n)) 49 0 (nI 0, nI 0)).1 else (ff (amf (mtc σ n)) 49 0 (nI 0, nI 0)).2), M2) ∧ RM (M2 16) σ ∧ frK M M2 := by
  have hH := hf.1; have hW := hf.2.1.2.1
  refine loopE (L := fun k (a : jm) c => f_X6_burn_l31 (nI n) v k a c) (P := fun c0 a => RM (a 16) σ ∧ (∀ c, c < c0 → a 16 34 c = nI 0) ∧ frK M a) (Z := fun r => ∃ M2, r = some ((if v = 0 then (ff (amf (mtc σ n)) 49 0 (nI 0, nI 0)).1 else (ff (amf (mtc σ n)) 49 0 (nI 0, nI 0)).2), M2) ∧ RM (M2 16) σ ∧ frK M M2) (n := 49) ?_ ?_ 49 0 10000 M (by omega) (by omega) ⟨hR, fun c hc => by omega, frK_of (frT_of (frA_refl M))⟩
  · rintro k A c0 hc ⟨p1, p2, p3⟩
    refine ⟨ju A 16 34 c0 (nI 0), ?_, RM_fe (fun f hf => ju_f (by omega)) p1, fun c hc2 => ?_, frK_trans p3 (frK_ju (by unfold kp; omega))⟩
    · simp only [f_X6_burn_l31]
      rw [if_neg (by rw [show (49 : Int32) = nI 49 from rfl, q_le (by omega) (by omega)]; omega), q_gd hc (by omega), q_cl (by omega), show nI c0 + 1 = nI (c0 + 1) from nI_add c0 1]; rfl
    · rw [ju_o]
      by_cases q : c = c0
      · rw [if_pos ⟨rfl, q⟩]
      · rw [if_neg (fun y => q y.2)]; exact p2 c (by omega)
  · rintro k A ⟨p1, p2, p3⟩
    obtain ⟨B, b1, b2, b3, b4⟩ := m_think p1
    simp only [f_X6_burn_l31]
    rw [if_pos (by rw [show (49 : Int32) = nI 49 from rfl, q_le (by omega) (by omega)]; omega), b1, q_jb]
    have i0 : ∀ c, c < 49 → B 16 34 c = nI (bs (fun w => mt σ c w 0) (vW σ)) := fun c hc => by
      rw [b4.2 34 (by omega) (by omega) (by omega) (by omega) (by omega), p2 c hc]
      congr 1
      symm
      rw [bs_0]
      intro i _; rfl
    refine loopE (L := fun k (a : jm) i => f_X6_burn_l59 (nI n) v k a i) (P := fun i a => RM (a 16) (evN σ i) ∧ KM (a 16 21) σ ∧ frK M a ∧ (∀ c, c < 49 → a 16 34 c = nI (bs (fun w => mt σ c w i) (vW σ)))) (Z := fun r => ∃ M2, r = some ((if v = 0 then (ff (amf (mtc σ n)) 49 0 (nI 0, nI 0)).1 else (ff (amf (mtc σ n)) 49 0 (nI 0, nI 0)).2), M2) ∧ RM (M2 16) σ ∧ frK M M2) (n := n) ?_ ?_ n 0 10000 B (by omega) (by omega) ⟨by rw [evN_0]; exact b2, b3, frK_trans p3 (frK_of b4), i0⟩
    · rintro kk C i hi ⟨q1, q2, q3, q4⟩
      obtain ⟨D, d1, d2, d3⟩ := m_evening q1 hf
      simp only [f_X6_burn_l59]
      rw [if_neg (by rw [q_le (by omega) (by omega)]; omega), d1, q_jb]
      have kD : KM (D 16 21) σ := by rw [fr3_at d3 (by omega)]; exact q2
      have fD : frK M D := frK_trans q3 (frK_of (frT_of (frA_of d3)))
      have eW : vW (evN σ (i + 1)) = vW σ := evN_W σ (i + 1)
      refine loopE (L := fun k2 (a : jm) w => f_X6_burn_l73 (f_X6_burn_l59 (nI n) v kk) (nI n) v (nI i) k2 a w) (P := fun w a => RM (a 16) (evN σ (i + 1)) ∧ (∀ c, c < 49 → a 16 34 c = nI (bmk σ i w c)) ∧ frK M a ∧ KM (a 16 21) σ) (Z := fun r => ∃ a', r = f_X6_burn_l59 (nI n) v kk a' (nI (i + 1)) ∧ RM (a' 16) (evN σ (i + 1)) ∧ KM (a' 16 21) σ ∧ frK M a' ∧ (∀ c, c < 49 → a' 16 34 c = nI (bs (fun w => mt σ c w (i + 1)) (vW σ)))) (n := vW σ) ?_ ?_ (vW σ) 0 10000 D (by omega) (by omega) ⟨d2, fun c hc => by rw [fr3_at d3 (by omega), q4 c hc, bmk_0], fD, kD⟩
      · rintro k2 E w hw ⟨r1, r2, r3, r4⟩
        obtain ⟨F, f1, f2, f3, f4, f5⟩ := m_burn85 (N := M) hf hw (f_X6_burn_l59 (nI n) v kk) (f_X6_burn_l73 (f_X6_burn_l59 (nI n) v kk) (nI n) v (nI i) k2) (nI n) v (nI i) r1 r2 r3 r4
        refine ⟨F, ?_, f2, f3, f4, f5⟩
        simp only [f_X6_burn_l73]
        rw [if_neg (by rw [r1.2.1, eW, q_le (by omega) (by omega)]; omega)]
        exact f1
      · rintro k2 E ⟨r1, r2, r3, r4⟩
        refine ⟨E, ?_, r1, r4, r3, fun c hc => by rw [r2 c hc, bmk_W]⟩
        simp only [f_X6_burn_l73]
        rw [if_pos (by rw [r1.2.1, eW, q_le (by omega) (by omega)]; omega), show nI i + 1 = nI (i + 1) from nI_add i 1]
    · rintro kk C ⟨q1, q2, q3, q4⟩
      obtain ⟨D, d1, d2, d3⟩ := m_again q2 hf
      refine ⟨D, ?_, d2, frK_trans q3 (frK_of (frT_of d3))⟩
      simp only [f_X6_burn_l59]
      rw [if_pos (by rw [q_le (by omega) (by omega)]; omega), d1, q_jb]
      exact m_burn170 hW (fun c hc => by rw [d3.2 34 (by omega) (by omega) (by omega) (by omega)]; exact q4 c hc) v
theorem ok_burn (hJ : JJ M S) (a b : Int32) : OK (f_X5_burn M a b) (fun M1 => f_X6_burn M1 a b) := by
  obtain ⟨h0, h5, hB⟩ := J_C hJ; have hf := J_f hJ; have hH := hf.1; have hW := hf.2.1.2.1
  have hw1 : ∀ v : Int32, ¬ (1 : Int32) ≤ v → f_X6_wrongNumber v 1 30 = -4 := fun v h => by unfold f_X6_wrongNumber; rw [if_neg h]
  by_cases c1 : (1 : Int32) ≤ a
  · by_cases c2 : a ≤ 30
    · obtain ⟨n, hn, rfl⟩ : ∃ n, n ≤ 30 ∧ a = nI n := by
        obtain ⟨j, hj, rfl⟩ := nI_of (x := a) (fun z => by
          rw [Int32.lt_iff_toInt_lt] at z
          rw [Int32.le_iff_toInt_le] at c1
          have e0 : (0 : Int32).toInt = 0 := rfl
          have e1 : (1 : Int32).toInt = 1 := rfl
          omega)
        rw [show (30 : Int32) = nI 30 from rfl, q_le hj (by omega)] at c2
        exact ⟨j, c2, rfl⟩
      have wn : f_X6_wrongNumber (nI n) 1 30 = 0 := by unfold f_X6_wrongNumber; rw [if_pos c1, if_pos c2]
      by_cases c3 : okv 2 b = true
      · obtain ⟨A, x1, x2⟩ := x_burn hJ (show n ≤ 60 by omega) b
        refine OK_q hJ (M1 := A) (r := (if b = 0 then (ff (amf (mtc (sv S) n)) 49 0 (nI 0, nI 0)).1 else (ff (amf (mtc (sv S) n)) 49 0 (nI 0, nI 0)).2)) ?_ x2 (fun hR hg => ?_)
        · unfold f_X5_burn
          rw [if_pos c1, if_pos c2, x1]
          have hb : b = nI 0 ∨ b = nI 1 := by
            obtain ⟨j, hj, rfl⟩ := okv_ex (by omega) c3
            rcases (show j = 0 ∨ j = 1 by omega) with rfl | rfl
            · exact Or.inl rfl
            · exact Or.inr rfl
          rcases hb with rfl | rfl <;> rfl
        · obtain ⟨C, g1, g2, g3⟩ := mq_burn (M := ju A 16 11 0 0) (RM_ct hR) hg (show n ≤ 60 by omega) b
          refine ⟨C, ?_, g2, frK_trans (frK_ct A) g3⟩
          show f_X6_burn A (nI n) b = _
          unfold f_X6_burn
          rw [wn, wb_0 2 (by omega) (by decide), if_pos c3, if_pos n0]
          exact g1
      · have nn : ∀ j, j < 2 → ¬ b = nI j := fun j hj => okv_ne (by omega) c3 hj
        refine OK_ref (k := 2) (by omega) hJ ?_ (fun M1 e16 _ => ?_)
        · unfold f_X5_burn
          rw [if_pos c1, if_pos c2, if_neg (show ¬ b = (0 : Int32) from nn 0 (by omega)), if_neg (show ¬ b = (1 : Int32) from nn 1 (by omega))]; rfl
        · show f_X6_burn M1 (nI n) b = _
          unfold f_X6_burn
          rw [wn, wb_0 2 (by omega) (by decide), if_neg c3, if_neg n2]; rfl
    · refine OK_ref (k := 6) (by omega) hJ ?_ (fun M1 e16 _ => ?_)
      · unfold f_X5_burn
        rw [if_pos c1, if_neg c2]; rfl
      · show f_X6_burn M1 a b = _
        unfold f_X6_burn
        rw [show f_X6_wrongNumber a 1 30 = -6 from by unfold f_X6_wrongNumber; rw [if_pos c1, if_neg c2], wb_no (by decide), if_neg n6]; rfl
  · refine OK_ref (k := 4) (by omega) hJ ?_ (fun M1 e16 _ => ?_)
    · unfold f_X5_burn
      rw [if_neg c1]; rfl
    · show f_X6_burn M1 a b = _
      unfold f_X6_burn
      rw [hw1 a c1, wb_no (by decide), if_neg n4]; rfl
end Asks

/-! lots -/
def nx (z : Int32) : Int32 := z * 1103515245 + 12345
def drw (z : Int32) : Nat := z.toBitVec.toNat % 2 ^ 31 / 65536 % 49
theorem p_nx (z : Int32) : f_X5_nextSeed z = nx z := (rfl)
theorem drw_lt (z : Int32) : drw z < 49 := Nat.mod_lt _ (by omega)
theorem drw_eq (z : Int32) : (z &&& 2147483647) / 65536 - (z &&& 2147483647) / 65536 / 49 * 49 = nI (drw z) := by
  have h1 : z.toBitVec.toNat % 2 ^ 31 < 2 ^ 31 := Nat.mod_lt _ (by decide)
  have h2 : z.toBitVec.toNat % 2 ^ 31 / 65536 ≤ z.toBitVec.toNat % 2 ^ 31 := Nat.div_le_self _ _
  rw [pk_and z (m := 2147483647) 31 (by decide), show (65536 : Int32) = nI 65536 from rfl, pk_div (by omega) (by omega) (by omega), show (49 : Int32) = nI 49 from rfl, pk_rem (by omega) (by omega) (by omega)]
  rfl
theorem p_drawn (z : Int32) : f_X5_drawnCell z = nI (drw z) := drw_eq z
/-- the seed behind the draws of i walkers -/
def sd (z : Int32) : Nat → Int32
  | 0 => z
  | i + 1 => nx (nx (sd z i))
theorem sd_succ (z : Int32) (i : Nat) : sd z (i + 1) = nx (nx (sd z i)) := (rfl)
/-- the village of a year -/
def yv (σ : vl) (z : Int32) : vl := fun F i => if F = 6 then (if i < vW σ then drw (nx (sd z i)) else σ 6 i) else if F = 7 then (if i < vW σ then drw (nx (nx (sd z i))) else σ 7 i) else σ F i
section Lots
variable {σ τ : vl}
theorem yv_lo {z : Int32} {F i : Nat} (h6 : F ≠ 6) (h7 : F ≠ 7) : yv σ z F i = σ F i := by unfold yv; rw [if_neg h6, if_neg h7]
theorem yv_6 {z : Int32} {i : Nat} (hi : i < vW σ) : yv σ z 6 i = drw (nx (sd z i)) := by show (if (6 : Nat) = 6 then _ else _) = _; rw [if_pos rfl, if_pos hi]
theorem yv_7 {z : Int32} {i : Nat} (hi : i < vW σ) : yv σ z 7 i = drw (nx (nx (sd z i))) := by show (if (7 : Nat) = 6 then _ else if (7 : Nat) = 7 then _ else _) = _; rw [if_neg (by omega), if_pos rfl, if_pos hi]
theorem yv_W {z : Int32} : vW (yv σ z) = vW σ := yv_lo (by omega) (by omega)
theorem yv_H {z : Int32} : vH (yv σ z) = vH σ := yv_lo (by omega) (by omega)
theorem wf_yv {z : Int32} (hf : wf σ) : wf (yv σ z) := by
  obtain ⟨f1, ⟨b1, b2, b3, b4, b5⟩, f3, f4⟩ := hf
  refine ⟨by rw [yv_H]; exact f1, ⟨by rw [yv_H]; exact b1, by rw [yv_W]; exact b2, fun h hh => ?_, fun w hw => ?_, fun w h => ?_⟩, fun w h q => ?_, ?_⟩
  · rw [yv_H] at hh
    rw [yv_lo (by omega) (by omega), yv_lo (by omega) (by omega), yv_lo (by omega) (by omega), yv_lo (by omega) (by omega)]
    exact b3 h hh
  · rw [yv_W] at hw
    rw [yv_6 hw, yv_7 hw, yv_lo (F := 8) (by omega) (by omega)]
    exact ⟨drw_lt _, drw_lt _, (b4 w hw).2.2⟩
  · rw [yv_lo (by omega) (by omega)]; exact b5 w h
  · rw [yv_W, yv_H] at q
    rw [yv_lo (by omega) (by omega)]; exact f3 w h q
  · rw [yv_lo (by omega) (by omega)]; exact f4
/-- what a year counts -/
def yc (σ : vl) (v : Int32) (z : Int32) : Nat := if v = 0 then debts (yv σ z) 12 else prices (yv σ z) 12
def yf (σ : vl) (v : Int32) (_ : Nat) (a : Int32 × Int32) : Int32 × Int32 := (a.1 + nI (yc σ v a.2), sd a.2 (vW σ))
end Lots
section Asks
variable {M : jm} {S : St} {σ : vl}
theorem two_0 {D : jm} {ρ : vl} {w a b : Nat} {x y : Int32} (h : D 2 0 0 = nI (vH ρ)) : ju (ju D 2 6 w x) 2 7 w y 2 0 0 = nI (vH (aimW (vu ρ 6 w a) w b)) := by
  rw [ju_f (by omega), ju_f (by omega)]
  unfold aimW vH
  rw [vu_ne (by omega), vu_ne (by omega)]
  exact h
theorem two_10 {D : jm} {ρ : vl} {w a b : Nat} {x y : Int32} (h : D 2 10 0 = nI (ρ 10 0)) : ju (ju D 2 6 w x) 2 7 w y 2 10 0 = nI (aimW (vu ρ 6 w a) w b 10 0) := by
  rw [ju_f (by omega), ju_f (by omega)]
  unfold aimW
  rw [vu_ne (by omega), vu_ne (by omega)]
  exact h
theorem x_lots (hJ : JJ M S) {n : Nat} (hn : n ≤ 20) (z v : Int32) : ∃ A, f_X5_lots_j41 M (nI n) z v = some ((ff (yf (sv S) v) n 0 (nI 0, z)).1, A) ∧ frC M A := by
  obtain ⟨h0, h5, hB⟩ := J_C hJ; have hf := J_f hJ; have hH := hf.1; have hW := hf.2.1.2.1
  obtain ⟨A, a1, a2, a3⟩ := p_becomeRW (M := M) (o := 2) (o1 := 1) (σ := sv S) (by omega) hJ.1.1
  unfold f_X5_lots_j41
  rw [a1, q_jb]
  refine loopE (L := fun k (a : jm × Int32 × Int32) i => f_X5_lots_l61 (nI n) v k a.1 a.2.1 a.2.2 i) (P := fun i a => (∀ o, o ≠ 2 → a.1 o = M o) ∧ (∃ τ, RW (a.1 2) τ ∧ ∀ F i, F ≠ 6 → F ≠ 7 → τ F i = (sv S) F i) ∧ a.2 = ff (yf (sv S) v) i 0 (nI 0, z)) (Z := fun r => ∃ A, r = some ((ff (yf (sv S) v) n 0 (nI 0, z)).1, A) ∧ frC M A) (n := n) ?_ ?_ n 0 10000 (A, 0, z) (by omega) (by omega) ⟨fun o ho => a2 o ho, ⟨sv S, a3, fun _ _ _ _ => rfl⟩, rfl⟩
  · rintro k ⟨C, u⟩ i hi ⟨p1, ⟨τ, p2, p3⟩, p4⟩
    simp only at p1 p2 p4
    obtain ⟨s, y⟩ := u
    simp only [f_X5_lots_l61]
    rw [if_neg (by rw [q_le (by omega) (by omega)]; omega)]
    have tW : vW τ = vW (sv S) := p3 5 0 (by omega) (by omega)
    have tH : vH τ = vH (sv S) := p3 0 0 (by omega) (by omega)
    refine loopE (L := fun k2 (a : jm × Int32) w => f_X5_lots_l70 (f_X5_lots_l61 (nI n) v k) (nI n) v s (nI i) k2 a.1 a.2 w) (P := fun w0 a => (∀ o, o ≠ 2 → a.1 o = M o) ∧ (∃ τ, RW (a.1 2) τ ∧ (∀ F i, F ≠ 6 → F ≠ 7 → τ F i = (sv S) F i) ∧ ∀ w, w < w0 → τ 6 w = yv (sv S) y 6 w ∧ τ 7 w = yv (sv S) y 7 w) ∧ a.2 = sd y w0) (Z := fun r => ∃ a' : jm × Int32 × Int32, r = f_X5_lots_l61 (nI n) v k a'.1 a'.2.1 a'.2.2 (nI (i + 1)) ∧ (∀ o, o ≠ 2 → a'.1 o = M o) ∧ (∃ τ, RW (a'.1 2) τ ∧ ∀ F i, F ≠ 6 → F ≠ 7 → τ F i = (sv S) F i) ∧ a'.2 = ff (yf (sv S) v) (i + 1) 0 (nI 0, z)) (n := vW (sv S)) ?_ ?_ (vW (sv S)) 0 10000 (C, y) (by omega) (by omega) ⟨p1, ⟨τ, p2, p3, fun w hw => by omega⟩, rfl⟩
    · rintro k2 ⟨D, x⟩ w hw ⟨q1, ⟨ρ, q2, q3, q4⟩, q5⟩
      simp only at q1 q2 q5
      obtain ⟨c6, h6⟩ : ∃ c, c = drw (nx (sd y w)) := ⟨_, rfl⟩
      obtain ⟨c7, h7⟩ : ∃ c, c = drw (nx (nx (sd y w))) := ⟨_, rfl⟩
      have rR : RW (ju (ju D 2 6 w (nI c6)) 2 7 w (nI c7) 2) (aimW (vu ρ 6 w c6) w c7) := by
        refine ⟨two_0 q2.1, two_10 q2.2.1, ?_⟩
        have e : vH (aimW (vu ρ 6 w c6) w c7) = vH ρ := by unfold aimW vH; rw [vu_ne (by omega), vu_ne (by omega)]
        rw [e]; exact RB_goal (RB_at q2.2.2)
      have rO : ∀ o, o ≠ 2 → ju (ju D 2 6 w (nI c6)) 2 7 w (nI c7) o = M o := fun o ho => by rw [ju_ne ho, ju_ne ho, q1 o ho]
      refine ⟨(ju (ju D 2 6 w (nI c6)) 2 7 w (nI c7), sd y (w + 1)), ?_, rO, ⟨aimW (vu ρ 6 w c6) w c7, rR, fun F j h6 h7 => ?_, fun j hj => ?_⟩, rfl⟩
      · simp only [f_X5_lots_l70]
        rw [if_neg (by rw [show D 2 5 0 = nI (vW (sv S)) by rw [q2.2.2.1, show vW ρ = vW (sv S) from q3 5 0 (by omega) (by omega)], q_le (by omega) (by omega)]; omega), q_gd (by omega) (by omega), q_gd (by omega) (by omega), q_cl (by omega), show nI w + 1 = nI (w + 1) from nI_add w 1, q5, p_nx, p_nx, p_drawn, p_drawn, ← h6, ← h7, sd_succ]
      · show vu (vu ρ 6 w _) 7 w _ F j = _
        rw [vu_ne (by omega), vu_ne (by omega)]; exact q3 F j h6 h7
      · show vu (vu ρ 6 w _) 7 w _ 6 j = _ ∧ vu (vu ρ 6 w _) 7 w _ 7 j = _
        by_cases c : j = w
        · subst c
          rw [vu_ne (by omega), vu_same, vu_same, yv_6 hw, yv_7 hw, h6, h7]; exact ⟨rfl, rfl⟩
        · rw [vu_ne (by omega), vu_ne (by omega), vu_ne (by omega), vu_ne (by omega)]; exact q4 j (by omega)
    · rintro k2 ⟨D, x⟩ ⟨q1, ⟨ρ, q2, q3, q4⟩, q5⟩
      simp only at q1 q2 q5
      have eW : vW ρ = vW (sv S) := q3 5 0 (by omega) (by omega)
      have eH : vH ρ = vH (sv S) := q3 0 0 (by omega) (by omega)
      have hy := wf_yv (z := y) hf
      have e0 : D 2 0 0 = nI (vH (yv (sv S) y)) := by rw [yv_H, q2.1, eH]
      have eB : RB (D 2) (yv (sv S) y) (vH (yv (sv S) y)) := by
        rw [yv_H]
        have := q2.2.2
        rw [eH] at this
        refine RB_ext (by rw [yv_W, eW]) (fun j _ => ?_) (fun w hw => ?_) (fun w _ j _ => ?_) this
        · rw [yv_lo (by omega) (by omega), yv_lo (by omega) (by omega), yv_lo (by omega) (by omega), yv_lo (by omega) (by omega), q3 1 j (by omega) (by omega), q3 2 j (by omega) (by omega), q3 3 j (by omega) (by omega), q3 4 j (by omega) (by omega)]; exact ⟨rfl, rfl, rfl, rfl⟩
        · rw [eW] at hw
          obtain ⟨g1, g2⟩ := q4 w hw
          rw [g1, g2, yv_lo (F := 8) (by omega) (by omega), q3 8 w (by omega) (by omega)]; exact ⟨rfl, rfl, rfl⟩
        · rw [yv_lo (by omega) (by omega), q3 (20 + w) j (by omega) (by omega)]
      refine ⟨(D, s + nI (yc (sv S) v y), sd y (vW (sv S))), ?_, q1, ⟨ρ, q2, q3⟩, ?_⟩
      · simp only [f_X5_lots_l70]
        rw [if_pos (by rw [show D 2 5 0 = nI (vW (sv S)) by rw [q2.2.2.1, eW], q_le (by omega) (by omega)]; omega), q5, show (12 : Int32) = nI 12 from rfl, p_debtsBehind e0 eB hy.2.1 (by omega), p_pricesBehind e0 eB hy.2.1 (by omega), q_jb, q_jb, show nI i + 1 = nI (i + 1) from nI_add i 1]
        unfold yc
        by_cases c : v = 0
        · rw [if_pos c, if_pos c]
        · rw [if_neg c, if_neg c]
      · show (s + nI (yc (sv S) v y), sd y (vW (sv S))) = _
        rw [ff_succ, ← p4, yf]
  · rintro k ⟨C, u⟩ ⟨p1, p2, p3⟩
    simp only at p1 p2 p3
    refine ⟨C, ?_, fun o h1 _ _ => p1 o h1⟩
    simp only [f_X5_lots_l61]
    rw [if_pos (by rw [q_le (by omega) (by omega)]; omega), p3]
theorem m_draw {A : jm} : f_X6_drawBelow A 49 = some (nI (drw (nx (A 16 38 0))), ju A 16 38 0 (nx (A 16 38 0))) := by
  unfold f_X6_drawBelow
  rw [show (49 : Int32) = nI 49 from rfl, q_gz (by omega) (by omega), ju_self]
  show some ((nx (A 16 38 0) &&& 2147483647) / 65536 - (nx (A 16 38 0) &&& 2147483647) / 65536 / 49 * 49, _) = _
  rw [drw_eq]; rfl
theorem mq_lots (hR : RM (M 16) σ) (hf : wf σ) {n : Nat} (hn : n ≤ 20) (v : Int32) {z : Int32} (hz : M 16 38 0 = z) : ∃ M2, jb (f_X6_think M) (fun M_3 => f_X6_lots_l46 (nI n) v 10000 M_3 0 0) = some ((ff (yf σ v) n 0 (nI 0, z)).1, M2) ∧ RM (M2 16) σ ∧ frK M M2 := by
  have hH := hf.1; have hW := hf.2.1.2.1
  have hg := wg_of hf
  obtain ⟨B, b1, b2, b3, b4⟩ := m_think hR
  rw [b1, q_jb]
  refine loopE (L := fun k (a : jm × Int32) i => f_X6_lots_l46 (nI n) v k a.1 a.2 i) (P := fun i a => RM (a.1 16) σ ∧ KM (a.1 16 21) σ ∧ frK M a.1 ∧ (a.2, a.1 16 38 0) = ff (yf σ v) i 0 (nI 0, z)) (Z := fun r => ∃ M2, r = some ((ff (yf σ v) n 0 (nI 0, z)).1, M2) ∧ RM (M2 16) σ ∧ frK M M2) (n := n) ?_ ?_ n 0 10000 (B, 0) (by omega) (by omega) ⟨b2, b3, frK_of b4, by show ((0 : Int32), B 16 38 0) = (nI 0, z); rw [b4.2 38 (by omega) (by omega) (by omega) (by omega) (by omega), hz]; rfl⟩
  · rintro k ⟨C, s⟩ i hi ⟨p1, p2, p3, p4⟩
    simp only at p1 p2 p3 p4
    obtain ⟨y, hy⟩ : ∃ y, y = C 16 38 0 := ⟨_, rfl⟩
    simp only [f_X6_lots_l46]
    rw [if_neg (by rw [q_le (by omega) (by omega)]; omega)]
    refine loopE (L := fun k2 (a : jm) w => f_X6_lots_l55 (f_X6_lots_l46 (nI n) v k) (nI n) v s (nI i) k2 a w) (P := fun w0 a => (∃ τ, RM (a 16) τ ∧ (∀ F i, F ≠ 6 → F ≠ 7 → τ F i = σ F i) ∧ ∀ w, w < w0 → τ 6 w = yv σ y 6 w ∧ τ 7 w = yv σ y 7 w) ∧ KM (a 16 21) σ ∧ frK M a ∧ a 16 38 0 = sd y w0) (Z := fun r => ∃ a' : jm × Int32, r = f_X6_lots_l46 (nI n) v k a'.1 a'.2 (nI (i + 1)) ∧ RM (a'.1 16) σ ∧ KM (a'.1 16 21) σ ∧ frK M a'.1 ∧ (a'.2, a'.1 16 38 0) = ff (yf σ v) (i + 1) 0 (nI 0, z)) (n := vW σ) ?_ ?_ (vW σ) 0 10000 C (by omega) (by omega) ⟨⟨σ, p1, fun _ _ _ _ => rfl, fun w hw => by omega⟩, p2, p3, hy.symm⟩
    · rintro k2 D w hw ⟨⟨ρ, q2, q3, q4⟩, q5, q6, q7⟩
      have eW : D 16 5 0 = nI (vW σ) := by rw [q2.2.1, show vW ρ = vW σ from q3 5 0 (by omega) (by omega)]
      have fe : ∀ (A : jm) (x : Int32), ∀ f, f ≤ 10 → ju A 16 38 0 x 16 f = A 16 f := fun A x f hf => ju_f (by omega)
      have r1 : RM (ju D 16 38 0 (nx (D 16 38 0)) 16) ρ := RM_fe (fe _ _) q2
      have r2 := RM_at r1 (w := w) (c := drw (nx (D 16 38 0)))
      obtain ⟨E, hE⟩ : ∃ E, E = ju (ju D 16 38 0 (nx (D 16 38 0))) 16 6 w (nI (drw (nx (D 16 38 0)))) := ⟨_, rfl⟩
      rw [← hE] at r2
      have e38 : E 16 38 0 = nx (D 16 38 0) := by rw [hE, ju_g (by omega), ju_self]
      have r3 : RM (ju E 16 38 0 (nx (E 16 38 0)) 16) (vu ρ 6 w (drw (nx (D 16 38 0)))) := RM_fe (fe _ _) r2
      have r4 := RM_goal r3 (w := w) (c := drw (nx (E 16 38 0)))
      have kE : frK D E := by rw [hE]; exact frK_trans (frK_ju (by unfold kp; omega)) (frK_ju (by unfold kp; omega))
      refine ⟨ju (ju E 16 38 0 (nx (E 16 38 0))) 16 7 w (nI (drw (nx (E 16 38 0)))), ?_, ⟨_, r4, fun F j h6 h7 => ?_, fun j hj => ?_⟩, ?_, frK_trans q6 (frK_trans kE (frK_trans (frK_ju (by unfold kp; omega)) (frK_ju (by unfold kp; omega)))), ?_⟩
      · simp only [f_X6_lots_l55]
        rw [if_neg (by rw [eW, q_le (by omega) (by omega)]; omega), m_draw, q_jb2, q_gd (by omega) (by omega), q_cl (by omega), ← hE, m_draw, q_jb2, q_gd (by omega) (by omega), show nI w + 1 = nI (w + 1) from nI_add w 1]
      · show vu (vu ρ 6 w _) 7 w _ F j = _
        rw [vu_ne (by omega), vu_ne (by omega)]; exact q3 F j h6 h7
      · show vu (vu ρ 6 w _) 7 w _ 6 j = _ ∧ vu (vu ρ 6 w _) 7 w _ 7 j = _
        by_cases c : j = w
        · subst c
          rw [vu_ne (by omega), vu_same, vu_same, yv_6 hw, yv_7 hw, e38, q7]; exact ⟨rfl, rfl⟩
        · rw [vu_ne (by omega), vu_ne (by omega), vu_ne (by omega), vu_ne (by omega)]; exact q4 j (by omega)
      · rw [ju_f (by omega), ju_f (by omega), hE, ju_f (by omega), ju_f (by omega)]; exact q5
      · rw [ju_g (by omega), ju_self, e38, q7, sd_succ]
    · rintro k2 D ⟨⟨ρ, q2, q3, q4⟩, q5, q6, q7⟩
      have eW : vW ρ = vW σ := q3 5 0 (by omega) (by omega)
      have eH : vH ρ = vH σ := q3 0 0 (by omega) (by omega)
      have hy2 := wf_yv (z := y) hf
      have hgy := wg_of hy2
      have rD : RM (D 16) (yv σ y) := by
        refine RM_ext q2 ?_ ?_ ?_ (fun j _ => ?_) (fun w hw => ?_) (fun w _ j _ => ?_)
        · rw [yv_lo (by omega) (by omega), q3 0 0 (by omega) (by omega)]
        · rw [yv_lo (by omega) (by omega), q3 5 0 (by omega) (by omega)]
        · rw [yv_lo (by omega) (by omega), q3 10 0 (by omega) (by omega)]
        · rw [yv_lo (by omega) (by omega), yv_lo (by omega) (by omega), yv_lo (by omega) (by omega), yv_lo (by omega) (by omega), q3 1 j (by omega) (by omega), q3 2 j (by omega) (by omega), q3 3 j (by omega) (by omega), q3 4 j (by omega) (by omega)]; exact ⟨rfl, rfl, rfl, rfl⟩
        · rw [eW] at hw
          obtain ⟨g1, g2⟩ := q4 w hw
          rw [g1, g2, yv_lo (F := 8) (by omega) (by omega), q3 8 w (by omega) (by omega)]; exact ⟨rfl, rfl, rfl⟩
        · rw [yv_lo (by omega) (by omega), q3 (20 + w) j (by omega) (by omega)]
      obtain ⟨E, e1, e2, e3⟩ := m_goEvenings (n := 12) rD hgy (by omega)
      have kE : KM (E 16 21) σ := by rw [fr3_at e3 (by omega)]; exact q5
      obtain ⟨F, f1, f2, f3⟩ := m_again kE hg
      have hd := m_allDebts e2 (wg_ev hgy)
      have hp := m_allPrices e2 (wg_ev hgy)
      rw [debts_ev] at hd
      rw [prices_ev] at hp
      have s38 : F 16 38 0 = sd y (vW σ) := by rw [f3.2 38 (by omega) (by omega) (by omega) (by omega), fr3_at e3 (by omega), q7]
      refine ⟨(F, s + nI (yc σ v y)), ?_, f2, by show KM (F 16 21) σ; rw [frA_21 f3]; exact kE, frK_trans q6 (frK_trans (frK_of (frT_of (frA_of e3))) (frK_of (frT_of f3))), ?_⟩
      · simp only [f_X6_lots_l55, f_X6_lots_j119]
        rw [if_pos (by rw [show D 16 5 0 = nI (vW σ) by rw [q2.2.1, eW], q_le (by omega) (by omega)]; omega), show (12 : Int32) = nI 12 from rfl, e1, q_jb, hd, hp, q_jb, q_jb, f1, q_jb, q_jb, show nI i + 1 = nI (i + 1) from nI_add i 1]
        unfold yc
        by_cases c : v = 0
        · rw [if_pos c, if_pos c]
        · rw [if_neg c, if_neg c]
      · show (s + nI (yc σ v y), F 16 38 0) = _
        rw [ff_succ, ← p4, s38, ← hy, yf]
  · rintro k ⟨C, s⟩ ⟨p1, p2, p3, p4⟩
    simp only at p1 p2 p3 p4
    refine ⟨C, ?_, p1, p3⟩
    simp only [f_X6_lots_l46]
    rw [if_pos (by rw [q_le (by omega) (by omega)]; omega), ← p4]
theorem one_up (v : Int32) (c1 : (1 : Int32) ≤ v) : ∃ j, j < 2 ^ 31 ∧ v = nI j := by
  obtain ⟨j, hj, rfl⟩ := nI_of (x := v) (fun z => by
    rw [Int32.lt_iff_toInt_lt] at z
    rw [Int32.le_iff_toInt_le] at c1
    have e0 : (0 : Int32).toInt = 0 := rfl
    have e1 : (1 : Int32).toInt = 1 := rfl
    omega)
  exact ⟨j, hj, rfl⟩
theorem ok_lots (hJ : JJ M S) (a z b : Int32) : OK (f_X5_lots M a z b) (fun M1 => f_X6_lots M1 a z b) := by
  obtain ⟨h0, h5, hB⟩ := J_C hJ; have hf := J_f hJ; have hH := hf.1; have hW := hf.2.1.2.1
  by_cases c1 : (1 : Int32) ≤ a
  · by_cases c2 : a ≤ 20
    · obtain ⟨n, hj, rfl⟩ := one_up a c1
      have hn : n ≤ 20 := by rw [show (20 : Int32) = nI 20 from rfl, q_le hj (by omega)] at c2; exact c2
      have wn : f_X6_wrongNumber (nI n) 1 20 = 0 := by unfold f_X6_wrongNumber; rw [if_pos c1, if_pos c2]
      by_cases c3 : okv 2 b = true
      · obtain ⟨A, x1, x2⟩ := x_lots hJ hn z b
        refine OK_q hJ (M1 := A) (r := (ff (yf (sv S) b) n 0 (nI 0, z)).1) ?_ x2 (fun hR hg => ?_)
        · unfold f_X5_lots
          rw [if_pos c1, if_pos c2, x1]
          have hb : b = nI 0 ∨ b = nI 1 := by
            obtain ⟨j, hj, rfl⟩ := okv_ex (by omega) c3
            rcases (show j = 0 ∨ j = 1 by omega) with rfl | rfl
            · exact Or.inl rfl
            · exact Or.inr rfl
          rcases hb with rfl | rfl <;> rfl
        · obtain ⟨C, g1, g2, g3⟩ := mq_lots (M := ju (ju A 16 11 0 0) 16 38 0 z) (RM_fe (fun f hf => ju_f (by omega)) (RM_ct hR)) hf hn b ju_self
          refine ⟨C, ?_, g2, frK_trans (frK_ct A) (frK_trans (frK_ju (by unfold kp; omega)) g3)⟩
          show f_X6_lots A (nI n) z b = _
          unfold f_X6_lots
          rw [wn, wb_0 2 (by omega) (by decide), if_pos c3, if_pos n0]
          exact g1
      · have nn : ∀ j, j < 2 → ¬ b = nI j := fun j hj => okv_ne (by omega) c3 hj
        refine OK_ref (k := 2) (by omega) hJ ?_ (fun M1 e16 _ => ?_)
        · unfold f_X5_lots
          rw [if_pos c1, if_pos c2, if_neg (show ¬ b = (0 : Int32) from nn 0 (by omega)), if_neg (show ¬ b = (1 : Int32) from nn 1 (by omega))]; rfl
        · show f_X6_lots M1 (nI n) z b = _
          unfold f_X6_lots
          rw [wn, wb_0 2 (by omega) (by decide), if_neg c3, if_neg n2]; rfl
    · refine OK_ref (k := 6) (by omega) hJ ?_ (fun M1 e16 _ => ?_)
      · unfold f_X5_lots
        rw [if_pos c1, if_neg c2]; rfl
      · show f_X6_lots M1 a z b = _
        unfold f_X6_lots
        rw [show f_X6_wrongNumber a 1 20 = -6 from by unfold f_X6_wrongNumber; rw [if_pos c1, if_neg c2], wb_no (by decide), if_neg n6]; rfl
  · refine OK_ref (k := 4) (by omega) hJ ?_ (fun M1 e16 _ => ?_)
    · unfold f_X5_lots
      rw [if_neg c1]; rfl
    · show f_X6_lots M1 a z b = _
      unfold f_X6_lots
      rw [show f_X6_wrongNumber a 1 20 = -4 from by unfold f_X6_wrongNumber; rw [if_neg c1], wb_no (by decide), if_neg n4]; rfl
end Asks

/-! two -/
def litH (σ : vl) (h : Nat) : vl := vu σ 4 h 1
theorem vu_vu {σ : vl} {F i a b : Nat} : vu (vu σ F i a) F i b = vu σ F i b := by
  funext F' i'
  unfold vu
  split <;> rfl
theorem turn_lit (σ : vl) (h : Nat) : turnH (litH σ h) h = darkH σ h := by
  unfold turnH litH darkH
  rw [vu_same, vu_vu]
theorem vu4_W {σ : vl} {i a : Nat} : vW (vu σ 4 i a) = vW σ := by unfold vW; rw [vu_ne (by omega)]
theorem vu4_H {σ : vl} {i a : Nat} : vH (vu σ 4 i a) = vH σ := by unfold vH; rw [vu_ne (by omega)]
section Two
variable {σ : vl}
def gl (σ : vl) (h n : Nat) : Nat := cn (fun w => owe (litH σ h) n w h) (vW σ)
def gk (σ : vl) (h n : Nat) : Nat := cn (fun w => owe (darkH σ h) n w h) (vW σ)
def sh (σ : vl) (h n : Nat) : Nat := if gk σ h n < gl σ h n then 0 else 1
theorem wf_vu4 {h x : Nat} (hf : wf σ) (hx : x ≤ 1) : wf (vu σ 4 h x) := by
  obtain ⟨f1, ⟨b1, b2, b3, b4, b5⟩, f3, f4⟩ := hf
  have e : ∀ F i, F ≠ 4 → vu σ 4 h x F i = σ F i := fun F i q => vu_ne (by omega)
  have eH : vH (vu σ 4 h x) = vH σ := e 0 0 (by omega)
  have eW : vW (vu σ 4 h x) = vW σ := e 5 0 (by omega)
  refine ⟨by rw [eH]; exact f1, ⟨by rw [eH]; exact b1, by rw [eW]; exact b2, fun j hj => ?_, fun w hw => ?_, fun w j => ?_⟩, fun w j q => ?_, ?_⟩
  · rw [eH] at hj
    obtain ⟨c1, c2, c3, c4⟩ := b3 j hj
    rw [e 1 j (by omega), e 2 j (by omega), e 3 j (by omega)]
    refine ⟨c1, c2, c3, ?_⟩
    by_cases q : j = h
    · subst q; rw [vu_same]; exact hx
    · rw [vu_ne (by omega)]; exact c4
  · rw [eW] at hw
    rw [e 6 w (by omega), e 7 w (by omega), e 8 w (by omega)]; exact b4 w hw
  · rw [e (20 + w) j (by omega)]; exact b5 w j
  · rw [eW, eH] at q
    rw [e (20 + w) j (by omega)]; exact f3 w j q
  · rw [e 10 0 (by omega)]; exact f4
theorem owe_congr4 {τ ρ : vl} {w h n : Nat} (h1 : ∀ F i, F ≠ 4 → τ F i = ρ F i) (h4 : τ 4 h = ρ 4 h) : owe τ n w h = owe ρ n w h := by
  unfold owe
  rw [dk_congr (h1 1 h (by omega)) (h1 2 h (by omega)) (h1 3 h (by omega)) h4 (h1 6 w (by omega)) (h1 7 w (by omega)) (h1 8 w (by omega)) (h1 (20 + w) h (by omega))]
end Two
section Asks
variable {M : jm} {S : St} {σ : vl}
theorem x_shutter {A : jm} (hR : RW (A 1) σ) (hf : wf σ) {h n : Nat} (hh : h < vH σ) (hn : n ≤ 60) : ∃ B, f_X5_bestShutter A (nI h) (nI n) = some (nI (sh σ h n), B) ∧ ∀ o, o ≠ 2 → B o = A o := by
  have hH := hf.1; have hW := hf.2.1.2.1
  obtain ⟨B, b1, b2, b3⟩ := p_becomeRW (M := A) (o := 2) (o1 := 1) (σ := σ) (by omega) hR
  have hfL : wf (litH σ h) := wf_vu4 hf (Nat.le_refl 1)
  have hfD : wf (darkH σ h) := wf_vu4 hf (Nat.zero_le 1)
  have eW : vW (litH σ h) = vW σ := vu4_W
  have eH : vH (litH σ h) = vH σ := vu4_H
  have dW : vW (darkH σ h) = vW σ := vu4_W
  have dH : vH (darkH σ h) = vH σ := vu4_H
  have rL : RW (ju B 2 4 0 (B 2 4 0 ||| bi h) 2) (litH σ h) := by
    refine ⟨by rw [ju_f (by omega), eH]; exact b3.1, by rw [ju_f (by omega), show litH σ h 10 0 = σ 10 0 by unfold litH; rw [vu_ne (by omega)]]; exact b3.2.1, ?_⟩
    rw [eH]
    refine RB_lit b3.2.2 (fun F i q => by unfold litH; rw [vu_ne (by omega)]) (fun j hj => ?_)
    rw [q_or _ (by omega) (by omega), (b3.2.2.2.1 j hj).2.2.2]
    by_cases q : j = h
    · subst q; rw [show litH σ j 4 j = 1 by unfold litH; rw [vu_same]]; simp
    · rw [show litH σ h 4 j = σ 4 j by unfold litH; rw [vu_ne (by omega)]]; simp [q]
  obtain ⟨C, c1, c2, c3⟩ := p_turn rL hfL (h := h) (by omega)
  rw [eH, if_pos hh, turn_lit] at c3
  rw [eH, if_pos hh] at c1
  have o1 := p_owersBehind (h := h) (n := n) rL.2.2 hfL.2.1 (by rw [eH]; exact hh) (by omega)
  have o2 := p_owersBehind (h := h) (n := n) c3.2.2 hfD.2.1 (by rw [dH]; exact hh) (by omega)
  rw [eW] at o1
  rw [dW] at o2
  refine ⟨C, ?_, fun o ho => by rw [c2 o ho, ju_ne ho, b2 o ho]⟩
  unfold f_X5_bestShutter
  rw [b1, q_jb]
  show jb (f_X4_owersBehind (ju B 2 4 0 (B 2 4 0 ||| bi h)) 2 (nI h) (nI n)) _ = _
  rw [o1, q_jb]
  show jb2 (f_X4_turn (ju B 2 4 0 (B 2 4 0 ||| bi h)) 2 (nI h)) _ = _
  rw [c1, q_jb2, o2, q_jb, p_bitCount (by omega), p_bitCount (by omega)]
  have g1 : gl σ h n ≤ 6 := Nat.le_trans (cn_le _ _) hW
  have g2 : gk σ h n ≤ 6 := Nat.le_trans (cn_le _ _) hW
  show (if nI (gk σ h n) ≤ nI (gl σ h n) - nI 1 then _ else _) = _
  have e : nI (gk σ h n) ≤ nI (gl σ h n) - nI 1 ↔ gk σ h n < gl σ h n := by
    rw [Int32.le_iff_toInt_le, nI_toInt (by omega), pk_sub_toInt (by omega) (by omega)]; omega
  unfold sh
  by_cases z : gk σ h n < gl σ h n
  · rw [if_pos (e.mpr z), if_pos z]; rfl
  · rw [if_neg (fun q => z (e.mp q)), if_neg z]; rfl
def gA (σ : vl) (h n a : Nat) : Int32 := if a = 0 then nI (gl σ h n) - nI 1 else nI (gk σ h n)
theorem gA_lt {h n : Nat} (hW : vW σ ≤ 6) : (gA σ h n 0 < gA σ h n 1 ↔ ¬ gk σ h n < gl σ h n) ∧ (gA σ h n 1 < gA σ h n 0 ↔ gk σ h n + 1 < gl σ h n) := by
  have g1 : gl σ h n ≤ 6 := Nat.le_trans (cn_le _ _) hW
  have g2 : gk σ h n ≤ 6 := Nat.le_trans (cn_le _ _) hW
  unfold gA
  rw [if_pos rfl, if_neg (by omega), Int32.lt_iff_toInt_lt, Int32.lt_iff_toInt_lt, nI_toInt (by omega), pk_sub_toInt (by omega) (by omega)]
  omega
theorem two_ix : ∀ k, k < 4 → (2 * nI k = nI (2 * k) ∧ (2 * ((2 * (1 - (nI k / 2))) + (nI k - nI k / 2 * 2))) = nI (2 * (2 * (1 - k / 2) + k % 2)) ∧ (2 * nI k) + 1 = nI (2 * k + 1) ∧ ((2 * (((2 * (nI k / 2)) + 1) - (nI k - nI k / 2 * 2))) + 1) = nI (2 * (2 * (k / 2) + (1 - k % 2)) + 1) ∧ ((10 * (nI k / 2)) + (nI k - nI k / 2 * 2)) = nI (10 * (k / 2) + k % 2) ∧ 1 - nI k / 2 = nI (1 - k / 2) ∧ 1 - (nI k - nI k / 2 * 2) = nI (1 - k % 2)) := by decide +kernel
theorem two_step {A : jm} {G H : Nat → Int32} (h1 : ∀ k, k < 4 → A 16 37 (2 * k) = G (k / 2) ∧ A 16 37 (2 * k + 1) = H (k % 2)) {k f : Nat} (hk : k < 4) : f_X6_two_l156 (f + 1) A (nI k) = if G (k / 2) < G (1 - k / 2) then f_X6_two_l156 f A (nI (k + 1)) else if H (k % 2) < H (1 - k % 2) then f_X6_two_l156 f A (nI (k + 1)) else some (nI (10 * (k / 2) + k % 2), A) := by
  obtain ⟨e1, e2, e3, e4, e5, -, -⟩ := two_ix k hk
  rw [f_X6_two_l156, if_neg (by rw [show (4 : Int32) = nI 4 from rfl, q_le (by omega) (by omega)]; omega), e3, e1, e2, e4, e5, q_gd (by omega) (by omega), q_gd (by omega) (by omega), q_gd (by omega) (by omega), q_gd (by omega) (by omega), q_cl (by omega), q_cl (by omega), q_cl (by omega), q_cl (by omega), (h1 k hk).1, (h1 k hk).2, (h1 (2 * (1 - k / 2) + k % 2) (by omega)).1, (h1 (2 * (k / 2) + (1 - k % 2)) (by omega)).2, show nI k + 1 = nI (k + 1) from nI_add k 1, show (2 * (1 - k / 2) + k % 2) / 2 = 1 - k / 2 by omega, show (2 * (k / 2) + (1 - k % 2)) % 2 = 1 - k % 2 by omega]
theorem mq_two (hR : RM (M 16) σ) (hf : wf σ) {h g n : Nat} (hh : h < vH σ) (hg : g < vH σ) (hne : h ≠ g) (hn : n ≤ 60) : ∃ M2, f_X6_two_j37 M (nI h) (nI g) (nI n) 0 = some (nI (10 * sh σ h n + sh σ g n), M2) ∧ RM (M2 16) σ ∧ frK M M2 := by
  have hH := hf.1; have hW := hf.2.1.2.1
  have hwg := wg_of hf
  obtain ⟨B, b1, b2, b3, b4⟩ := m_think hR
  unfold f_X6_two_j37
  rw [if_pos n0, b1, q_jb]
  refine loopE (L := fun k (a : jm) i => f_X6_two_l58 (nI h) (nI g) (nI n) k a i) (P := fun i a => RM (a 16) σ ∧ KM (a 16 21) σ ∧ frK M a ∧ ∀ k, k < i → a 16 37 (2 * k) = gA σ h n (k / 2) ∧ a 16 37 (2 * k + 1) = gA σ g n (k % 2)) (Z := fun r => ∃ M2, r = some (nI (10 * sh σ h n + sh σ g n), M2) ∧ RM (M2 16) σ ∧ frK M M2) (n := 4) ?_ ?_ 4 0 10000 B (by omega) (by omega) ⟨b2, b3, frK_of b4, fun k hk => by omega⟩
  · rintro kk A i hi ⟨p1, p2, p3, p4⟩
    obtain ⟨e1, -, e3, -, -, e6, e7⟩ := two_ix i hi
    obtain ⟨τ, hτ⟩ : ∃ τ, τ = vu (vu σ 4 h (1 - i / 2)) 4 g (1 - i % 2) := ⟨_, rfl⟩
    have hfτ : wf τ := by rw [hτ]; exact wf_vu4 (wf_vu4 hf (by omega)) (by omega)
    have t1 : ∀ F j, F ≠ 4 → τ F j = σ F j := fun F j q => by rw [hτ, vu_ne (by omega), vu_ne (by omega)]
    have tW : vW τ = vW σ := t1 5 0 (by omega)
    have tH : vH τ = vH σ := t1 0 0 (by omega)
    have t4h : τ 4 h = 1 - i / 2 := by rw [hτ, vu_ne (by omega), vu_same]
    have t4g : τ 4 g = 1 - i % 2 := by rw [hτ, vu_same]
    have rτ : RM (ju (ju A 16 4 h (nI (1 - i / 2))) 16 4 g (nI (1 - i % 2)) 16) τ := by rw [hτ]; exact RM_house (RM_house p1 (by omega)) (by omega)
    have fτ : frK M (ju (ju A 16 4 h (nI (1 - i / 2))) 16 4 g (nI (1 - i % 2))) := frK_trans p3 (frK_trans (frK_ju (by unfold kp; omega)) (frK_ju (by unfold kp; omega)))
    have kτ : KM (ju (ju A 16 4 h (nI (1 - i / 2))) 16 4 g (nI (1 - i % 2)) 16 21) σ := by rw [ju_f (by omega), ju_f (by omega)]; exact p2
    have z37 : ∀ j, ju (ju A 16 4 h (nI (1 - i / 2))) 16 4 g (nI (1 - i % 2)) 16 37 j = A 16 37 j := fun j => by rw [ju_g (by omega), ju_g (by omega)]
    generalize hE : ju (ju A 16 4 h (nI (1 - i / 2))) 16 4 g (nI (1 - i % 2)) = E at rτ fτ kτ z37
    obtain ⟨C, c1, c2, c3⟩ := m_goEvenings (n := n) rτ (wg_of hfτ) (by omega)
    have hgC := wg_ev (n := n) (wg_of hfτ)
    have cnt : ∀ x a, x < vH σ → a ≤ 1 → τ 4 x = 1 - a → ∀ D : jm, RM (D 16) (evN τ n) → jb (f_X6_owersOf D (nI x)) (fun r => f_X6_onesOf r) = some (gA σ x n a + nI (1 - a)) := by
      intro x a hx ha h4 D hD
      have eo := m_owersOf hD hgC (h := x) (by rw [evN_H, tH]; exact hx)
      rw [evN_W, tW] at eo
      rw [eo, q_jb, m_onesOf (by omega)]
      have ec : cn (fun w => owe (evN τ n) 0 w x) (vW σ) = cn (fun w => owe (vu σ 4 x (1 - a)) n w x) (vW σ) := cn_congr _ (fun w hw => by
        rw [owe_ev (by rw [tW]; exact hw) (by rw [tH]; exact hx)]
        exact owe_congr4 (fun F j q => by rw [t1 F j q, vu_ne (by omega)]) (by rw [h4, vu_same]))
      rw [ec]
      unfold gA gl gk litH darkH
      rcases (show a = 0 ∨ a = 1 by omega) with rfl | rfl
      · rw [if_pos rfl]
        show some (nI _) = some (nI _ - nI 1 + nI 1)
        rw [Int32.sub_add_cancel]
      · rw [if_neg (by omega)]
        show some (nI _) = some (nI _ + nI 0)
        rw [nI_add]; rfl
    have cnt2 : ∀ x a (r : Int32), x < vH σ → a ≤ 1 → τ 4 x = 1 - a → ∀ D : jm, RM (D 16) (evN τ n) → ∃ r1 r2, f_X6_owersOf D (nI x) = some r1 ∧ f_X6_onesOf r1 = some r2 ∧ r2 - nI (1 - a) = gA σ x n a := by
      intro x a _ hx ha h4 D hD
      have q := cnt x a hx ha h4 D hD
      cases q1 : f_X6_owersOf D (nI x) with
      | none => rw [q1] at q; cases q
      | some r1 =>
        rw [q1, q_jb] at q
        exact ⟨r1, _, rfl, q, by rw [Int32.add_sub_cancel]⟩
    obtain ⟨r1, r2, o1, o2, o3⟩ := cnt2 h (i / 2) 0 hh (by omega) t4h C c2
    have c2' : RM (ju C 16 37 (2 * i) (gA σ h n (i / 2)) 16) (evN τ n) := RM_fe (fun f hf => ju_f (by omega)) c2
    obtain ⟨s1, s2, u1, u2, u3⟩ := cnt2 g (i % 2) 0 hg (by omega) t4g (ju C 16 37 (2 * i) (gA σ h n (i / 2))) c2'
    have kD : KM (ju (ju C 16 37 (2 * i) (gA σ h n (i / 2))) 16 37 (2 * i + 1) (gA σ g n (i % 2)) 16 21) σ := by rw [ju_f (by omega), ju_f (by omega), fr3_at c3 (by omega)]; exact kτ
    obtain ⟨D, d1, d2, d3⟩ := m_again kD hwg
    refine ⟨D, ?_, d2, by rw [frA_21 d3]; exact kD, frK_trans fτ (frK_trans (frK_of (frT_of (frA_of c3))) (frK_trans (frK_trans (frK_ju (by unfold kp; omega)) (frK_ju (by unfold kp; omega))) (frK_of (frT_of d3)))), fun k hk => ?_⟩
    · simp only [f_X6_two_l58]
      rw [if_neg (by rw [show (4 : Int32) = nI 4 from rfl, q_le (by omega) (by omega)]; omega), q_gd (by omega) (by omega), q_gd (by omega) (by omega), q_cl (by omega), q_cl (by omega), e6, e7, hE, c1, q_jb, o1, q_jb, o2, q_jb, e3, e1, q_gd (by omega) (by omega), q_cl (by omega), o3, u1, q_jb, u2, q_jb, q_gd (by omega) (by omega), q_cl (by omega), u3, d1, q_jb, show nI i + 1 = nI (i + 1) from nI_add i 1]
    · have v : ∀ j, D 16 37 j = if j = 2 * i + 1 then gA σ g n (i % 2) else if j = 2 * i then gA σ h n (i / 2) else A 16 37 j := by
        intro j
        rw [d3.2 37 (by omega) (by omega) (by omega) (by omega), ju_o]
        by_cases q : j = 2 * i + 1
        · rw [if_pos ⟨rfl, q⟩, if_pos q]
        · rw [if_neg (fun y => q y.2), if_neg q, ju_o]
          by_cases q2 : j = 2 * i
          · rw [if_pos ⟨rfl, q2⟩, if_pos q2]
          · rw [if_neg (fun y => q2 y.2), if_neg q2, fr3_at c3 (by omega), z37]
      rw [v, v]
      by_cases q : k = i
      · subst q
        rw [if_neg (by omega), if_pos rfl, if_pos rfl]; exact ⟨rfl, rfl⟩
      · rw [if_neg (by omega), if_neg (by omega), if_neg (by omega), if_neg (by omega)]
        exact p4 k (by omega)
  · rintro kk A ⟨p1, p2, p3, p4⟩
    refine ⟨A, ?_, p1, p3⟩
    simp only [f_X6_two_l58]
    rw [if_pos (by decide)]
    have st := fun (k f : Nat) (hk : k < 4) => two_step (A := A) (G := gA σ h n) (H := gA σ g n) p4 (f := f) hk
    obtain ⟨a1, a2⟩ := gA_lt (σ := σ) (h := h) (n := n) hW
    obtain ⟨b1, b2⟩ := gA_lt (σ := σ) (h := g) (n := n) hW
    have s0 := st 0 9999 (by omega)
    have s1 := st 1 9998 (by omega)
    have s2 := st 2 9997 (by omega)
    have s3 := st 3 9996 (by omega)
    simp only [Nat.zero_div, Nat.zero_mod, Nat.reduceDiv, Nat.reduceMod, Nat.reduceAdd, Nat.reduceSub, Nat.reduceMul, Nat.sub_zero, Nat.sub_self] at s0 s1 s2 s3
    show f_X6_two_l156 10000 A (nI 0) = _
    rw [s0, s1, s2, s3]
    unfold sh
    by_cases x1 : gk σ h n < gl σ h n
    · have y1 : ¬ gA σ h n 0 < gA σ h n 1 := fun q => a1.mp q x1
      by_cases x2 : gk σ g n < gl σ g n
      · have y2 : ¬ gA σ g n 0 < gA σ g n 1 := fun q => b1.mp q x2
        simp only [x1, x2, y1, y2, if_true, if_false]
      · have y2 : gA σ g n 0 < gA σ g n 1 := b1.mpr x2
        have y3 : ¬ gA σ g n 1 < gA σ g n 0 := fun q => x2 (by have := b2.mp q; omega)
        simp only [x1, x2, y1, y2, y3, if_true, if_false]
    · have y1 : gA σ h n 0 < gA σ h n 1 := a1.mpr x1
      have y0 : ¬ gA σ h n 1 < gA σ h n 0 := fun q => x1 (by have := a2.mp q; omega)
      by_cases x2 : gk σ g n < gl σ g n
      · have y2 : ¬ gA σ g n 0 < gA σ g n 1 := fun q => b1.mp q x2
        simp only [x1, x2, y1, y0, y2, if_true, if_false]
      · have y2 : gA σ g n 0 < gA σ g n 1 := b1.mpr x2
        have y3 : ¬ gA σ g n 1 < gA σ g n 0 := fun q => x2 (by have := b2.mp q; omega)
        simp only [x1, x2, y1, y0, y2, y3, if_true, if_false]
theorem ok_two (hJ : JJ M S) (a b c : Int32) : OK (f_X5_two M a b c) (fun M1 => f_X6_two M1 a b c) := by
  obtain ⟨h0, h5, hB⟩ := J_C hJ; have hf := J_f hJ; have hH := hf.1; have hW := hf.2.1.2.1
  by_cases c1 : okv (vH (sv S)) a = true
  · by_cases c2 : okv (vH (sv S)) b = true
    · by_cases c3 : a = b
      · refine OK_ref (k := 1) (by omega) hJ ?_ (fun M1 e16 _ => ?_)
        · unfold f_X5_two
          rw [show f_X4_hasHouse M 1 a = nI 1 from by rw [p_hasH h0, if_pos c1], if_neg z10]
          rw [show f_X4_hasHouse M 1 b = nI 1 from by rw [p_hasH h0, if_pos c2], if_neg z10]
          rw [if_pos c3]; rfl
        · simp only [f_X6_two, f_X6_two_j36, f_X6_two_j37]
          rw [if_neg (show ¬ f_X6_isHouse (ju M1 16 11 0 0) a = 0 from by rw [m_isHouse (J_R hJ e16) (wg_of hf), if_pos c1]; decide), if_neg (show ¬ f_X6_isHouse (ju M1 16 11 0 0) b = 0 from by rw [m_isHouse (J_R hJ e16) (wg_of hf), if_pos c2]; decide), if_pos c3, if_neg n1]; rfl
      · have r2 : ∀ M1 : jm, M1 16 = M 16 → f_X6_two M1 a b c = f_X6_two_j37 (ju M1 16 11 0 0) a b c (f_X6_wrongNumber c 0 60) := fun M1 e16 => by
          simp only [f_X6_two]
          rw [if_neg (show ¬ f_X6_isHouse (ju M1 16 11 0 0) a = 0 from by rw [m_isHouse (J_R hJ e16) (wg_of hf), if_pos c1]; decide), if_neg (show ¬ f_X6_isHouse (ju M1 16 11 0 0) b = 0 from by rw [m_isHouse (J_R hJ e16) (wg_of hf), if_pos c2]; decide), if_neg c3]
        have r1 : f_X5_two M a b c = (if 0 ≤ c then (if c ≤ 60 then (jb2 (f_X5_bestShutter M a c) fun r5 M_5 => (jb2 (f_X5_bestShutter M_5 b c) fun r6 M_6 => (some (((10 * r5) + r6), M_6)))) else (jb2 (f_X5_refuse M (-6)) fun r7 M_7 => (some (r7, M_7)))) else (jb2 (f_X5_refuse M (-4)) fun r8 M_8 => (some (r8, M_8)))) := by
          unfold f_X5_two
          rw [show f_X4_hasHouse M 1 a = nI 1 from by rw [p_hasH h0, if_pos c1], if_neg z10]
          rw [show f_X4_hasHouse M 1 b = nI 1 from by rw [p_hasH h0, if_pos c2], if_neg z10]
          rw [if_neg c3]
        rcases rng c 60 (by omega) (c := (60 : Int32)) rfl with ⟨q1, q2⟩ | ⟨q1, q2, q3, q4⟩ | ⟨n, hn, rfl⟩
        · refine OK_ref (k := 4) (by omega) hJ ?_ (fun M1 e16 _ => ?_)
          · rw [r1, if_neg q2]; rfl
          · show f_X6_two M1 a b c = _
            rw [r2 M1 e16, wn_lo q2]
            unfold f_X6_two_j37
            rw [if_neg n4]; rfl
        · refine OK_ref (k := 6) (by omega) hJ ?_ (fun M1 e16 _ => ?_)
          · rw [r1, if_pos q1, if_neg q4]; rfl
          · show f_X6_two M1 a b c = _
            rw [r2 M1 e16, wn_hi q1 q4]
            unfold f_X6_two_j37
            rw [if_neg n6]; rfl
        · obtain ⟨h, hh, rfl⟩ := okv_ex (by omega) c1
          obtain ⟨g, hg, rfl⟩ := okv_ex (by omega) c2
          have hne : h ≠ g := fun q => c3 (by rw [q])
          obtain ⟨A, a1, a2⟩ := x_shutter (A := M) hJ.1.1 hf hh hn
          have e1 : A 1 = M 1 := a2 1 (by omega)
          obtain ⟨B, b1, b2⟩ := x_shutter (A := A) (σ := sv S) (by rw [e1]; exact hJ.1.1) hf hg hn
          refine OK_q hJ (M1 := B) (r := nI (10 * sh (sv S) h n + sh (sv S) g n)) ?_ (fun o h1 _ _ => by rw [b2 o h1, a2 o h1]) (fun hR _ => ?_)
          · rw [r1, if_pos (r_lo (by omega)), if_pos (r_hi (c := 60) hn (by omega) rfl), a1, q_jb2, b1, q_jb2, show (10 : Int32) = nI 10 from rfl, pk_mul, nI_add]
          · show ∃ M2, f_X6_two B (nI h) (nI g) (nI n) = _ ∧ _
            have e16 : B 16 = M 16 := by rw [b2 16 (by omega), a2 16 (by omega)]
            rw [r2 B e16, wn_ok (c := 60) hn (by omega) rfl]
            obtain ⟨C, g1, g2, g3⟩ := mq_two (M := ju B 16 11 0 0) (RM_ct hR) hf hh hg hne hn
            exact ⟨C, g1, g2, frK_trans (frK_ct B) g3⟩
    · refine OK_ref (k := 1) (by omega) hJ ?_ (fun M1 e16 _ => ?_)
      · unfold f_X5_two
        rw [show f_X4_hasHouse M 1 a = nI 1 from by rw [p_hasH h0, if_pos c1], if_neg z10]
        rw [show f_X4_hasHouse M 1 b = nI 0 from by rw [p_hasH h0, if_neg c2], if_pos z00]; rfl
      · simp only [f_X6_two, f_X6_two_j36, f_X6_two_j37]
        rw [if_neg (show ¬ f_X6_isHouse (ju M1 16 11 0 0) a = 0 from by rw [m_isHouse (J_R hJ e16) (wg_of hf), if_pos c1]; decide), if_pos (show f_X6_isHouse (ju M1 16 11 0 0) b = 0 from by rw [m_isHouse (J_R hJ e16) (wg_of hf), if_neg c2]; rfl), if_neg n1]; rfl
  · refine OK_ref (k := 1) (by omega) hJ ?_ (fun M1 e16 _ => ?_)
    · unfold f_X5_two
      rw [show f_X4_hasHouse M 1 a = nI 0 from by rw [p_hasH h0, if_neg c1], if_pos z00]; rfl
    · simp only [f_X6_two, f_X6_two_j36, f_X6_two_j37]
      rw [if_pos (show f_X6_isHouse (ju M1 16 11 0 0) a = 0 from by rw [m_isHouse (J_R hJ e16) (wg_of hf), if_neg c1]; rfl), if_neg n1]; rfl
end Asks

/-! whatKind: that both sides answer (what they answer is not the same: AGE 99) -/
section Asks
variable {M : jm} {S : St} {σ : vl}
theorem RB_house1 {o N : Nat} (hR : RB (M o) σ N) {F h x : Nat} (hF : F = 1 ∨ F = 2) : RB (ju M o F h (nI x) o) (vu σ F h x) N := by
  obtain ⟨a, b, d, e⟩ := hR
  refine ⟨?_, fun j hj => ?_, fun w hw => ?_, fun w hw j hj => ?_⟩
  · rw [ju_f (by omega), a]; unfold vW; rw [vu_ne (by omega)]
  · obtain ⟨b1, b2, b3, b4⟩ := b j hj
    rw [ju_f (k' := 3) (by omega), ju_f (k' := 4) (by omega), vu_ne (F' := 3) (by omega), vu_ne (F' := 4) (by omega), ju_o, ju_o]
    rcases hF with rfl | rfl
    · rw [if_neg (fun z : 2 = 1 ∧ j = h => by omega), vu_ne (F' := 2) (by omega)]
      refine ⟨?_, b2, b3, b4⟩
      by_cases q : j = h
      · subst q; rw [if_pos ⟨rfl, rfl⟩, vu_same]
      · rw [if_neg (fun z => q z.2), vu_ne (by omega)]; exact b1
    · rw [if_neg (fun z : 1 = 2 ∧ j = h => by omega), vu_ne (F' := 1) (by omega)]
      refine ⟨b1, ?_, b3, b4⟩
      by_cases q : j = h
      · subst q; rw [if_pos ⟨rfl, rfl⟩, vu_same]
      · rw [if_neg (fun z => q z.2), vu_ne (by omega)]; exact b2
  · have hw : w < vW σ := by unfold vW at hw ⊢; rwa [vu_ne (by omega)] at hw
    rw [ju_f (by omega), ju_f (by omega), ju_f (by omega), vu_ne (by omega), vu_ne (by omega), vu_ne (by omega)]; exact d w hw
  · rw [ju_f (by omega), vu_ne (by omega)]; exact e w hw j hj
theorem vu1_W {F i a : Nat} (hF : F = 1 ∨ F = 2) : vW (vu σ F i a) = vW σ := by unfold vW; rw [vu_ne (by omega)]
theorem vu1_H {F i a : Nat} (hF : F = 1 ∨ F = 2) : vH (vu σ F i a) = vH σ := by unfold vH; rw [vu_ne (by omega)]
theorem wb_house1 {N : Nat} (hb : wb σ N) {F h x : Nat} (hF : (F = 1 ∧ x < 6) ∨ (F = 2 ∧ x < 10)) : wb (vu σ F h x) N := by
  obtain ⟨b1, b2, b3, b4, b5⟩ := hb
  refine ⟨b1, by rw [vu1_W (by omega)]; exact b2, fun j hj => ?_, fun w hw => ?_, fun w j => ?_⟩
  · obtain ⟨c1, c2, c3, c4⟩ := b3 j hj
    rw [vu_ne (F' := 3) (by omega), vu_ne (F' := 4) (by omega)]
    rcases hF with ⟨rfl, hx⟩ | ⟨rfl, hx⟩
    · rw [vu_ne (F' := 2) (by omega)]
      refine ⟨?_, c2, c3, c4⟩
      by_cases q : j = h
      · subst q; rw [vu_same]; exact hx
      · rw [vu_ne (by omega)]; exact c1
    · rw [vu_ne (F' := 1) (by omega)]
      refine ⟨c1, ?_, c3, c4⟩
      by_cases q : j = h
      · subst q; rw [vu_same]; exact hx
      · rw [vu_ne (by omega)]; exact c2
  · rw [vu1_W (by omega)] at hw
    rw [vu_ne (by omega), vu_ne (by omega), vu_ne (by omega)]; exact b4 w hw
  · rw [vu_ne (by omega)]; exact b5 w j
theorem x_fits {A : jm} {N rn : Nat} (hR : RB (A 2) σ N) (hb : wb σ N) (hr : rn ≤ 12) (h9 : A 0 9 0 = nI rn) {w h : Nat} (hw : w < vW σ) (hh : h < N) : ∃ r, f_X5_fitsNumbers A (nI w) (nI h) = some r := by
  have key : ∀ d i k, i + d = rn → d < k → ∃ r, f_X5_fitsNumbers_l2 A (nI w) (nI h) k (nI i) = some r := by
    intro d
    induction d with
    | zero =>
      intro i k hi hk
      obtain ⟨k, rfl⟩ : ∃ j, k = j + 1 := ⟨k - 1, by omega⟩
      refine ⟨1, ?_⟩
      rw [f_X5_fitsNumbers_l2, h9, if_pos (by rw [q_le (by omega) (by omega)]; omega)]
    | succ d ih =>
      intro i k hi hk
      obtain ⟨k, rfl⟩ : ∃ j, k = j + 1 := ⟨k - 1, by omega⟩
      obtain ⟨r, hr2⟩ := ih (i + 1) k (by omega) (by omega)
      have step : ∀ t, ∃ r, f_X5_fitsNumbers_j31 A (f_X5_fitsNumbers_l2 A (nI w) (nI h) k) (nI w) (nI h) (nI i) t = some r := by
        intro t
        unfold f_X5_fitsNumbers_j31
        rw [p_ageBehind hR hb hw hh (by omega), q_jb, show nI i + 1 = nI (i + 1) from nI_add i 1, hr2]
        split
        · exact ⟨r, rfl⟩
        · exact ⟨0, rfl⟩
      rw [f_X5_fitsNumbers_l2, h9, if_neg (by rw [q_le (by omega) (by omega)]; omega), q_gd (by omega) (by omega), q_gd (by omega) (by omega)]
      split
      · exact step _
      · exact step _
  exact key rn 0 10000 (by omega) (by omega)
theorem x_kinds (hJ : JJ M S) {w h : Nat} (hw : w < vW (sv S)) (hh : h < vH (sv S)) : (∃ r A, f_X5_fittingKinds M (nI w) (nI h) = some (r, A) ∧ frC M A) ∧ (∃ r A, f_X5_fittingFigures M (nI w) (nI h) = some (r, A) ∧ frC M A) := by
  obtain ⟨h0, h5, hB⟩ := J_C hJ; have hf := J_f hJ; have hH := hf.1; have hW := hf.2.1.2.1
  have hrn := hJ.2.2.2.2.2.2.2.2.2.1
  have h9 := hJ.1.2.2.2.2.2.2.2.1
  obtain ⟨A, a1, a2, a3⟩ := p_becomeRW (M := M) (o := 2) (o1 := 1) (σ := sv S) (by omega) hJ.1.1
  have e9 : ∀ B : jm, (∀ o, o ≠ 2 → B o = M o) → B 0 9 0 = nI (srn S) := fun B hB => by rw [hB 0 (by omega)]; exact h9
  constructor
  · unfold f_X5_fittingKinds
    rw [a1, q_jb]
    refine loopE (L := fun k (a : jm × Int32) i => f_X5_fittingKinds_l16 (nI w) (nI h) k a.1 a.2 i) (P := fun i a => (∀ o, o ≠ 2 → a.1 o = M o) ∧ ∃ τ, RB (a.1 2) τ (vH (sv S)) ∧ wb τ (vH (sv S)) ∧ vW τ = vW (sv S)) (Z := fun r => ∃ r' A, r = some (r', A) ∧ frC M A) (n := 6) ?_ ?_ 6 0 10000 (A, 0) (by omega) (by omega) ⟨fun o ho => a2 o ho, sv S, a3.2.2, hf.2.1, rfl⟩
    · rintro k ⟨B, v⟩ i hi ⟨p1, τ, p2, p3, p4⟩
      simp only at p1 p2
      have q2 := RB_house1 (M := B) (o := 2) p2 (F := 1) (h := h) (x := i) (Or.inl rfl)
      have q3 := wb_house1 p3 (F := 1) (h := h) (x := i) (by omega)
      have q1 : ∀ o, o ≠ 2 → ju B 2 1 h (nI i) o = M o := fun o ho => by rw [ju_ne ho, p1 o ho]
      obtain ⟨r, hr⟩ := x_fits q2 q3 hrn (e9 _ q1) (by rw [vu1_W (Or.inl rfl), p4]; exact hw) hh
      refine ⟨(ju B 2 1 h (nI i), if r = 0 then v else v ||| bi i), ?_, q1, _, q2, q3, by rw [vu1_W (Or.inl rfl), p4]⟩
      simp only [f_X5_fittingKinds_l16]
      rw [if_neg (by rw [show (6 : Int32) = nI 6 from rfl, q_le (by omega) (by omega)]; omega), q_gd (by omega) (by omega), q_cl (by omega), hr, q_jb, show nI i + 1 = nI (i + 1) from nI_add i 1]
      split <;> rfl
    · rintro k ⟨B, v⟩ ⟨p1, -⟩
      refine ⟨v, B, ?_, fun o h1 _ _ => p1 o h1⟩
      simp only [f_X5_fittingKinds_l16]
      rw [if_pos (by decide)]
  · unfold f_X5_fittingFigures
    rw [a1, q_jb]
    refine loopE (L := fun k (a : jm × Int32) i => f_X5_fittingFigures_l16 (nI w) (nI h) k a.1 a.2 i) (P := fun i a => (∀ o, o ≠ 2 → a.1 o = M o) ∧ ∃ τ, RB (a.1 2) τ (vH (sv S)) ∧ wb τ (vH (sv S)) ∧ vW τ = vW (sv S)) (Z := fun r => ∃ r' A, r = some (r', A) ∧ frC M A) (n := 10) ?_ ?_ 10 0 10000 (A, 0) (by omega) (by omega) ⟨fun o ho => a2 o ho, sv S, a3.2.2, hf.2.1, rfl⟩
    · rintro k ⟨B, v⟩ i hi ⟨p1, τ, p2, p3, p4⟩
      simp only at p1 p2
      have q2 := RB_house1 (M := B) (o := 2) p2 (F := 2) (h := h) (x := i) (Or.inr rfl)
      have q3 := wb_house1 p3 (F := 2) (h := h) (x := i) (by omega)
      have q1 : ∀ o, o ≠ 2 → ju B 2 2 h (nI i) o = M o := fun o ho => by rw [ju_ne ho, p1 o ho]
      obtain ⟨r, hr⟩ := x_fits q2 q3 hrn (e9 _ q1) (by rw [vu1_W (Or.inr rfl), p4]; exact hw) hh
      refine ⟨(ju B 2 2 h (nI i), if r = 0 then v else v ||| ((1 : Int32) <<< (nI i &&& 31))), ?_, q1, _, q2, q3, by rw [vu1_W (Or.inr rfl), p4]⟩
      simp only [f_X5_fittingFigures_l16]
      rw [if_neg (by rw [show (10 : Int32) = nI 10 from rfl, q_le (by omega) (by omega)]; omega), q_gd (by omega) (by omega), q_cl (by omega), hr, q_jb, show nI i + 1 = nI (i + 1) from nI_add i 1]
      split <;> rfl
    · rintro k ⟨B, v⟩ ⟨p1, -⟩
      refine ⟨v, B, ?_, fun o h1 _ _ => p1 o h1⟩
      simp only [f_X5_fittingFigures_l16]
      rw [if_pos (by decide)]
theorem m_isRow {A : jm} {τ : vl} {rn : Nat} (hR : RM (A 16) τ) (hg : wg τ) (hK : KM (A 16 21) σ) (hs : wg σ) (hr : rn ≤ 12) (h36 : A 16 36 0 = nI rn) {w h : Nat} (hw : w < vW τ) (hh : h < vH τ) : ∃ r B, f_X6_isRow A (nI w) (nI h) = some (r, B) ∧ RM (B 16) σ ∧ KM (B 16 21) σ ∧ frT A B := by
  have hH := hg.1
  have hW := hg.2.1.2.1
  have key : ∀ d i k v B, i + d = rn → d < k → (v = 0 ∨ v = 1) → RM (B 16) (evN τ i) → KM (B 16 21) σ → frT A B → ∃ r C, f_X6_isRow_l5 (nI w) (nI h) k B v (nI i) = some (r, C) ∧ RM (C 16) σ ∧ KM (C 16 21) σ ∧ frT A C := by
    have fin : ∀ v B, (v = 0 ∨ v = 1) → KM (B 16 21) σ → frT A B → ∃ C, (jb (f_X6_again B) fun M_2 => (jgb v (some (v, M_2)))) = some (v, C) ∧ RM (C 16) σ ∧ KM (C 16 21) σ ∧ frT A C := by
      intro v B hv p2 p3
      obtain ⟨C, c1, c2, c3⟩ := m_again p2 hs
      refine ⟨C, ?_, c2, by rw [frA_21 c3]; exact p2, frT_trans p3 (frT_of c3)⟩
      rw [c1, q_jb]
      unfold jgb
      rw [if_pos hv]
    intro d
    induction d with
    | zero =>
      intro i k v B hi hk hv p1 p2 p3
      obtain ⟨k, rfl⟩ : ∃ j, k = j + 1 := ⟨k - 1, by omega⟩
      obtain ⟨C, c⟩ := fin v B hv p2 p3
      refine ⟨v, C, ?_, c.2⟩
      rw [f_X6_isRow_l5, if_pos (by rw [p3.2 36 (by omega) (by omega) (by omega) (by omega) (by omega), h36, q_le (by omega) (by omega)]; omega)]
      exact c.1
    | succ d ih =>
      intro i k v B hi hk hv p1 p2 p3
      obtain ⟨k, rfl⟩ : ∃ j, k = j + 1 := ⟨k - 1, by omega⟩
      rw [f_X6_isRow_l5, if_neg (by rw [p3.2 36 (by omega) (by omega) (by omega) (by omega) (by omega), h36, q_le (by omega) (by omega)]; omega)]
      by_cases z : v = 0
      · obtain ⟨C, c⟩ := fin v B hv p2 p3
        refine ⟨v, C, ?_, c.2⟩
        rw [if_pos z]
        exact c.1
      · obtain ⟨C, c1, c2, c3⟩ := m_evening p1 hg
        have st : ∀ t, (t = 0 ∨ t = 1) → ∃ r C, f_X6_isRow_j60 B (f_X6_isRow_l5 (nI w) (nI h) k) (nI w) (nI h) (nI i) t = some (r, C) ∧ RM (C 16) σ ∧ KM (C 16 21) σ ∧ frT A C := by
          intro t ht
          unfold f_X6_isRow_j60
          rw [c1, q_jb, show nI i + 1 = nI (i + 1) from nI_add i 1]
          exact ih (i + 1) k t C (by omega) (by omega) ht c2 (by rw [fr3_at c3 (by omega)]; exact p2) (frT_trans p3 (frT_of (frA_of c3)))
        have st2 : ∀ t u, ∃ r C, f_X6_isRow_j52 B (f_X6_isRow_l5 (nI w) (nI h) k) (nI w) (nI h) (nI i) t u = some (r, C) ∧ RM (C 16) σ ∧ KM (C 16 21) σ ∧ frT A C := by
          intro t u
          unfold f_X6_isRow_j52
          split
          · exact st 1 (Or.inr rfl)
          · exact st 0 (Or.inl rfl)
        rw [if_neg z, idx7, q_gd (by omega) (by omega), q_gd (by omega) (by omega)]
        split
        · exact st2 _ _
        · exact st2 _ _
  unfold f_X6_isRow
  exact key rn 0 10000 1 A (by omega) (by omega) (Or.inr rfl) (by rw [evN_0]; exact hR) hK (frT_of (frA_refl A))
theorem wf_house1 (hf : wf σ) {F h x : Nat} (hF : (F = 1 ∧ x < 6) ∨ (F = 2 ∧ x < 10)) : wf (vu σ F h x) := by
  obtain ⟨f1, f2, f3, f4⟩ := hf
  have eH : vH (vu σ F h x) = vH σ := vu1_H (by omega)
  have eW : vW (vu σ F h x) = vW σ := vu1_W (by omega)
  refine ⟨by rw [eH]; exact f1, by rw [eH]; exact wb_house1 f2 hF, fun w j q => ?_, by rw [vu_ne (by omega)]; exact f4⟩
  rw [eH, eW] at q
  rw [vu_ne (by omega)]; exact f3 w j q
theorem vu_id {F i : Nat} : vu σ F i (σ F i) = σ := by
  funext F' i'
  unfold vu
  split
  · rename_i q; rw [q.1, q.2]
  · rfl
theorem mq_what (hR : RM (M 16) σ) (hf : wf σ) {rn : Nat} (hr : rn ≤ 12) (h36 : M 16 36 0 = nI rn) {w h : Nat} (hw : w < vW σ) (hh : h < vH σ) {v : Int32} (hv : v = nI 0 ∨ v = nI 1) : ∃ r M2, jb (f_X6_think M) (fun M_3 => f_X6_whatKind_l40 (nI w) (nI h) v 10000 M_3 0 0) = some (r, M2) ∧ RM (M2 16) σ ∧ frT M M2 := by
  have hH := hf.1; have hW := hf.2.1.2.1
  have hg := wg_of hf
  obtain ⟨B, b1, b2, b3, b4⟩ := m_think hR
  rw [b1, q_jb]
  obtain ⟨n, hn1, hn2⟩ : ∃ n, n = (if v = 0 then 6 else 10) ∧ n ≤ 10 := ⟨_, rfl, by split <;> omega⟩
  have hb := hf.2.1.2.2.1 h hh
  refine loopE (L := fun k (a : jm × Int32) i => f_X6_whatKind_l40 (nI w) (nI h) v k a.1 a.2 i) (P := fun i a => RM (a.1 16) σ ∧ KM (a.1 16 21) σ ∧ frT M a.1) (Z := fun r => ∃ r' M2, r = some (r', M2) ∧ RM (M2 16) σ ∧ frT M M2) (n := n) ?_ ?_ n 0 10000 (B, 0) (by omega) (by omega) ⟨b2, b3, b4⟩
  · rintro k ⟨C, y⟩ i hi ⟨p1, p2, p3⟩
    simp only at p1 p2 p3
    -- whatever is set, a village in range
    have set : ∀ D τ, wf τ → vW τ = vW σ → vH τ = vH σ → RM (D 16) τ → KM (D 16 21) σ → frA C D → ∃ a', (jb2 (f_X6_isRow D (nI w) (nI h)) fun r8 M_8 => (if r8 = 0 then (f_X6_whatKind_l40 (nI w) (nI h) v k M_8 (y ||| 0) (nI i + 1)) else (f_X6_whatKind_l40 (nI w) (nI h) v k M_8 (y ||| ((1 : Int32) <<< (nI i &&& 31))) (nI i + 1)))) = f_X6_whatKind_l40 (nI w) (nI h) v k (a' : jm × Int32).1 a'.2 (nI (i + 1)) ∧ RM (a'.1 16) σ ∧ KM (a'.1 16 21) σ ∧ frT M a'.1 := by
      intro D τ hfτ tW tH rD kD fD
      obtain ⟨r, E, e1, e2, e3, e4⟩ := m_isRow rD (wg_of hfτ) kD hg hr (by rw [fD.2 36 (by omega) (by omega) (by omega) (by omega), p3.2 36 (by omega) (by omega) (by omega) (by omega) (by omega)]; exact h36) (w := w) (h := h) (by rw [tW]; exact hw) (by rw [tH]; exact hh)
      refine ⟨(E, if r = 0 then y ||| 0 else y ||| ((1 : Int32) <<< (nI i &&& 31))), ?_, e2, e3, frT_trans p3 (frT_trans (frT_of fD) e4)⟩
      rw [e1, q_jb2, show nI i + 1 = nI (i + 1) from nI_add i 1]
      split <;> rfl
    have c1 := (p1.2.2.2.1 h hh).1
    have c2 := (p1.2.2.2.1 h hh).2.1
    rcases hv with rfl | rfl
    · rw [if_pos (show (nI 0 : Int32) = 0 from rfl)] at hn1
      have r1 := RM_house p1 (F := 1) (h := h) (x := i) (by omega)
      have r2 := RM_house r1 (F := 2) (h := h) (x := vu σ 1 h i 2 h) (by omega)
      rw [vu_id] at r2
      have e2 : vu σ 1 h i 2 h = σ 2 h := vu_ne (by omega)
      rw [e2] at r2
      obtain ⟨a', x1, x2⟩ := set _ _ (wf_house1 hf (F := 1) (h := h) (x := i) (by omega)) (vu1_W (Or.inl rfl)) (vu1_H (Or.inl rfl)) r2 (by rw [ju_f (by omega), ju_f (by omega)]; exact p2) (frA_trans (frA_ju (by omega)) (frA_ju (by omega)))
      refine ⟨a', ?_, x2⟩
      simp only [f_X6_whatKind_l40, f_X6_whatKind_j53, f_X6_whatKind_j76, f_X6_whatKind_j98]
      rw [if_pos (show (nI 0 : Int32) = 0 from rfl), if_neg (by rw [show (6 : Int32) = nI 6 from rfl, q_le (by omega) (by omega)]; omega), if_pos (show (nI 0 : Int32) = 0 from rfl), q_gd (by omega) (by omega), if_neg (by decide), q_gd (by omega) (by omega), q_gd (by omega) (by omega), q_cl (by omega), show ju C 16 1 h (nI i) 16 2 h = nI (σ 2 h) by rw [ju_g (by omega)]; exact c2]
      exact x1
    · rw [if_neg (show ¬ (nI 1 : Int32) = 0 by decide)] at hn1
      have r1 := RM_house p1 (F := 1) (h := h) (x := σ 1 h) (by omega)
      rw [vu_id] at r1
      have r2 := RM_house r1 (F := 2) (h := h) (x := i) (by omega)
      obtain ⟨a', x1, x2⟩ := set _ _ (wf_house1 hf (F := 2) (h := h) (x := i) (by omega)) (vu1_W (Or.inr rfl)) (vu1_H (Or.inr rfl)) r2 (by rw [ju_f (by omega), ju_f (by omega)]; exact p2) (frA_trans (frA_ju (by omega)) (frA_ju (by omega)))
      refine ⟨a', ?_, x2⟩
      simp only [f_X6_whatKind_l40, f_X6_whatKind_j53, f_X6_whatKind_j76, f_X6_whatKind_j98]
      rw [if_neg (show ¬ (nI 1 : Int32) = 0 by decide), if_neg (by rw [show (10 : Int32) = nI 10 from rfl, q_le (by omega) (by omega)]; omega), if_neg (show ¬ (nI 1 : Int32) = 0 by decide), q_gd (by omega) (by omega), q_gd (by omega) (by omega), if_pos (show (nI 1 : Int32) = 1 from rfl), q_gd (by omega) (by omega), q_cl (by omega), c1]
      exact x1
  · rintro k ⟨C, y⟩ ⟨p1, p2, p3⟩
    simp only at p1 p2 p3
    refine ⟨y, C, ?_, p1, p3⟩
    simp only [f_X6_whatKind_l40, f_X6_whatKind_j53]
    rcases hv with rfl | rfl
    · rw [if_pos (show (nI 0 : Int32) = 0 from rfl)] at hn1
      rw [if_pos (show (nI 0 : Int32) = 0 from rfl), if_pos (by rw [hn1]; decide)]
    · rw [if_neg (show ¬ (nI 1 : Int32) = 0 by decide)] at hn1
      rw [if_neg (show ¬ (nI 1 : Int32) = 0 by decide), if_pos (by rw [hn1]; decide)]
theorem OT_q {R R' : Type} {a : Option (R × jm)} {b : jm → Option (R' × jm)} {r : R} {M1 : jm} (hJ : JJ M S) (ha : a = some (r, M1)) (h1 : frC M M1) (hb : RM (M1 16) (sv S) → wg (sv S) → ∃ r' M2, b M1 = some (r', M2) ∧ RM (M2 16) (sv S) ∧ frK M1 M2) : OT a b := by
  obtain ⟨jc, jr, jw⟩ := hJ
  have e16 : M1 16 = M 16 := h1 16 (by omega) (by omega) (by omega)
  obtain ⟨r', M2, e2, hR, hF⟩ := hb (by rw [e16]; exact jr.1) (wg_of jw.1)
  exact ⟨r, r', M1, M2, S, ha, e2, JC_fr (fun o a b c d => by rw [hF.1 o a, h1 o b c d]) jc, JR_sc hR hF.2 (JR_fr e16 jr), jw⟩
theorem ot_whatKind (hJ : JJ M S) (a b c : Int32) : OT (f_X5_whatKind M a b c) (fun M1 => f_X6_whatKind M1 a b c) := by
  obtain ⟨h0, h5, hB⟩ := J_C hJ; have hf := J_f hJ; have hH := hf.1; have hW := hf.2.1.2.1
  by_cases c1 : okv (vW (sv S)) a = true
  · by_cases c2 : okv (vH (sv S)) b = true
    · obtain ⟨w, hw, rfl⟩ := okv_ex (by omega) c1
      obtain ⟨h, hh, rfl⟩ := okv_ex (by omega) c2
      by_cases c3 : okv 2 c = true
      · have hc : c = nI 0 ∨ c = nI 1 := by
          obtain ⟨j, hj, rfl⟩ := okv_ex (by omega) c3
          rcases (show j = 0 ∨ j = 1 by omega) with rfl | rfl
          · exact Or.inl rfl
          · exact Or.inr rfl
        obtain ⟨⟨r1, A1, x1, y1⟩, ⟨r2, A2, x2, y2⟩⟩ := x_kinds hJ hw hh
        have hx : ∃ r A, f_X5_whatKind M (nI w) (nI h) c = some (r, A) ∧ frC M A := by
          unfold f_X5_whatKind f_X5_whatKind_j44
          rw [show f_X4_hasWalker M 1 (nI w) = nI 1 from by rw [p_hasW h5, if_pos c1], if_neg z10]
          rw [show f_X4_hasHouse M 1 (nI h) = nI 1 from by rw [p_hasH h0, if_pos c2], if_neg z10]
          rcases hc with rfl | rfl
          · refine ⟨r1, A1, ?_, y1⟩
            rw [if_pos (show (nI 0 : Int32) = 0 from rfl), if_pos (show (nI 0 : Int32) = 0 from rfl), x1, q_jb2]
          · refine ⟨r2, A2, ?_, y2⟩
            rw [if_neg (show ¬ (nI 1 : Int32) = 0 by decide), if_pos (show (nI 1 : Int32) = 1 from rfl), if_neg (show ¬ (nI 1 : Int32) = 0 by decide), x2, q_jb2]
        obtain ⟨r, A, x, y⟩ := hx
        refine OT_q hJ x y (fun hR hg => ?_)
        have e16 : A 16 = M 16 := y 16 (by omega) (by omega) (by omega)
        obtain ⟨r', C, g1, g2, g3⟩ := mq_what (M := ju A 16 11 0 0) (RM_ct hR) hf (rn := srn S) hJ.2.2.2.2.2.2.2.2.2.1 (by rw [ju_g (by omega), e16]; exact hJ.2.1.2.2.2.2.2.2.2.1) hw hh hc
        refine ⟨r', C, ?_, g2, frK_trans (frK_ct A) (frK_of g3)⟩
        show f_X6_whatKind A (nI w) (nI h) c = _
        unfold f_X6_whatKind
        rw [m_wbOK (RM_ct hR) hg hw hh, show (nI 0 : Int32) = 0 from rfl, wb_0 2 (by omega) (by decide), if_pos c3, if_pos n0]
        exact g1
      · have nn : ∀ j, j < 2 → ¬ c = nI j := fun j hj => okv_ne (by omega) c3 hj
        refine OK_t ?_
        refine OK_ref (k := 2) (by omega) hJ ?_ (fun M1 e16 _ => ?_)
        · unfold f_X5_whatKind
          rw [show f_X4_hasWalker M 1 (nI w) = nI 1 from by rw [p_hasW h5, if_pos c1], if_neg z10]
          rw [show f_X4_hasHouse M 1 (nI h) = nI 1 from by rw [p_hasH h0, if_pos c2], if_neg z10]
          rw [if_neg (show ¬ c = (0 : Int32) from nn 0 (by omega)), if_neg (show ¬ c = (1 : Int32) from nn 1 (by omega))]; rfl
        · show f_X6_whatKind M1 (nI w) (nI h) c = _
          unfold f_X6_whatKind
          rw [m_wbOK (J_R hJ e16) (wg_of hf) hw hh, show (nI 0 : Int32) = 0 from rfl, wb_0 2 (by omega) (by decide), if_neg c3, if_neg n2]; rfl
    · refine OK_t ?_
      refine OK_ref (k := 1) (by omega) hJ ?_ (fun M1 e16 _ => ?_)
      · unfold f_X5_whatKind
        rw [show f_X4_hasWalker M 1 a = nI 1 from by rw [p_hasW h5, if_pos c1], if_neg z10]
        rw [show f_X4_hasHouse M 1 b = nI 0 from by rw [p_hasH h0, if_neg c2], if_pos z00]; rfl
      · show f_X6_whatKind M1 a b c = _
        unfold f_X6_whatKind
        rw [m_wb2 (J_R hJ e16) (wg_of hf) c2, wb_no (by decide), if_neg n1]; rfl
  · refine OK_t ?_
    refine OK_ref (k := 1) (by omega) hJ ?_ (fun M1 e16 _ => ?_)
    · unfold f_X5_whatKind
      rw [show f_X4_hasWalker M 1 a = nI 0 from by rw [p_hasW h5, if_neg c1], if_pos z00]; rfl
    · show f_X6_whatKind M1 a b c = _
      unfold f_X6_whatKind
      rw [m_wb1 (J_R hJ e16) (wg_of hf) c1, wb_no (by decide), if_neg n1]; rfl
end Asks

/-! mist -/
theorem pw_pos {t : Nat} (h : 0 < t) : ∀ n, 0 < t ^ n
  | 0 => by rw [Nat.pow_zero]; omega
  | n + 1 => by rw [Nat.pow_succ]; exact Nat.mul_pos (pw_pos h n) h
theorem sm_app (f : Nat → Nat) (a : Nat) : ∀ b, sm f (a + b) = sm f a + sm (fun i => f (a + i)) b
  | 0 => rfl
  | b + 1 => by
    show sm f (a + b) + f (a + b) = sm f a + (sm (fun i => f (a + i)) b + f (a + b))
    rw [sm_app f a b, Nat.add_assoc]
theorem sm_mulr (f : Nat → Nat) (c : Nat) : ∀ n, sm (fun i => f i * c) n = sm f n * c
  | 0 => by show 0 = 0 * c; rw [Nat.zero_mul]
  | n + 1 => by
    show sm (fun i => f i * c) n + f n * c = (sm f n + f n) * c
    rw [sm_mulr f c n, Nat.add_mul]
section Mist
variable {σ : vl}
/-- the odds of the mists m on k evenings -/
def od (t m : Nat) : Nat → Nat
  | 0 => 1
  | k + 1 => od t m k * if m.testBit k then 1 else t - 1
/-- whether he owes it then -/
def os (σ : vl) (w h m : Nat) : Nat → Bool
  | 0 => decide (σ (20 + w) h ≠ 0)
  | k + 1 => os σ w h m k || (!m.testBit k && see σ w (pl σ w (k + 1)) h)
def mvv (σ : vl) (m : Nat) : Nat → vl
  | 0 => σ
  | k + 1 => evM (m.testBit k) (mvv σ m k)
theorem od_hi {t n m : Nat} : ∀ k, k ≤ n → od t (2 ^ n + m) k = od t m k
  | 0, _ => rfl
  | k + 1, h => by
    unfold od
    rw [od_hi k (by omega), Nat.testBit_two_pow_add_gt (by omega)]
theorem os_hi {w h n m : Nat} : ∀ k, k ≤ n → os σ w h (2 ^ n + m) k = os σ w h m k
  | 0, _ => rfl
  | k + 1, q => by
    unfold os
    rw [os_hi k (by omega), Nat.testBit_two_pow_add_gt (by omega)]
/-- the sum over the mists by which he owes it not -/
def sN (σ : vl) (w h t n : Nat) : Nat := sm (fun m => if os σ w h m n then 0 else od t m n) (2 ^ n)
def sA (σ : vl) (w h t n k : Nat) : Nat := sm (fun m => if os σ w h m n then od t m n else 0) k
theorem sT_eq {t : Nat} (ht : 0 < t) : ∀ n, sm (fun m => od t m n) (2 ^ n) = t ^ n
  | 0 => rfl
  | n + 1 => by
    have e : 2 ^ (n + 1) = 2 ^ n + 2 ^ n := by rw [Nat.pow_succ]; omega
    rw [e, sm_app]
    have e1 : sm (fun m => od t m (n + 1)) (2 ^ n) = sm (fun m => od t m n * (t - 1)) (2 ^ n) := sm_congr _ (fun m hm => by
      show od t m n * (if m.testBit n then 1 else t - 1) = _
      rw [Nat.testBit_lt_two_pow hm, if_neg (by simp)])
    have e2 : sm (fun m => od t (2 ^ n + m) (n + 1)) (2 ^ n) = sm (fun m => od t m n) (2 ^ n) := sm_congr _ (fun m hm => by
      show od t (2 ^ n + m) n * (if (2 ^ n + m).testBit n then 1 else t - 1) = _
      rw [od_hi n (Nat.le_refl n), Nat.testBit_two_pow_add_eq, Nat.testBit_lt_two_pow hm, if_pos (by simp), Nat.mul_one])
    rw [e1, e2, sm_mulr, sT_eq ht n, Nat.pow_succ]
    have : t ^ n * (t - 1) + t ^ n = t ^ n * (t - 1 + 1) := by rw [Nat.mul_add, Nat.mul_one]
    rw [this, show t - 1 + 1 = t by omega]
theorem sN_succ {w h t n : Nat} (ht : 0 < t) : sN σ w h t (n + 1) = if see σ w (pl σ w (n + 1)) h then sN σ w h t n else sN σ w h t n * t := by
  have e : 2 ^ (n + 1) = 2 ^ n + 2 ^ n := by rw [Nat.pow_succ]; omega
  unfold sN
  rw [e, sm_app]
  have e2 : sm (fun m => if os σ w h (2 ^ n + m) (n + 1) then 0 else od t (2 ^ n + m) (n + 1)) (2 ^ n) = sm (fun m => if os σ w h m n then 0 else od t m n) (2 ^ n) := sm_congr _ (fun m hm => by
    show (if (os σ w h (2 ^ n + m) n || (!(2 ^ n + m).testBit n && see σ w (pl σ w (n + 1)) h)) then 0 else od t (2 ^ n + m) n * (if (2 ^ n + m).testBit n then 1 else t - 1)) = _
    rw [od_hi n (Nat.le_refl n), os_hi n (Nat.le_refl n), Nat.testBit_two_pow_add_eq, Nat.testBit_lt_two_pow hm]
    simp)
  rw [e2]
  by_cases q : see σ w (pl σ w (n + 1)) h = true
  · have e1 : sm (fun m => if os σ w h m (n + 1) then 0 else od t m (n + 1)) (2 ^ n) = sm (fun _ => 0) (2 ^ n) := sm_congr _ (fun m hm => by
      show (if (os σ w h m n || (!m.testBit n && see σ w (pl σ w (n + 1)) h)) then 0 else _) = _
      rw [Nat.testBit_lt_two_pow hm, q]
      simp)
    rw [e1, sm_0, Nat.zero_add, if_pos q]
  · have q' : see σ w (pl σ w (n + 1)) h = false := by simpa using q
    have e1 : sm (fun m => if os σ w h m (n + 1) then 0 else od t m (n + 1)) (2 ^ n) = sm (fun m => (if os σ w h m n then 0 else od t m n) * (t - 1)) (2 ^ n) := sm_congr _ (fun m hm => by
      show (if (os σ w h m n || (!m.testBit n && see σ w (pl σ w (n + 1)) h)) then 0 else od t m n * (if m.testBit n then 1 else t - 1)) = _
      rw [Nat.testBit_lt_two_pow hm, q']
      cases os σ w h m n <;> simp)
    rw [e1, sm_mulr, if_neg q]
    have : ∀ x : Nat, x * (t - 1) + x = x * t := fun x => by
      rw [show x * t = x * (t - 1 + 1) by rw [show t - 1 + 1 = t by omega], Nat.mul_add, Nat.mul_one]
    exact this _
theorem sgt_le (w h : Nat) : ∀ n, sgt σ w h n ≤ n := fun n => cn_le _ n
theorem sN_eq {w h t : Nat} (ht : 0 < t) : ∀ n, sN σ w h t n = if σ (20 + w) h = 0 then t ^ (n - sgt σ w h n) else 0
  | 0 => by
    unfold sN
    show 0 + (if decide (σ (20 + w) h ≠ 0) then 0 else 1) = if σ (20 + w) h = 0 then t ^ (0 - 0) else 0
    by_cases z : σ (20 + w) h = 0
    · rw [if_pos z]; simp [z]
    · rw [if_neg z]; simp [z]
  | n + 1 => by
    have hs := sgt_le (σ := σ) w h n
    rw [sN_succ ht, sN_eq ht n]
    have es : sgt σ w h (n + 1) = sgt σ w h n + if see σ w (pl σ w (n + 1)) h then 1 else 0 := rfl
    rw [es]
    by_cases q : see σ w (pl σ w (n + 1)) h = true
    · rw [if_pos q, if_pos q, show n + 1 - (sgt σ w h n + 1) = n - sgt σ w h n by omega]
    · rw [if_neg q, if_neg q]
      split
      · rw [show n + 1 - (sgt σ w h n + 0) = (n - sgt σ w h n) + 1 by omega, Nat.pow_succ]
      · rw [Nat.zero_mul]
theorem sA_eq {w h t n : Nat} (ht : 0 < t) : sA σ w h t n (2 ^ n) + sN σ w h t n = t ^ n := by
  rw [← sT_eq ht n]
  unfold sA sN
  rw [← sm_add]
  refine sm_congr _ (fun m _ => ?_)
  split
  · rw [Nat.add_zero]
  · rw [Nat.zero_add]
-- what the misty village holds
theorem wg_evM {b : Bool} (hf : wg σ) : wg (evM b σ) := by
  have e : vW (grow σ) = vW σ := grow_lo (by omega) (by omega)
  exact wg_stepW (wg_grow hf) (by rw [e]; exact Nat.le_refl _) (fun _ => rfl)
theorem mvv_ok (m : Nat) (hf : wg σ) : ∀ k, wg (mvv σ m k) ∧ (∀ F i, F < 20 → F ≠ 6 → F ≠ 10 → mvv σ m k F i = σ F i) ∧ (∀ w, w < vW σ → mvv σ m k 6 w = pl σ w k) ∧ (∀ w h, w < vW σ → h < vH σ → (mvv σ m k (20 + w) h = 0 ↔ os σ w h m k = false))
  | 0 => ⟨hf, fun _ _ _ _ _ => rfl, fun _ _ => rfl, fun w h _ _ => by
    show σ (20 + w) h = 0 ↔ decide (σ (20 + w) h ≠ 0) = false
    simp⟩
  | k + 1 => by
    obtain ⟨i1, i2, i3, i4⟩ := mvv_ok m hf k
    generalize hρ : mvv σ m k = ρ at i1 i2 i3 i4
    have eρ : mvv σ m (k + 1) = evM (m.testBit k) ρ := by rw [← hρ]; rfl
    rw [eρ]
    have gW : vW ρ = vW σ := i2 5 0 (by omega) (by omega) (by omega)
    have gH : vH ρ = vH σ := i2 0 0 (by omega) (by omega) (by omega)
    have hW : vW (grow ρ) = vW ρ := grow_lo (by omega) (by omega)
    have hH : vH (grow ρ) = vH ρ := grow_lo (by omega) (by omega)
    refine ⟨wg_evM i1, fun F i h1 h2 h3 => ?_, fun w hw => ?_, fun w h hw hh => ?_⟩
    · unfold evM
      rw [stepW_lo h1 h2, grow_lo h1 (by omega)]
      exact i2 F i h1 h2 h3
    · unfold evM
      rw [stepW_6, if_pos (by rw [gW]; exact hw), grow_lo (by omega) (by omega), grow_lo (by omega) (by omega), i3 w hw, i2 7 w (by omega) (by omega) (by omega)]
      rfl
    · have i4 := i4 w h hw hh
      unfold evM
      rw [stepW_20, grow_20, hH, grow_lo (by omega) (by omega), grow_lo (by omega) (by omega), i3 w hw, i2 7 w (by omega) (by omega) (by omega)]
      have es : see (grow ρ) w (twd (pl σ w k) (σ 7 w)) h = see σ w (pl σ w (k + 1)) h := by
        refine see_congr ?_ ?_ ?_ ?_ ?_ <;> (rw [grow_lo (by omega) (by omega), i2 _ _ (by omega) (by omega) (by omega)])
      rw [es]
      have eb : b0 (ρ (20 + w) h) = 0 ↔ ρ (20 + w) h = 0 := by
        unfold b0
        split
        · simp [*]
        · omega
      unfold os
      rw [gW, gH]
      by_cases z : ρ (20 + w) h = 0
      · rw [i4.mp z]
        have z0 := eb.mpr z
        rw [z0]
        cases m.testBit k
        · cases see σ w (pl σ w (k + 1)) h
          · simp
          · rw [if_pos ⟨Or.inl hw, hh, rfl, rfl, rfl⟩]; simp
        · simp
      · have o : os σ w h m k = true := by
          cases q : os σ w h m k
          · exact absurd (i4.mpr q) z
          · rfl
        rw [o, if_neg (fun y => z (eb.mp y.2.2.1))]
        simp only [Bool.true_or]
        exact ⟨fun y => absurd (eb.mp y) z, fun y => by cases y⟩
end Mist
theorem ff_pow (t : Nat) : ∀ n a, ff (fun _ p => p * t) n 0 a = a * t ^ n
  | 0, a => by show a = a * t ^ 0; rw [Nat.pow_zero, Nat.mul_one]
  | n + 1, a => by rw [ff_succ, ff_pow t n a, Nat.pow_succ, Nat.mul_assoc]
theorem bt_tb : ∀ m, m < 128 → ∀ k, k < 8 → bt (nI m) k = m.testBit k := by decide +kernel
theorem pow_le7 {t n : Nat} (ht : t ≤ 20) (h0 : 0 < t) (hn : n ≤ 7) : t ^ n ≤ 1280000000 :=
  Nat.le_trans (Nat.pow_le_pow_left ht n) (Nat.le_trans (Nat.pow_le_pow_right (by omega) hn) (by decide))
section Asks
variable {M : jm} {S : St} {σ : vl}
def mvl (σ : vl) (w h n t : Nat) (v : Int32) : Int64 := if σ (20 + w) h = 0 then lN (if v = 0 then t ^ sgt σ w h n - 1 else t ^ sgt σ w h n) else lN 1
theorem x_mist (hB : RB (M 1) σ (vH σ)) (hf : wf σ) {w h n t : Nat} (hw : w < vW σ) (hh : h < vH σ) (hn : n ≤ 7) (ht : 2 ≤ t) (ht2 : t ≤ 20) {v : Int32} (hv : v = nI 0 ∨ v = nI 1) : f_X5_mist_j83 M (nI w) (nI h) (nI n) (nI t) v = some (mvl σ w h n t v, M) := by
  have hH := hf.1; have hW := hf.2.1.2.1
  unfold f_X5_mist_j83 mvl
  rw [p_owes hB hf.2.1 (by omega) (by omega), q_jb]
  by_cases z : σ (20 + w) h = 0
  · have hs := sgt_le (σ := σ) w h n
    have hp := pw_pos (show 0 < t by omega) (sgt σ w h n)
    have hp2 := pow_le7 (n := sgt σ w h n) ht2 (by omega) (by omega)
    rw [if_pos z, if_pos z00, p_sightings hB hf.2.1 hw hh (by omega), q_jb, if_pos z, show (1 : Int64) = lN 1 from rfl, show (0 : Int32) = nI 0 from rfl, loop0 (L := fun k (p : Nat) i => f_X5_mist_l115 (nI t) v (nI (sgt σ w h n)) k M (lN p) i) (f := fun _ p => p * t) (K := fun p => if v = 0 then some (lN p - 1, M) else some (lN p, M)) (n := sgt σ w h n)]
    · rw [ff_pow, Nat.one_mul, show (1 : Int64) = lN 1 from rfl, lN_sub hp]
      rcases hv with rfl | rfl <;> rfl
    · intro k p i hi
      rw [f_X5_mist_l115, if_neg (by rw [q_le (by omega) (by omega)]; omega), nI_l (by omega), lN_mul, show nI i + 1 = nI (i + 1) from nI_add i 1]
    · intro k p
      rw [f_X5_mist_l115, if_pos (by rw [q_le (by omega) (by omega)]; omega)]
    · omega
  · rw [if_neg z, if_neg z10, if_neg z]; rfl
theorem gcd_next (x : Nat) : Nat.gcd x (x + 1) = 1 := by
  have h1 : Nat.gcd x (x + 1) ∣ 1 := (Nat.dvd_add_right (Nat.gcd_dvd_left x (x + 1))).mp (Nat.gcd_dvd_right x (x + 1))
  exact Nat.dvd_one.mp h1
theorem m_mistPart {w h n t : Nat} (hn : n ≤ 7) (ht : 2 ≤ t) (ht2 : t ≤ 20) {v : Int32} (hv : v = nI 0 ∨ v = nI 1) : f_X6_partOf (lN (sA σ w h t n (2 ^ n))) (lN (t ^ n)) v = some (mvl σ w h n t v) := by
  have hA := sA_eq (σ := σ) (w := w) (h := h) (t := t) (n := n) (by omega)
  rw [sN_eq (by omega)] at hA
  have hpos := pw_pos (show 0 < t by omega) n
  have hle := pow_le7 (n := n) ht2 (by omega) hn
  unfold mvl
  by_cases z : σ (20 + w) h = 0
  · rw [if_pos z] at hA ⊢
    have hs := sgt_le (σ := σ) w h n
    generalize sgt σ w h n = s at hA hs ⊢
    have hps := pw_pos (show 0 < t by omega) s
    have hpd := pw_pos (show 0 < t by omega) (n - s)
    have epow : t ^ n = t ^ (n - s) * t ^ s := by rw [← Nat.pow_add, show n - s + s = n by omega]
    have eA : sA σ w h t n (2 ^ n) = t ^ (n - s) * (t ^ s - 1) := by
      rw [Nat.mul_sub, Nat.mul_one, ← epow]; omega
    by_cases y : s = 0
    · subst y
      rw [eA, Nat.pow_zero, Nat.sub_self, Nat.mul_zero]
      unfold f_X6_partOf
      rw [if_pos (by rw [lg_cmp_eq]; rfl)]
      rcases hv with rfl | rfl <;> rfl
    · have h2 : 2 ≤ t ^ s := Nat.le_trans ht (by
        have := Nat.pow_le_pow_right (show 0 < t by omega) (show 1 ≤ s by omega)
        rwa [Nat.pow_one] at this)
      have hpA : 0 < sA σ w h t n (2 ^ n) := by rw [eA]; exact Nat.mul_pos hpd (by omega)
      rw [m_partOf (by omega) (by omega) hpA, eA, epow]
      have eg : Nat.gcd (t ^ (n - s) * (t ^ s - 1)) (t ^ (n - s) * t ^ s) = t ^ (n - s) := by
        rw [Nat.gcd_mul_left]
        have := gcd_next (t ^ s - 1)
        rw [show t ^ s - 1 + 1 = t ^ s by omega] at this
        rw [this, Nat.mul_one]
      rw [eg, Nat.mul_div_cancel_left _ hpd, Nat.mul_div_cancel_left _ hpd]
  · rw [if_neg z] at hA ⊢
    have eA : sA σ w h t n (2 ^ n) = t ^ n := by omega
    rw [eA, m_partOf (by omega) (by omega) hpos, Nat.gcd_self, Nat.div_self hpos]
    split <;> rfl
theorem mq_mist (hR : RM (M 16) σ) (hf : wg σ) {w h n t : Nat} (hw : w < vW σ) (hh : h < vH σ) (hn : n ≤ 7) (ht : 2 ≤ t) (ht2 : t ≤ 20) {v : Int32} (hv : v = nI 0 ∨ v = nI 1) : ∃ M2, f_X6_mist_l93 (nI w) (nI h) (nI n) (nI t) v 0 10000 M 1 0 = some (mvl σ w h n t v, M2) ∧ RM (M2 16) σ ∧ frT M M2 := by
  have hH := hf.1; have hW := hf.2.1.2.1
  have hpn : 2 ^ n ≤ 2 ^ 7 := Nat.pow_le_pow_right (by omega) hn
  rw [show (1 : Int64) = lN 1 from rfl, show (0 : Int32) = nI 0 from rfl, loop0 (L := fun k (p : Nat) i => f_X6_mist_l93 (nI w) (nI h) (nI n) (nI t) v 0 k M (lN p) i) (f := fun _ p => p * t) (K := fun p => jb (f_X6_think M) fun M_5 => (f_X6_mist_l120 (nI w) (nI h) (nI n) (nI t) v (lN p) 10000 M_5 0 0)) (n := n)]
  · rw [ff_pow, Nat.one_mul]
    obtain ⟨B, b1, b2, b3, b4⟩ := m_think hR
    rw [b1, q_jb]
    refine loopE (L := fun k (a : jm × Int64) i => f_X6_mist_l120 (nI w) (nI h) (nI n) (nI t) v (lN (t ^ n)) k a.1 a.2 i) (P := fun i a => RM (a.1 16) σ ∧ KM (a.1 16 21) σ ∧ frT M a.1 ∧ a.2 = lN (sA σ w h t n i)) (Z := fun r => ∃ M2, r = some (mvl σ w h n t v, M2) ∧ RM (M2 16) σ ∧ frT M M2) (n := 2 ^ n) ?_ ?_ (2 ^ n) 0 10000 (B, 0) (by omega) (by omega) ⟨b2, b3, b4, rfl⟩
    · rintro k ⟨C, u⟩ m hm ⟨p1, p2, p3, p4⟩
      simp only at p1 p2 p3 p4
      subst p4
      simp only [f_X6_mist_l120]
      rw [if_neg (by
        show ¬ bi n ≤ nI m
        rw [bi_eq n (by omega), q_le (by omega) (by omega)]; omega)]
      refine loopE (L := fun k2 (a : jm × Int64) i => f_X6_mist_l134 (f_X6_mist_l120 (nI w) (nI h) (nI n) (nI t) v (lN (t ^ n)) k) (nI w) (nI h) (nI n) (nI t) v (lN (sA σ w h t n m)) (lN (t ^ n)) (nI m) k2 a.1 a.2 i) (P := fun i a => RM (a.1 16) (mvv σ m i) ∧ KM (a.1 16 21) σ ∧ frT M a.1 ∧ a.2 = lN (od t m i)) (Z := fun r => ∃ a' : jm × Int64, r = f_X6_mist_l120 (nI w) (nI h) (nI n) (nI t) v (lN (t ^ n)) k a'.1 a'.2 (nI (m + 1)) ∧ RM (a'.1 16) σ ∧ KM (a'.1 16 21) σ ∧ frT M a'.1 ∧ a'.2 = lN (sA σ w h t n (m + 1))) (n := n) ?_ ?_ n 0 10000 (C, 1) (by omega) (by omega) ⟨p1, p2, p3, rfl⟩
      · rintro k2 ⟨D, x⟩ i hi ⟨q1, q2, q3, q4⟩
        simp only at q1 q2 q3 q4
        subst q4
        obtain ⟨g1, -⟩ := mvv_ok m hf i
        obtain ⟨E, e1, e2, e3⟩ := m_eveningBy q1 g1 (m.testBit i)
        have eb : f_X6_hasBit (nI m) (nI i) = if m.testBit i = true then 1 else 0 := by
          rw [m_hasBit _ (by omega), bt_tb m (by omega) i (by omega)]; rfl
        refine ⟨(E, lN (od t m (i + 1))), ?_, e2, by show KM (E 16 21) σ; rw [fr3_at e3 (by omega)]; exact q2, frT_trans q3 (frT_of (frA_of e3)), rfl⟩
        simp only [f_X6_mist_l134, f_X6_mist_j161]
        rw [if_neg (by rw [q_le (by omega) (by omega)]; omega), eb, e1, q_jb, q_jb, show nI i + 1 = nI (i + 1) from nI_add i 1]
        rw [show od t m (i + 1) = od t m i * if m.testBit i then 1 else t - 1 from rfl]
        cases m.testBit i
        · rw [if_pos (by rfl), show (1 : Int32) = nI 1 from rfl, pk_sub (by omega), nI_l (by omega), lN_mul]; rfl
        · rw [if_neg (by decide), show (1 : Int64) = lN 1 from rfl, lN_mul]; rfl
      · rintro k2 ⟨D, x⟩ ⟨q1, q2, q3, q4⟩
        simp only at q1 q2 q3 q4
        subst q4
        obtain ⟨g1, -, -, g4⟩ := mvv_ok m hf n
        obtain ⟨E, e1, e2, e3⟩ := m_again q2 hf
        have g4 := g4 w h hw hh
        have gd := g1.2.1.2.2.2.2 w h
        have v9 : D 16 9 (7 * w + h) = nI (mvv σ m n (20 + w) h) := q1.2.2.2.2.2 w (by omega) h (by omega)
        refine ⟨(E, lN (sA σ w h t n (m + 1))), ?_, e2, by show KM (E 16 21) σ; rw [frA_21 e3]; exact q2, frT_trans q3 (frT_of e3), rfl⟩
        have es : sA σ w h t n (m + 1) = sA σ w h t n m + if os σ w h m n then od t m n else 0 := rfl
        simp only [f_X6_mist_l134, f_X6_mist_j203]
        rw [if_pos (by rw [q_le (by omega) (by omega)]; omega), idx7, q_gd (by omega) (by omega), q_cl (by omega), e1, q_jb, q_jb, es, show nI m + 1 = nI (m + 1) from nI_add m 1]
        by_cases z : mvv σ m n (20 + w) h = 0
        · rw [if_pos (by rw [v9, z]; decide), g4.mp z, show (0 : Int64) = lN 0 from rfl, lN_add]; rfl
        · have o : os σ w h m n = true := by
            cases q : os σ w h m n
            · exact absurd (g4.mpr q) z
            · rfl
          rw [if_neg (by rw [v9, show (0 : Int32) = nI 0 from rfl, q_le (by omega) (by omega)]; omega), o, lN_add]; rfl
    · rintro k ⟨C, u⟩ ⟨p1, p2, p3, p4⟩
      simp only at p1 p2 p3 p4
      subst p4
      refine ⟨C, ?_, p1, p3⟩
      simp only [f_X6_mist_l120]
      rw [if_pos (by
        show bi n ≤ nI (2 ^ n)
        rw [bi_eq n (by omega), q_le (by omega) (by omega)]; omega), m_mistPart hn ht ht2 hv, q_jb]
  · intro k p i hi
    rw [f_X6_mist_l93, if_neg (by rw [q_le (by omega) (by omega)]; omega), nI_l (by omega), lN_mul, show nI i + 1 = nI (i + 1) from nI_add i 1]
  · intro k p
    rw [f_X6_mist_l93, if_pos (by rw [q_le (by omega) (by omega)]; omega)]
  · omega
theorem ok_mist (hJ : JJ M S) (a b c d e : Int32) : OK (f_X5_mist M a b c d e) (fun M1 => f_X6_mist M1 a b c d e) := by
  obtain ⟨h0, h5, hB⟩ := J_C hJ; have hf := J_f hJ; have hH := hf.1; have hW := hf.2.1.2.1
  have rf : ∀ k, k < 7 → k ≠ 0 → f_X5_mist M a b c d e = (jb2 (f_X5_refuseLong M (-nI k)) fun r M_2 => (some (r, M_2))) → (∀ M1 : jm, M1 16 = M 16 → ∃ x, f_X6_mist M1 a b c d e = f_X6_mist_j57 (ju M1 16 11 0 0) a b c d e x ∧ f_X6_wrongBit x e 1 = -nI k) → OK (f_X5_mist M a b c d e) (fun M1 => f_X6_mist M1 a b c d e) := by
    intro k hk hk0 ha hb
    refine OK_refg (fun r => 4000000000000000000 - r.toInt64) (k := k) hk hJ ?_ (fun M1 e16 _ => ?_)
    · rw [ha]
      unfold f_X5_refuseLong
      rw [x_refuse hk]; rfl
    · show f_X6_mist M1 a b c d e = _
      obtain ⟨x, h1, h2⟩ := hb M1 e16
      rw [h1]
      unfold f_X6_mist_j57
      rw [h2, if_neg (by
        rw [show (0 : Int32) = nI 0 from rfl]
        exact q_neg_le (by omega) (by omega) (by omega))]
  by_cases c1 : okv (vW (sv S)) a = true
  · by_cases c2 : okv (vH (sv S)) b = true
    · have rx : f_X5_mist M a b c d e = (if c < 0 then (jb2 (f_X5_refuseLong M (-4)) fun r4 M_4 => (some (r4, M_4))) else (if 2 ≤ d then (if 7 < c then (jb2 (f_X5_refuseLong M (-6)) fun r5 M_5 => (some (r5, M_5))) else (if d ≤ 20 then (if e = 0 then (f_X5_mist_j83 M a b c d e) else (if e = 1 then (f_X5_mist_j83 M a b c d e) else (jb2 (f_X5_refuseLong M (-2)) fun r10 M_10 => (some (r10, M_10))))) else (jb2 (f_X5_refuseLong M (-6)) fun r11 M_11 => (some (r11, M_11))))) else (jb2 (f_X5_refuseLong M (-4)) fun r12 M_12 => (some (r12, M_12))))) := by
        unfold f_X5_mist
        rw [show f_X4_hasWalker M 1 a = nI 1 from by rw [p_hasW h5, if_pos c1], if_neg z10]
        rw [show f_X4_hasHouse M 1 b = nI 1 from by rw [p_hasH h0, if_pos c2], if_neg z10]
      have ry : ∀ M1 : jm, RM (ju M1 16 11 0 0 16) (sv S) → f_X6_mist M1 a b c d e = (if c < 0 then (f_X6_mist_j33 (ju M1 16 11 0 0) a b c d e) else (if 2 ≤ d then (if 7 < c then (f_X6_mist_j53 (ju M1 16 11 0 0) a b c d e) else (if d ≤ 20 then (f_X6_mist_j57 (ju M1 16 11 0 0) a b c d e 0) else (f_X6_mist_j53 (ju M1 16 11 0 0) a b c d e))) else (f_X6_mist_j33 (ju M1 16 11 0 0) a b c d e))) := fun M1 hR => by
        unfold f_X6_mist
        rw [m_wrongBoth hR (wg_of hf), if_pos (show okv (vW (sv S)) a = true ∧ okv (vH (sv S)) b = true from ⟨c1, c2⟩), if_pos (show (0 : Int32) ≤ nI 0 from n0)]
      by_cases d1 : c < 0
      · exact rf 4 (by omega) (by omega) (by rw [rx, if_pos d1]; rfl) (fun M1 e16 => ⟨-4, by rw [ry M1 (J_R hJ e16), if_pos d1]; rfl, by rw [wb_no (by decide)]; rfl⟩)
      · by_cases d2 : (2 : Int32) ≤ d
        · by_cases d3 : (7 : Int32) < c
          · exact rf 6 (by omega) (by omega) (by rw [rx, if_neg d1, if_pos d2, if_pos d3]; rfl) (fun M1 e16 => ⟨-6, by rw [ry M1 (J_R hJ e16), if_neg d1, if_pos d2, if_pos d3]; rfl, by rw [wb_no (by decide)]; rfl⟩)
          · by_cases d4 : d ≤ 20
            · by_cases c5 : okv 2 e = true
              · have hv : e = nI 0 ∨ e = nI 1 := by
                  obtain ⟨j, hj, rfl⟩ := okv_ex (by omega) c5
                  rcases (show j = 0 ∨ j = 1 by omega) with rfl | rfl
                  · exact Or.inl rfl
                  · exact Or.inr rfl
                obtain ⟨w, hw, rfl⟩ := okv_ex (by omega) c1
                obtain ⟨h, hh, rfl⟩ := okv_ex (by omega) c2
                obtain ⟨n, hn, rfl⟩ : ∃ n, n ≤ 7 ∧ c = nI n := by
                  rcases rng c 7 (by omega) (c := (7 : Int32)) rfl with ⟨q, _⟩ | ⟨_, _, q, _⟩ | q
                  · exact absurd q d1
                  · exact absurd q d3
                  · exact q
                obtain ⟨t, ht, ht2, rfl⟩ : ∃ t, 2 ≤ t ∧ t ≤ 20 ∧ d = nI t := by
                  rcases rng d 20 (by omega) (c := (20 : Int32)) rfl with ⟨q, _⟩ | ⟨_, _, _, q⟩ | ⟨t, q, rfl⟩
                  · exact absurd d2 (fun z => by
                      rw [Int32.lt_iff_toInt_lt] at q
                      rw [Int32.le_iff_toInt_le] at z
                      have e0 : (0 : Int32).toInt = 0 := rfl
                      have e1 : (2 : Int32).toInt = 2 := rfl
                      omega)
                  · exact absurd d4 q
                  · refine ⟨t, ?_, q, rfl⟩
                    rw [show (2 : Int32) = nI 2 from rfl, q_le (by omega) (by omega)] at d2; exact d2
                refine OK_q hJ (M1 := M) (r := mvl (sv S) w h n t e) ?_ (frC_refl M) (fun hR hg => ?_)
                · rw [rx, if_neg d1, if_pos d2, if_neg d3, if_pos d4, x_mist hB hf hw hh hn ht ht2 hv]
                  rcases hv with rfl | rfl <;> rfl
                · show ∃ M2, f_X6_mist M _ _ _ _ _ = _ ∧ _
                  obtain ⟨C, g1, g2, g3⟩ := mq_mist (M := ju M 16 11 0 0) (RM_ct hR) hg hw hh hn ht ht2 hv
                  refine ⟨C, ?_, g2, frK_trans (frK_ct M) (frK_of g3)⟩
                  rw [ry M (RM_ct hR), if_neg d1, if_pos d2, if_neg d3, if_pos d4]
                  unfold f_X6_mist_j57
                  rw [wb_0 2 (by omega) (by decide), if_pos c5, if_pos n0]
                  exact g1
              · have nn : ∀ j, j < 2 → ¬ e = nI j := fun j hj => okv_ne (by omega) c5 hj
                exact rf 2 (by omega) (by omega) (by rw [rx, if_neg d1, if_pos d2, if_neg d3, if_pos d4, if_neg (show ¬ e = (0 : Int32) from nn 0 (by omega)), if_neg (show ¬ e = (1 : Int32) from nn 1 (by omega))]; rfl) (fun M1 e16 => ⟨0, by rw [ry M1 (J_R hJ e16), if_neg d1, if_pos d2, if_neg d3, if_pos d4], by rw [wb_0 2 (by omega) (by decide), if_neg c5]; rfl⟩)
            · exact rf 6 (by omega) (by omega) (by rw [rx, if_neg d1, if_pos d2, if_neg d3, if_neg d4]; rfl) (fun M1 e16 => ⟨-6, by rw [ry M1 (J_R hJ e16), if_neg d1, if_pos d2, if_neg d3, if_neg d4]; rfl, by rw [wb_no (by decide)]; rfl⟩)
        · exact rf 4 (by omega) (by omega) (by rw [rx, if_neg d1, if_neg d2]; rfl) (fun M1 e16 => ⟨-4, by rw [ry M1 (J_R hJ e16), if_neg d1, if_neg d2]; rfl, by rw [wb_no (by decide)]; rfl⟩)
    · exact rf 1 (by omega) (by omega) (by
        unfold f_X5_mist
        rw [show f_X4_hasWalker M 1 a = nI 1 from by rw [p_hasW h5, if_pos c1], if_neg z10]
        rw [show f_X4_hasHouse M 1 b = nI 0 from by rw [p_hasH h0, if_neg c2], if_pos z00]; rfl) (fun M1 e16 => ⟨-1, by
        unfold f_X6_mist
        rw [m_wb2 (J_R hJ e16) (wg_of hf) c2, if_neg n1], by rw [wb_no (by decide)]; rfl⟩)
  · exact rf 1 (by omega) (by omega) (by
      unfold f_X5_mist
      rw [show f_X4_hasWalker M 1 a = nI 0 from by rw [p_hasW h5, if_neg c1], if_pos z00]; rfl) (fun M1 e16 => ⟨-1, by
      unfold f_X6_mist
      rw [m_wb1 (J_R hJ e16) (wg_of hf) c1, if_neg n1], by rw [wb_no (by decide)]; rfl⟩)
end Asks

/-! letters: what a statement is, on both sides -/
def dg (c : Nat) : Nat := if c = 104 then 4 else if c = 119 then 5 else if c = 108 then 1 else if c = 103 then 3 else if c = 111 then 2 else if c = 101 then 2 else 0
theorem dg_le (c : Nat) : dg c ≤ 5 := by
  unfold dg
  repeat' split
  all_goals omega
theorem p_digitsBehind : ∀ c, c < 256 → f_X1_digitsBehind (nI c) = nI (dg c) := by decide +kernel
theorem m_isLetter : ∀ c, c < 256 → f_X6_isLetter (nI c) = if dg c = 0 then nI 0 else nI 1 := by decide +kernel
theorem m_inDig : ∀ c, c < 256 → f_X6_in (Int32.toInt64 (nI c)) 48 57 = if 48 ≤ c ∧ c ≤ 57 then nI 1 else nI 0 := by decide +kernel
theorem dg_cases {c : Nat} (h : dg c ≠ 0) : (c = 104 ∧ dg c = 4) ∨ (c = 119 ∧ dg c = 5) ∨ (c = 108 ∧ dg c = 1) ∨ (c = 103 ∧ dg c = 3) ∨ (c = 111 ∧ dg c = 2) ∨ (c = 101 ∧ dg c = 2) := by
  unfold dg at h ⊢
  by_cases c1 : c = 104
  · subst c1; left; exact ⟨rfl, rfl⟩
  by_cases c2 : c = 119
  · subst c2; right; left; exact ⟨rfl, rfl⟩
  by_cases c3 : c = 108
  · subst c3; right; right; left; exact ⟨rfl, rfl⟩
  by_cases c4 : c = 103
  · subst c4; right; right; right; left; exact ⟨rfl, rfl⟩
  by_cases c5 : c = 111
  · subst c5; right; right; right; right; left; exact ⟨rfl, rfl⟩
  by_cases c6 : c = 101
  · subst c6; right; right; right; right; right; exact ⟨rfl, rfl⟩
  rw [if_neg c1, if_neg c2, if_neg c3, if_neg c4, if_neg c5, if_neg c6] at h
  exact absurd rfl h
section Let
variable (s : Nat → Nat) (len : Nat)
def isd (q : Nat) : Bool := decide (q < len ∧ 48 ≤ s q ∧ s q ≤ 57)
/-- so many digits from q: the place behind the last one read, and whether all were there -/
def ld : Nat → Nat → Nat × Bool
  | 0, q => (q, true)
  | n + 1, q => if isd s len q then ld n (q + 1) else (q, false)
/-- the statement at p: the place behind it, or the first letter with which it can't go on -/
def sc (p : Nat) : Nat × Bool := if p < len ∧ dg (s p) ≠ 0 then (if (ld s len (dg (s p)) (p + 1)).2 then (if (ld s len (dg (s p)) (p + 1)).1 < len ∧ s (ld s len (dg (s p)) (p + 1)).1 = 59 then ((ld s len (dg (s p)) (p + 1)).1 + 1, true) else ((ld s len (dg (s p)) (p + 1)).1, false)) else ld s len (dg (s p)) (p + 1)) else (p, false)
def pc : Nat → Nat
  | 0 => 0
  | j + 1 => (sc s len (pc j)).1
end Let
section Let2
variable {s : Nat → Nat} {len : Nat}
theorem ld_ok : ∀ n q, (ld s len n q).2 = true → (ld s len n q).1 = q + n ∧ ∀ j, j < n → isd s len (q + j) = true
  | 0, q, _ => ⟨rfl, fun j hj => by omega⟩
  | n + 1, q, h => by
    unfold ld at h ⊢
    split at h
    · rename_i c
      obtain ⟨h1, h2⟩ := ld_ok n (q + 1) h
      rw [if_pos c]
      refine ⟨by omega, fun j hj => ?_⟩
      by_cases e : j = 0
      · subst e; exact c
      · have := h2 (j - 1) (by omega)
        rwa [show q + 1 + (j - 1) = q + j by omega] at this
    · cases h
theorem ld_le : ∀ n q, q ≤ len → q ≤ (ld s len n q).1 ∧ (ld s len n q).1 ≤ len
  | 0, q, h => ⟨Nat.le_refl q, h⟩
  | n + 1, q, h => by
    unfold ld
    split
    · rename_i c
      have c' : q < len := by unfold isd at c; simp only [decide_eq_true_eq] at c; exact c.1
      have := ld_le n (q + 1) (by omega)
      omega
    · exact ⟨Nat.le_refl q, h⟩
theorem ld_app (a b q : Nat) : ld s len (a + b) q = if (ld s len a q).2 then ld s len b (ld s len a q).1 else ld s len a q := by
  induction a generalizing q with
  | zero => rw [Nat.zero_add]; rfl
  | succ a ih =>
    rw [show a + 1 + b = (a + b) + 1 by omega]
    have e : ∀ m, ld s len (m + 1) q = if isd s len q then ld s len m (q + 1) else (q, false) := fun m => rfl
    rw [e, e]
    by_cases c : isd s len q = true
    · rw [if_pos c, if_pos c]; exact ih (q + 1)
    · rw [if_neg c, if_neg c, if_neg (show ¬ (q, false).2 = true from fun z => Bool.noConfusion z)]
theorem sc_le {p : Nat} (hp : p ≤ len) : p ≤ (sc s len p).1 ∧ (sc s len p).1 ≤ len := by
  unfold sc
  by_cases c : p < len ∧ dg (s p) ≠ 0
  · rw [if_pos c]
    have := ld_le (s := s) (len := len) (dg (s p)) (p + 1) (by omega)
    by_cases c2 : (ld s len (dg (s p)) (p + 1)).2 = true
    · rw [if_pos c2]
      by_cases c3 : (ld s len (dg (s p)) (p + 1)).1 < len ∧ s (ld s len (dg (s p)) (p + 1)).1 = 59
      · rw [if_pos c3]
        show p ≤ _ + 1 ∧ _ + 1 ≤ len
        omega
      · rw [if_neg c3]
        show p ≤ (ld s len (dg (s p)) (p + 1)).1 ∧ (ld s len (dg (s p)) (p + 1)).1 ≤ len
        omega
    · rw [if_neg c2]; omega
  · rw [if_neg c]; exact ⟨Nat.le_refl p, hp⟩
/-- a statement that is one -/
theorem sc_ok {p : Nat} (h : (sc s len p).2 = true) : p < len ∧ dg (s p) ≠ 0 ∧ (sc s len p).1 = p + dg (s p) + 2 ∧ p + dg (s p) + 1 < len ∧ s (p + dg (s p) + 1) = 59 ∧ ∀ j, j < dg (s p) → isd s len (p + 1 + j) = true := by
  unfold sc at h ⊢
  by_cases c : p < len ∧ dg (s p) ≠ 0
  · rw [if_pos c] at h ⊢
    by_cases c2 : (ld s len (dg (s p)) (p + 1)).2 = true
    · rw [if_pos c2] at h ⊢
      obtain ⟨h1, h2⟩ := ld_ok _ _ c2
      by_cases c3 : (ld s len (dg (s p)) (p + 1)).1 < len ∧ s (ld s len (dg (s p)) (p + 1)).1 = 59
      · rw [if_pos c3]
        rw [h1] at c3 ⊢
        rw [show p + 1 + dg (s p) = p + dg (s p) + 1 by omega] at c3 ⊢
        exact ⟨c.1, c.2, rfl, c3.1, c3.2, h2⟩
      · rw [if_neg c3] at h; cases h
    · rw [if_neg c2] at h; exact absurd h c2
  · rw [if_neg c] at h; cases h
theorem pc_ge : ∀ k, (∀ j, j < k → (sc s len (pc s len j)).2 = true) → pc s len k ≤ len ∧ 3 * k ≤ pc s len k
  | 0, _ => ⟨Nat.zero_le _, Nat.zero_le _⟩
  | k + 1, h => by
    have h1 := pc_ge k (fun j hj => h j (by omega))
    have h2 := sc_ok (h k (by omega))
    have h3 := sc_le (s := s) (len := len) (p := pc s len k) h1.1
    show (sc s len (pc s len k)).1 ≤ len ∧ 3 * (k + 1) ≤ (sc s len (pc s len k)).1
    omega
/-- how many statements there are ahead of the end or of the first fault -/
theorem pc_stop (hl : len ≤ 96) : ∃ N, N ≤ 32 ∧ (∀ j, j < N → pc s len j < len ∧ (sc s len (pc s len j)).2 = true) ∧ pc s len N ≤ len ∧ ((0 < N ∧ pc s len N = len) ∨ (sc s len (pc s len N)).2 = false) := by
  obtain ⟨N, h1, h2⟩ := pk_least (fun k => ¬ (pc s len k < len ∧ (sc s len (pc s len k)).2 = true)) (by
    apply Classical.byContradiction
    intro hn
    have hall : ∀ k, pc s len k < len ∧ (sc s len (pc s len k)).2 = true := fun k => Classical.byContradiction (fun q => hn ⟨k, q⟩)
    have := pc_ge (s := s) (len := len) 97 (fun j _ => (hall j).2)
    omega)
  have h2 : ∀ j, j < N → pc s len j < len ∧ (sc s len (pc s len j)).2 = true := fun j hj => Classical.byContradiction (h2 j hj)
  have h3 := pc_ge (s := s) (len := len) N (fun j hj => (h2 j hj).2)
  refine ⟨N, by omega, h2, h3.1, ?_⟩
  by_cases c : pc s len N < len
  · right
    cases q : (sc s len (pc s len N)).2
    · rfl
    · exact absurd ⟨c, q⟩ h1
  · by_cases n0 : 0 < N
    · left; exact ⟨n0, by omega⟩
    · right
      cases q : (sc s len (pc s len N)).2
      · rfl
      · exact absurd (sc_ok q).1 (by omega)
end Let2
section X1
variable {s : Nat → Nat} {len : Nat} {M : jm}
theorem x_l6d (h1 : M 13 1 0 = nI len) (h0 : ∀ i, i < len → M 13 0 i = nI (s i)) (hs : ∀ i, i < len → s i < 256) (hl : len ≤ 96) : ∀ n q f, q ≤ len → len - q < f → n ≤ 5 → f_X1_firstMisspelt_l6 M f 1 (nI n) (nI q) = if (ld s len n q).2 then (if (ld s len n q).1 < len ∧ s (ld s len n q).1 = 59 then f_X1_firstMisspelt_l6 M (f - n - 1) 0 0 (nI ((ld s len n q).1 + 1)) else some (nI (ld s len n q).1)) else some (nI (ld s len n q).1) := by
  intro n
  induction n with
  | zero =>
    intro q f hq hf hn
    obtain ⟨f, rfl⟩ : ∃ j, f = j + 1 := ⟨f - 1, by omega⟩
    unfold ld
    rw [if_pos rfl, f_X1_firstMisspelt_l6, h1]
    show _ = (if q < len ∧ s q = 59 then f_X1_firstMisspelt_l6 M (f + 1 - 0 - 1) 0 0 (nI (q + 1)) else some (nI q))
    by_cases c : q < len
    · have hq2 := hs q c
      rw [if_neg (by rw [q_le (by omega) (by omega)]; omega), q_gd (by omega) (by omega), q_cl (by omega), h0 q c, if_neg (by decide), if_pos (by decide), show nI q + 1 = nI (q + 1) from nI_add q 1]
      by_cases c2 : s q = 59
      · rw [if_pos (by rw [c2]; rfl), if_pos ⟨c, c2⟩]; rfl
      · rw [if_neg (by rw [show (59 : Int32) = nI 59 from rfl, q_eq (by omega) (by omega)]; exact c2), if_neg (fun z => c2 z.2)]
    · rw [if_pos (by rw [q_le (by omega) (by omega)]; omega), if_neg (by decide), if_neg (fun z => c z.1), show q = len by omega]
  | succ n ih =>
    intro q f hq hf hn
    obtain ⟨f, rfl⟩ : ∃ j, f = j + 1 := ⟨f - 1, by omega⟩
    unfold ld
    rw [f_X1_firstMisspelt_l6, h1]
    by_cases c : q < len
    · have hq2 := hs q c
      rw [if_neg (by rw [q_le (by omega) (by omega)]; omega), q_gd (by omega) (by omega), q_cl (by omega), h0 q c, if_neg (by decide), if_neg (by rw [show (0 : Int32) = nI 0 from rfl, q_le (by omega) (by omega)]; omega), show nI q + 1 = nI (q + 1) from nI_add q 1, pk_m1 n]
      by_cases c2 : s q < 48
      · rw [if_pos (by rw [show (48 : Int32) = nI 48 from rfl, q_lt (by omega) (by omega)]; exact c2), if_neg (show ¬ isd s len q = true by unfold isd; simp; omega), if_neg (show ¬ (q, false).2 = true from fun z => Bool.noConfusion z)]
      · rw [if_neg (by rw [show (48 : Int32) = nI 48 from rfl, q_lt (by omega) (by omega)]; exact c2)]
        by_cases c3 : s q ≤ 57
        · rw [if_pos (by rw [show (57 : Int32) = nI 57 from rfl, q_le (by omega) (by omega)]; exact c3), if_pos (show isd s len q = true by unfold isd; simp; omega), ih (q + 1) f (by omega) (by omega) (by omega), show f + 1 - (n + 1) - 1 = f - n - 1 by omega]
        · rw [if_neg (by rw [show (57 : Int32) = nI 57 from rfl, q_le (by omega) (by omega)]; exact c3), if_neg (show ¬ isd s len q = true by unfold isd; simp; omega), if_neg (show ¬ (q, false).2 = true from fun z => Bool.noConfusion z)]
    · rw [if_pos (by rw [q_le (by omega) (by omega)]; omega), if_neg (by decide), if_neg (show ¬ isd s len q = true by unfold isd; simp; omega), if_neg (show ¬ (q, false).2 = true from fun z => Bool.noConfusion z), show q = len by omega]
theorem x_l6s (h1 : M 13 1 0 = nI len) (h0 : ∀ i, i < len → M 13 0 i = nI (s i)) (hs : ∀ i, i < len → s i < 256) (hl : len ≤ 96) {p f : Nat} (hp : p < len) (hf : len - p < f) : f_X1_firstMisspelt_l6 M f 0 0 (nI p) = if (sc s len p).2 then f_X1_firstMisspelt_l6 M (f - ((sc s len p).1 - p)) 0 0 (nI (sc s len p).1) else some (nI (sc s len p).1) := by
  obtain ⟨f, rfl⟩ : ∃ j, f = j + 1 := ⟨f - 1, by omega⟩
  have hp2 := hs p hp
  have hd := dg_le (s p)
  rw [f_X1_firstMisspelt_l6, h1, if_neg (by rw [q_le (by omega) (by omega)]; omega), q_gd (by omega) (by omega), q_cl (by omega), h0 p hp, if_pos (by decide), p_digitsBehind _ hp2, show nI p + 1 = nI (p + 1) from nI_add p 1]
  by_cases c : dg (s p) = 0
  · have e : sc s len p = (p, false) := by unfold sc; rw [if_neg (fun z => z.2 c)]
    rw [if_pos (by rw [c]; rfl), e]; rfl
  · rw [if_neg (by rw [show (0 : Int32) = nI 0 from rfl, q_eq (by omega) (by omega)]; exact c), x_l6d h1 h0 hs hl (dg (s p)) (p + 1) f (by omega) (by omega) (by omega)]
    unfold sc
    rw [if_pos (show p < len ∧ dg (s p) ≠ 0 from ⟨hp, c⟩)]
    by_cases c2 : (ld s len (dg (s p)) (p + 1)).2 = true
    · rw [if_pos c2, if_pos c2]
      obtain ⟨e1, -⟩ := ld_ok _ _ c2
      by_cases c3 : (ld s len (dg (s p)) (p + 1)).1 < len ∧ s (ld s len (dg (s p)) (p + 1)).1 = 59
      · rw [if_pos c3, if_pos c3]
        show _ = f_X1_firstMisspelt_l6 M (f + 1 - ((ld s len (dg (s p)) (p + 1)).1 + 1 - p)) 0 0 _
        rw [show f + 1 - ((ld s len (dg (s p)) (p + 1)).1 + 1 - p) = f - dg (s p) - 1 by omega]
      · rw [if_neg c3, if_neg c3]; rfl
    · rw [if_neg c2, if_neg c2, if_neg c2]
/-- the class's first look at the letters -/
theorem x_first (h1 : M 13 1 0 = nI len) (h0 : ∀ i, i < len → M 13 0 i = nI (s i)) (hs : ∀ i, i < len → s i < 256) (hl : len ≤ 96) {N : Nat} (hN : ∀ j, j < N → pc s len j < len ∧ (sc s len (pc s len j)).2 = true) (hp : pc s len N ≤ len) : ((0 < N ∧ pc s len N = len) → f_X1_firstMisspelt M = some (-9)) ∧ ((sc s len (pc s len N)).2 = false → ¬ (0 < N ∧ pc s len N = len) → f_X1_firstMisspelt M = some (nI (sc s len (pc s len N)).1)) := by
  have go : ∀ j, j ≤ N → f_X1_firstMisspelt M = f_X1_firstMisspelt_l6 M (10000 - pc s len j) 0 0 (nI (pc s len j)) := by
    intro j
    induction j with
    | zero => intro _; rfl
    | succ j ih =>
      intro hj
      obtain ⟨g1, g2⟩ := hN j (by omega)
      have g3 := sc_le (s := s) (len := len) (p := pc s len j) (by omega)
      rw [ih (by omega), x_l6s h1 h0 hs hl g1 (by omega), if_pos g2]
      show _ = f_X1_firstMisspelt_l6 M (10000 - (sc s len (pc s len j)).1) 0 0 (nI (sc s len (pc s len j)).1)
      rw [show 10000 - pc s len j - ((sc s len (pc s len j)).1 - pc s len j) = 10000 - (sc s len (pc s len j)).1 by omega]
  have e := go N (Nat.le_refl N)
  have end0 : pc s len N = len → f_X1_firstMisspelt M = if len = 0 then some (nI 0) else some (-9) := by
    intro ep
    obtain ⟨k, hk⟩ : ∃ k, 10000 - pc s len N = k + 1 := ⟨10000 - pc s len N - 1, by omega⟩
    rw [e, hk, f_X1_firstMisspelt_l6, h1, ep, if_pos (by rw [q_le (by omega) (by omega)]; omega), if_pos (by decide)]
    by_cases z : len = 0
    · rw [if_pos (by rw [z]; rfl), if_pos z, z]
    · rw [if_neg (by rw [show (0 : Int32) = nI 0 from rfl, q_eq (by omega) (by omega)]; exact z), if_neg z]
  constructor
  · rintro ⟨n0, ep⟩
    rw [end0 ep, if_neg]
    have := (hN 0 n0).1
    omega
  · intro hb hn
    by_cases ep : pc s len N = len
    · have N0 : N = 0 := by
        rcases Nat.eq_zero_or_pos N with z | z
        · exact z
        · exact absurd ⟨z, ep⟩ hn
      have l0 : len = 0 := by rw [N0] at ep; exact ep.symm
      rw [end0 ep, if_pos l0]
      have : (sc s len (pc s len N)).1 = 0 := by
        unfold sc
        rw [if_neg (fun z => by omega), ep, l0]
      rw [this]
    · rw [e, x_l6s h1 h0 hs hl (by omega) (by omega), if_neg (by rw [hb]; simp)]
end X1

/-! the reference reads a statement -/
section Rd
variable {s : Nat → Nat} {len : Nat}
/-- the number told by so many digits -/
def num (s : Nat → Nat) (n p : Nat) : Nat := if n = 1 then s p - 48 else 10 * (s p - 48) + (s (p + 1) - 48)
def adv (s : Nat → Nat) (len n : Nat) (a : Nat × Bool) : Nat × Bool := if a.2 then ((ld s len n a.1).1, (ld s len n a.1).2) else a
theorem adv_app (a b p : Nat) : adv s len b (adv s len a (p, true)) = adv s len (a + b) (p, true) := by
  unfold adv
  rw [if_pos rfl, if_pos rfl]
  rw [ld_app]
theorem adv_bad (n : Nat) (a : Nat × Bool) (h : a.2 = false) : adv s len n a = a := by unfold adv; rw [h]; rfl
theorem adv_ok {n : Nat} {a : Nat × Bool} (h : (adv s len n a).2 = true) : a.2 = true := by
  cases q : a.2
  · rw [adv_bad n a q, q] at h; cases h
  · rfl
/-- where reading stands: place and whether all is well so far -/
def Pg (s : Nat → Nat) (len : Nat) (B0 B : jm) (k : Nat) (a : Nat × Bool) : Prop := B 16 15 0 = nI a.1 ∧ B 16 16 0 = nI (if a.2 then 0 else 1) ∧ a.1 ≤ len ∧ (∀ o, o ≠ 16 → B o = B0 o) ∧ (∀ f, f ≠ 15 → f ≠ 16 → f ≠ 20 → B 16 f = B0 16 f) ∧ (∀ j, (j < 3 * k ∨ 3 * k + 3 ≤ j) → B 16 20 j = B0 16 20 j) ∧ B0 16 14 0 = nI len ∧ (∀ i, i < len → B0 16 13 i = nI (s i))
theorem Pg_set {B0 B : jm} {k : Nat} {a : Nat × Bool} {p : Nat} {b : Bool} (h : Pg s len B0 B k a) (hp : p ≤ len) {x y : Int32} (hx : x = nI (if b then 0 else 1)) (hy : y = nI p) : Pg s len B0 (ju (ju B 16 16 0 x) 16 15 0 y) k (p, b) ∧ ∀ j, ju (ju B 16 16 0 x) 16 15 0 y 16 20 j = B 16 20 j := by
  obtain ⟨h1, h2, h3, h4, h5, h6, h7, h8⟩ := h
  refine ⟨⟨by rw [ju_self]; exact hy, by rw [ju_g (by omega), ju_self]; exact hx, hp, fun o ho => by rw [ju_ne ho, ju_ne ho, h4 o ho], fun f f1 f2 f3 => by rw [ju_f f1, ju_f f2, h5 f f1 f2 f3], fun j hj => by rw [ju_g (by omega), ju_g (by omega), h6 j hj], h7, h8⟩, fun j => by rw [ju_g (by omega), ju_g (by omega)]⟩
theorem m_here {B0 B : jm} {k : Nat} {a : Nat × Bool} (h : Pg s len B0 B k a) (hl : len ≤ 96) : f_X6_here B = some (if a.1 < len then nI (s a.1) else -1) := by
  obtain ⟨h1, h2, h3, h4, h5, h6, h7, h8⟩ := h
  unfold f_X6_here
  rw [h5 14 (by omega) (by omega) (by omega), h7, h1]
  by_cases c : a.1 < len
  · rw [if_neg (by rw [q_le (by omega) (by omega)]; omega), q_gd (by omega) (by omega), q_cl (by omega), h5 13 (by omega) (by omega) (by omega), h8 _ c, if_pos c]
  · rw [if_pos (by rw [q_le (by omega) (by omega)]; omega), if_neg c]
theorem m_digGood {B0 B : jm} {k kk n i : Nat} {p v : Nat} (h : Pg s len B0 B k (p, true)) (hl : len ≤ 96) (hs : ∀ i, i < len → s i < 256) (hi : i < n) (hn : n < 10) (c : isd s len p = true) (hv : v < 1000) : ∃ B', f_X6_readDigits_l4 (nI n) (kk + 1) B (nI v) (nI i) = f_X6_readDigits_l4 (nI n) kk B' (nI (10 * v + (s p - 48))) (nI (i + 1)) ∧ Pg s len B0 B' k (p + 1, true) ∧ ∀ j, B' 16 20 j = B 16 20 j := by
  have c' : p < len ∧ 48 ≤ s p ∧ s p ≤ 57 := by unfold isd at c; simpa using c
  obtain ⟨q1, q2⟩ := Pg_set (p := p + 1) (b := true) h (by omega) (x := nI 0) (y := nI p + 1) rfl (nI_add p 1)
  refine ⟨_, ?_, q1, q2⟩
  have e1 : B 16 15 0 = nI p := h.1
  have e0 : B 16 16 0 = (0 : Int32) := h.2.1
  have h13 : B 16 13 p = nI (s p) := by rw [h.2.2.2.2.1 13 (by omega) (by omega) (by omega)]; exact h.2.2.2.2.2.2.2 p c'.1
  have f15 : ∀ x, ju B 16 16 0 x 16 15 0 = nI p := fun x => by rw [ju_g (by omega)]; exact e1
  have f13 : ∀ x, ju B 16 16 0 x 16 13 p = nI (s p) := fun x => by rw [ju_g (by omega)]; exact h13
  rw [f_X6_readDigits_l4, if_neg (by rw [q_le (by omega) (by omega)]; omega), if_pos e0, m_here h hl, if_pos c'.1, q_jb, m_inDig _ (hs p c'.1), if_pos c'.2, if_neg z10]
  unfold f_X6_readDigits_j39 f_X6_readDigits_j70 jgb
  rw [if_pos (Or.inl rfl), ju_self, if_pos rfl, f15, q_gd (by omega) (by omega), q_cl (by omega), f13, if_pos rfl, show nI i + 1 = nI (i + 1) from nI_add i 1]
  have ev : 10 * nI v + nI (s p) - 48 = nI (10 * v + (s p - 48)) := by
    rw [show (10 : Int32) = nI 10 from rfl, pk_mul, nI_add, show (48 : Int32) = nI 48 from rfl, pk_sub (by omega), show 10 * v + s p - 48 = 10 * v + (s p - 48) by omega]
  rw [ev]; rfl
theorem m_digBad {B0 B : jm} {k kk n i : Nat} {a : Nat × Bool} {v : Int32} (h : Pg s len B0 B k a) (hl : len ≤ 96) (hs : ∀ i, i < len → s i < 256) (hi : i < n) (hn : n < 10) (c : a.2 = false ∨ isd s len a.1 = false) : ∃ B', f_X6_readDigits_l4 (nI n) (kk + 1) B v (nI i) = f_X6_readDigits_l4 (nI n) kk B' 0 (nI (i + 1)) ∧ Pg s len B0 B' k (a.1, false) ∧ ∀ j, B' 16 20 j = B 16 20 j := by
  obtain ⟨q1, q2⟩ := Pg_set (p := a.1) (b := false) h h.2.2.1 (x := 1) (y := nI a.1 + 0) rfl (Int32.add_zero _)
  refine ⟨_, ?_, q1, q2⟩
  have e1 : B 16 15 0 = nI a.1 := h.1
  have f15 : ∀ x, ju B 16 16 0 x 16 15 0 = nI a.1 := fun x => by rw [ju_g (by omega)]; exact e1
  have tl : f_X6_readDigits_j34 B (f_X6_readDigits_l4 (nI n) kk) (nI n) v (nI i) = f_X6_readDigits_l4 (nI n) kk (ju (ju B 16 16 0 1) 16 15 0 (nI a.1 + 0)) 0 (nI (i + 1)) := by
    unfold f_X6_readDigits_j34 f_X6_readDigits_j39 f_X6_readDigits_j70 jgb
    rw [if_pos (Or.inr rfl), ju_self, if_neg (by decide), if_neg (by decide), f15, show nI i + 1 = nI (i + 1) from nI_add i 1]
  rw [f_X6_readDigits_l4, if_neg (by rw [q_le (by omega) (by omega)]; omega)]
  by_cases z : a.2 = true
  · have c2 : isd s len a.1 = false := by
      rcases c with c | c
      · rw [c] at z; cases z
      · exact c
    have e0 : B 16 16 0 = (0 : Int32) := by rw [h.2.1, z]; rfl
    rw [if_pos e0, m_here h hl, q_jb]
    have ein : f_X6_in (Int32.toInt64 (if a.1 < len then nI (s a.1) else -1)) 48 57 = 0 := by
      by_cases y : a.1 < len
      · rw [if_pos y, m_inDig _ (hs _ y), if_neg]; rfl
        intro w
        have : isd s len a.1 = true := by unfold isd; simp; omega
        rw [c2] at this; cases this
      · rw [if_neg y]; decide
    rw [ein, if_pos rfl]
    exact tl
  · have e0 : ¬ B 16 16 0 = (0 : Int32) := by
      have : a.2 = false := by simpa using z
      rw [h.2.1, this]; decide
    rw [if_neg e0]
    exact tl
theorem m_readDigits {B0 B : jm} {k n : Nat} {a : Nat × Bool} (h : Pg s len B0 B k a) (hl : len ≤ 96) (hs : ∀ i, i < len → s i < 256) (hn : n = 1 ∨ n = 2) : ∃ v B', f_X6_readDigits B (nI n) = some (v, B') ∧ Pg s len B0 B' k (adv s len n a) ∧ (∀ j, B' 16 20 j = B 16 20 j) ∧ ((adv s len n a).2 = true → v = nI (num s n a.1)) := by
  have hend : ∀ (B : jm) (v : Int32), f_X6_readDigits_l4 (nI n) 9990 B v (nI n) = some (v, B) := fun B v => by
    rw [f_X6_readDigits_l4, if_pos (by rw [q_le (by omega) (by omega)]; omega)]
  have hend2 : ∀ (kk : Nat) (B : jm) (v : Int32), f_X6_readDigits_l4 (nI n) (kk + 1) B v (nI n) = some (v, B) := fun kk B v => by
    rw [f_X6_readDigits_l4, if_pos (by rw [q_le (by omega) (by omega)]; omega)]
  -- once it is bad it stays so
  have bad : ∀ d i kk B v a, i + d = n → d < kk → Pg s len B0 B k a → a.2 = false → ∃ v' B', f_X6_readDigits_l4 (nI n) kk B v (nI i) = some (v', B') ∧ Pg s len B0 B' k a ∧ ∀ j, B' 16 20 j = B 16 20 j := by
    intro d
    induction d with
    | zero =>
      intro i kk B v a hi hk hp ha
      obtain ⟨kk, rfl⟩ : ∃ j, kk = j + 1 := ⟨kk - 1, by omega⟩
      have e : i = n := by omega
      subst e
      exact ⟨v, B, hend2 kk B v, hp, fun j => rfl⟩
    | succ d ih =>
      intro i kk B v a hi hk hp ha
      obtain ⟨kk, rfl⟩ : ∃ j, kk = j + 1 := ⟨kk - 1, by omega⟩
      obtain ⟨B1, b1, b2, b3⟩ := m_digBad (kk := kk) (v := v) hp hl hs (show i < n by omega) (by omega) (Or.inl ha)
      have ea : (a.1, false) = a := by rw [← ha]
      rw [ea] at b2
      obtain ⟨v', B2, c1, c2, c3⟩ := ih (i + 1) kk B1 0 a (by omega) (by omega) b2 ha
      exact ⟨v', B2, by rw [b1, c1], c2, fun j => by rw [c3, b3]⟩
  unfold f_X6_readDigits
  rw [show (0 : Int32) = nI 0 from rfl]
  obtain ⟨p, b⟩ := a
  cases b
  · obtain ⟨v', B', c1, c2, c3⟩ := bad n 0 10000 B (nI 0) (p, false) (by omega) (by omega) h rfl
    have ea : adv s len n (p, false) = (p, false) := rfl
    rw [ea]
    exact ⟨v', B', c1, c2, c3, fun q => by cases q⟩
  · have ea : adv s len n (p, true) = ld s len n p := rfl
    have el : ∀ m q, ld s len (m + 1) q = if isd s len q then ld s len m (q + 1) else (q, false) := fun m q => rfl
    rw [ea]
    by_cases c : isd s len p = true
    · obtain ⟨B1, b1, b2, b3⟩ := m_digGood (kk := 9999) (n := n) (i := 0) (v := 0) h hl hs (by omega) (by omega) c (by omega)
      rw [b1]
      rcases hn with rfl | rfl
      · refine ⟨_, B1, hend2 9998 B1 _, ?_, b3, fun _ => ?_⟩
        · rw [el, if_pos c]; exact b2
        · show _ = nI (num s 1 p); unfold num; rw [if_pos rfl, Nat.mul_zero, Nat.zero_add]
      · by_cases c2 : isd s len (p + 1) = true
        · have c' : 48 ≤ s p ∧ s p ≤ 57 := by unfold isd at c; simp at c; omega
          obtain ⟨B2, d1, d2, d3⟩ := m_digGood (kk := 9998) (n := 2) (i := 1) (v := 10 * 0 + (s p - 48)) b2 hl hs (by omega) (by omega) c2 (by omega)
          refine ⟨_, B2, by rw [d1]; exact hend2 9997 B2 _, ?_, fun j => by rw [d3, b3], fun _ => ?_⟩
          · rw [el, if_pos c, el, if_pos c2]; exact d2
          · show _ = nI (num s 2 p); unfold num; rw [if_neg (by omega), Nat.mul_zero, Nat.zero_add]
        · have c3 : isd s len (p + 1) = false := by simpa using c2
          obtain ⟨B2, d1, d2, d3⟩ := m_digBad (kk := 9998) (v := nI (10 * 0 + (s p - 48))) b2 hl hs (show 1 < 2 by omega) (by omega) (Or.inr c3)
          refine ⟨0, B2, by rw [d1]; exact hend2 9997 B2 _, ?_, fun j => by rw [d3, b3], fun q => ?_⟩
          · rw [el, if_pos c, el, if_neg c2]; exact d2
          · rw [el, if_pos c, el, if_neg c2] at q; cases q
    · have c3 : isd s len p = false := by simpa using c
      obtain ⟨B1, b1, b2, b3⟩ := m_digBad (kk := 9999) (v := nI 0) h hl hs (show 0 < n by omega) (by omega) (Or.inr c3)
      obtain ⟨v', B2, d1, d2, d3⟩ := bad (n - 1) 1 9999 B1 0 (p, false) (by omega) (by omega) b2 rfl
      obtain ⟨m, rfl⟩ : ∃ m, n = m + 1 := ⟨n - 1, by omega⟩
      refine ⟨v', B2, by rw [b1]; exact d1, ?_, fun j => by rw [d3, b3], fun q => ?_⟩
      · rw [el, if_neg c]; exact d2
      · rw [el, if_neg c] at q; cases q
/-- read and put down -/
theorem m_rs {B0 B : jm} {k n : Nat} {a : Nat × Bool} (j : Nat) (h : Pg s len B0 B k a) (hl : len ≤ 96) (hs : ∀ i, i < len → s i < 256) (hn : n = 1 ∨ n = 2) (hj : j < 3) : ∃ v B', f_X6_readDigits B (nI n) = some (v, B') ∧ Pg s len B0 (ju B' 16 20 (3 * k + j) v) k (adv s len n a) ∧ ((adv s len n a).2 = true → ju B' 16 20 (3 * k + j) v 16 20 (3 * k + j) = nI (num s n a.1)) ∧ (∀ i, i ≠ 3 * k + j → ju B' 16 20 (3 * k + j) v 16 20 i = B 16 20 i) := by
  obtain ⟨v, B', e1, ⟨h1, h2, h3, h4, h5, h6, h7, h8⟩, e3, e4⟩ := m_readDigits h hl hs hn
  refine ⟨v, B', e1, ⟨by rw [ju_g (by omega)]; exact h1, by rw [ju_g (by omega)]; exact h2, h3, fun o ho => by rw [ju_ne ho, h4 o ho], fun f f1 f2 f3 => by rw [ju_f f3, h5 f f1 f2 f3], fun i hi => ?_, h7, h8⟩, fun q => by rw [ju_self]; exact e4 q, fun i hi => ?_⟩
  · rw [ju_o, if_neg (by omega)]; exact h6 i hi
  · rw [ju_o, if_neg (fun z => hi z.2), e3]
/-- the numbers of a statement, as they are put down -/
def tld (s : Nat → Nat) (B : jm) (k c p : Nat) : Prop := (c = 104 → B 16 20 (3 * k) = nI (num s 1 p) ∧ B 16 20 (3 * k + 1) = nI (num s 1 (p + 1)) ∧ B 16 20 (3 * k + 2) = nI (num s 2 (p + 2))) ∧ (c = 119 → B 16 20 (3 * k) = nI (num s 2 p) ∧ B 16 20 (3 * k + 1) = nI (num s 2 (p + 2)) ∧ B 16 20 (3 * k + 2) = nI (num s 1 (p + 4))) ∧ (c = 108 → B 16 20 (3 * k) = nI (num s 1 p)) ∧ (c = 103 → B 16 20 (3 * k) = nI (num s 1 p) ∧ B 16 20 (3 * k + 1) = nI (num s 2 (p + 1))) ∧ (c = 111 → B 16 20 (3 * k) = nI (num s 1 p) ∧ B 16 20 (3 * k + 1) = nI (num s 1 (p + 1))) ∧ (c = 101 → B 16 20 (3 * k) = nI (num s 2 p))
theorem adv_at {n : Nat} {p : Nat} (h : (adv s len n (p, true)).2 = true) : (adv s len n (p, true)).1 = p + n := (ld_ok (s := s) (len := len) n p h).1
theorem m_readNumbers {B0 B : jm} {k p : Nat} (h : Pg s len B0 B k (p, true)) (hl : len ≤ 96) (hs : ∀ i, i < len → s i < 256) (hk : k < 49) {c : Nat} (hc : dg c ≠ 0) : ∃ B', f_X6_readNumbers B (nI c) (nI (3 * k)) = some B' ∧ Pg s len B0 B' k (adv s len (dg c) (p, true)) ∧ ((adv s len (dg c) (p, true)).2 = true → tld s B' k c p) := by
  have i1 : nI (3 * k) + 1 = nI (3 * k + 1) := nI_add (3 * k) 1
  have i2 : nI (3 * k) + 2 = nI (3 * k + 2) := nI_add (3 * k) 2
  have w1 : (1 : Int32) = nI 1 := rfl
  have w2 : (2 : Int32) = nI 2 := rfl
  rcases dg_cases hc with ⟨rfl, e⟩ | ⟨rfl, e⟩ | ⟨rfl, e⟩ | ⟨rfl, e⟩ | ⟨rfl, e⟩ | ⟨rfl, e⟩
  · obtain ⟨v1, B1, a1, a2, a3, a4⟩ := m_rs (n := 1) 0 h hl hs (Or.inl rfl) (by omega)
    obtain ⟨v2, B2, b1, b2, b3, b4⟩ := m_rs (n := 1) 1 a2 hl hs (Or.inl rfl) (by omega)
    obtain ⟨v3, B3, c1, c2, c3, c4⟩ := m_rs (n := 2) 2 b2 hl hs (Or.inr rfl) (by omega)
    rw [e]
    have e12 : adv s len 1 (adv s len 1 (p, true)) = adv s len 2 (p, true) := adv_app 1 1 p
    have e123 : adv s len 2 (adv s len 1 (adv s len 1 (p, true))) = adv s len 4 (p, true) := by rw [e12]; exact adv_app 2 2 p
    refine ⟨_, ?_, by rw [← e123]; exact c2, fun q => ?_⟩
    · unfold f_X6_readNumbers f_X6_readNumbers_j23
      rw [if_neg (by decide), if_neg (by decide), w1, a1, q_jb2, q_gd (by omega) (by omega), q_cl (by omega), if_pos (by decide)]
      simp only [Nat.add_zero] at b1
      rw [← w1, i1] 
      rw [w1, b1, q_jb2, q_gd (by omega) (by omega), q_cl (by omega), i2, w2, c1, q_jb2, q_gd (by omega) (by omega), q_cl (by omega)]
    · rw [← e123] at q
      have q2 := adv_ok q
      have q1 := adv_ok q2
      refine ⟨fun _ => ⟨?_, ?_, ?_⟩, fun z => by omega, fun z => by omega, fun z => by omega, fun z => by omega, fun z => by omega⟩
      · have := a3 q1
        rw [c4 _ (by omega), b4 _ (by omega)]; exact this
      · have := b3 q2
        rw [adv_at q1] at this
        rw [c4 _ (by omega)]; exact this
      · have := c3 q
        rw [e12] at this q2
        rw [adv_at q2] at this
        exact this
  · obtain ⟨v1, B1, a1, a2, a3, a4⟩ := m_rs (n := 2) 0 h hl hs (Or.inr rfl) (by omega)
    obtain ⟨v2, B2, b1, b2, b3, b4⟩ := m_rs (n := 2) 1 a2 hl hs (Or.inr rfl) (by omega)
    obtain ⟨v3, B3, c1, c2, c3, c4⟩ := m_rs (n := 1) 2 b2 hl hs (Or.inl rfl) (by omega)
    rw [e]
    have e12 : adv s len 2 (adv s len 2 (p, true)) = adv s len 4 (p, true) := adv_app 2 2 p
    have e123 : adv s len 1 (adv s len 2 (adv s len 2 (p, true))) = adv s len 5 (p, true) := by rw [e12]; exact adv_app 4 1 p
    refine ⟨_, ?_, by rw [← e123]; exact c2, fun q => ?_⟩
    · unfold f_X6_readNumbers f_X6_readNumbers_j18 f_X6_readNumbers_j23
      rw [if_pos (by decide), w2, a1, q_jb2, q_gd (by omega) (by omega), q_cl (by omega), if_neg (by decide), if_pos (by decide)]
      simp only [Nat.add_zero] at b1
      rw [b1, q_jb2, i1, q_gd (by omega) (by omega), q_cl (by omega), ← w2, i2, w1, c1, q_jb2, q_gd (by omega) (by omega), q_cl (by omega)]
    · rw [← e123] at q
      have q2 := adv_ok q
      have q1 := adv_ok q2
      refine ⟨fun z => by omega, fun _ => ⟨?_, ?_, ?_⟩, fun z => by omega, fun z => by omega, fun z => by omega, fun z => by omega⟩
      · have := a3 q1
        rw [c4 _ (by omega), b4 _ (by omega)]; exact this
      · have := b3 q2
        rw [adv_at q1] at this
        rw [c4 _ (by omega)]; exact this
      · have := c3 q
        rw [e12] at this q2
        rw [adv_at q2] at this
        exact this
  · obtain ⟨v1, B1, a1, a2, a3, a4⟩ := m_rs (n := 1) 0 h hl hs (Or.inl rfl) (by omega)
    rw [e]
    refine ⟨_, ?_, a2, fun q => ?_⟩
    · unfold f_X6_readNumbers f_X6_readNumbers_j23
      rw [if_neg (by decide), if_neg (by decide), w1, a1, q_jb2, q_gd (by omega) (by omega), q_cl (by omega), if_neg (by decide), if_neg (by decide), if_neg (by decide), if_neg (by decide)]; rfl
    · exact ⟨fun z => by omega, fun z => by omega, fun _ => a3 q, fun z => by omega, fun z => by omega, fun z => by omega⟩
  · obtain ⟨v1, B1, a1, a2, a3, a4⟩ := m_rs (n := 1) 0 h hl hs (Or.inl rfl) (by omega)
    obtain ⟨v2, B2, b1, b2, b3, b4⟩ := m_rs (n := 2) 1 a2 hl hs (Or.inr rfl) (by omega)
    rw [e]
    have e12 : adv s len 2 (adv s len 1 (p, true)) = adv s len 3 (p, true) := adv_app 1 2 p
    refine ⟨_, ?_, by rw [← e12]; exact b2, fun q => ?_⟩
    · unfold f_X6_readNumbers f_X6_readNumbers_j23
      rw [if_neg (by decide), if_neg (by decide), w1, a1, q_jb2, q_gd (by omega) (by omega), q_cl (by omega), if_neg (by decide), if_neg (by decide), if_pos (by decide)]
      simp only [Nat.add_zero] at b1
      rw [w2, b1, q_jb2, ← w1, i1, q_gd (by omega) (by omega), q_cl (by omega)]
    · rw [← e12] at q
      have q1 := adv_ok q
      refine ⟨fun z => by omega, fun z => by omega, fun z => by omega, fun _ => ⟨?_, ?_⟩, fun z => by omega, fun z => by omega⟩
      · have := a3 q1
        rw [b4 _ (by omega)]; exact this
      · have := b3 q
        rw [adv_at q1] at this
        exact this
  · obtain ⟨v1, B1, a1, a2, a3, a4⟩ := m_rs (n := 1) 0 h hl hs (Or.inl rfl) (by omega)
    obtain ⟨v2, B2, b1, b2, b3, b4⟩ := m_rs (n := 1) 1 a2 hl hs (Or.inl rfl) (by omega)
    rw [e]
    have e12 : adv s len 1 (adv s len 1 (p, true)) = adv s len 2 (p, true) := adv_app 1 1 p
    refine ⟨_, ?_, by rw [← e12]; exact b2, fun q => ?_⟩
    · unfold f_X6_readNumbers f_X6_readNumbers_j23
      rw [if_neg (by decide), if_neg (by decide), w1, a1, q_jb2, q_gd (by omega) (by omega), q_cl (by omega), if_neg (by decide), if_neg (by decide), if_neg (by decide), if_pos (by decide)]
      simp only [Nat.add_zero] at b1
      rw [b1, q_jb2, ← w1, i1, q_gd (by omega) (by omega), q_cl (by omega)]
    · rw [← e12] at q
      have q1 := adv_ok q
      refine ⟨fun z => by omega, fun z => by omega, fun z => by omega, fun z => by omega, fun _ => ⟨?_, ?_⟩, fun z => by omega⟩
      · have := a3 q1
        rw [b4 _ (by omega)]; exact this
      · have := b3 q
        rw [adv_at q1] at this
        exact this
  · obtain ⟨v1, B1, a1, a2, a3, a4⟩ := m_rs (n := 2) 0 h hl hs (Or.inr rfl) (by omega)
    rw [e]
    refine ⟨_, ?_, a2, fun q => ?_⟩
    · unfold f_X6_readNumbers f_X6_readNumbers_j18 f_X6_readNumbers_j23
      rw [if_neg (by decide), if_pos (by decide), w2, a1, q_jb2, q_gd (by omega) (by omega), q_cl (by omega), if_neg (by decide), if_neg (by decide), if_neg (by decide), if_neg (by decide)]; rfl
    · exact ⟨fun z => by omega, fun z => by omega, fun z => by omega, fun z => by omega, fun z => by omega, fun _ => a3 q⟩
end Rd

/-! the reference reads all statements -/
section Rs
variable {s : Nat → Nat} {len : Nat}
def Hd (s : Nat → Nat) (len : Nat) (B0 B : jm) (k p : Nat) : Prop := B 16 15 0 = nI p ∧ B 16 16 0 = nI 0 ∧ B 16 17 0 = nI k ∧ p ≤ len ∧ (∀ o, o ≠ 16 → B o = B0 o) ∧ (∀ f, (f < 15 ∨ 20 < f) → B 16 f = B0 16 f) ∧ B0 16 14 0 = nI len ∧ (∀ i, i < len → B0 16 13 i = nI (s i)) ∧ (∀ j, j < k → B 16 18 j = nI (pc s len j) ∧ B 16 19 j = nI (s (pc s len j)) ∧ tld s B j (s (pc s len j)) (pc s len j + 1))
theorem m_j103 {B : jm} {q : Nat} (h : B 16 15 0 = nI q) : ∃ B', f_X6_readStatement_j103 B = some B' ∧ B' 16 15 0 = nI q ∧ B' 16 16 0 = nI 1 ∧ (∀ o, o ≠ 16 → B' o = B o) ∧ (∀ f, f ≠ 15 → f ≠ 16 → f ≠ 17 → B' 16 f = B 16 f) := by
  refine ⟨ju (ju (ju B 16 16 0 1) 16 15 0 (nI q)) 16 17 0 (B 16 17 0 + 1), ?_, by rw [ju_g (by omega), ju_self], by rw [ju_g (by omega), ju_g (by omega), ju_self]; rfl, fun o ho => by rw [ju_ne ho, ju_ne ho, ju_ne ho], fun f f1 f2 f3 => by rw [ju_f f3, ju_f f1, ju_f f2]⟩
  have e1 : ju B 16 16 0 1 16 15 0 + 0 = nI q := by rw [ju_g (by omega), h]; exact Int32.add_zero _
  have e2 : ∀ x y, ju (ju B 16 16 0 x) 16 15 0 y 16 17 0 = B 16 17 0 := fun x y => by rw [ju_g (by omega), ju_g (by omega)]
  unfold f_X6_readStatement_j103 f_X6_readStatement_j108 jgb
  rw [if_pos (Or.inr rfl), ju_self, if_neg (by decide), e1, e2]
theorem m_j108 {B : jm} {q k : Nat} (h : B 16 15 0 = nI q) (hk : B 16 17 0 = nI k) : ∃ B', f_X6_readStatement_j108 B 0 = some B' ∧ B' 16 15 0 = nI (q + 1) ∧ B' 16 16 0 = nI 0 ∧ B' 16 17 0 = nI (k + 1) ∧ (∀ o, o ≠ 16 → B' o = B o) ∧ (∀ f, f ≠ 15 → f ≠ 16 → f ≠ 17 → B' 16 f = B 16 f) := by
  refine ⟨ju (ju (ju B 16 16 0 0) 16 15 0 (nI (q + 1))) 16 17 0 (nI (k + 1)), ?_, by rw [ju_g (by omega), ju_self], by rw [ju_g (by omega), ju_g (by omega), ju_self]; rfl, by rw [ju_self], fun o ho => by rw [ju_ne ho, ju_ne ho, ju_ne ho], fun f f1 f2 f3 => by rw [ju_f f3, ju_f f1, ju_f f2]⟩
  have e1 : ju B 16 16 0 0 16 15 0 + 1 = nI (q + 1) := by rw [ju_g (by omega), h]; exact nI_add q 1
  have e2 : ∀ x y, ju (ju B 16 16 0 x) 16 15 0 y 16 17 0 + 1 = nI (k + 1) := fun x y => by rw [ju_g (by omega), ju_g (by omega), hk]; exact nI_add k 1
  unfold f_X6_readStatement_j108 jgb
  rw [if_pos (Or.inl rfl), ju_self, if_pos rfl, e1, e2]
/-- what reading one statement leaves -/
theorem m_readSt {B0 B : jm} {k p : Nat} (h : Hd s len B0 B k p) (hl : len ≤ 96) (hs : ∀ i, i < len → s i < 256) (hk : k < 49) : ∃ B', f_X6_readStatement B = some B' ∧ B' 16 15 0 = nI (sc s len p).1 ∧ B' 16 16 0 = nI (if (sc s len p).2 then 0 else 1) ∧ (∀ o, o ≠ 16 → B' o = B0 o) ∧ (∀ f, (f < 15 ∨ 20 < f) → B' 16 f = B0 16 f) ∧ ((sc s len p).2 = true → B' 16 17 0 = nI (k + 1) ∧ (∀ j, j < k → B' 16 18 j = B 16 18 j ∧ B' 16 19 j = B 16 19 j) ∧ (∀ i, i < 3 * k → B' 16 20 i = B 16 20 i) ∧ B' 16 18 k = nI p ∧ B' 16 19 k = nI (s p) ∧ tld s B' k (s p) (p + 1)) := by
  obtain ⟨h15, h16, h17, hp, ho, hf, h14, h13, -⟩ := h
  have e14 : B 16 14 0 = nI len := by rw [hf 14 (by omega)]; exact h14
  have ehere : f_X6_here B = some (if p < len then nI (s p) else -1) := by
    unfold f_X6_here
    rw [e14, h15]
    by_cases c : p < len
    · rw [if_neg (by rw [q_le (by omega) (by omega)]; omega), q_gd (by omega) (by omega), q_cl (by omega), hf 13 (by omega), h13 _ c, if_pos c]
    · rw [if_pos (by rw [q_le (by omega) (by omega)]; omega), if_neg c]
  obtain ⟨r1, hr1⟩ : ∃ r, r = (if p < len then nI (s p) else -1) := ⟨_, rfl⟩
  rw [← hr1] at ehere
  obtain ⟨B1, hB1⟩ : ∃ B1, B1 = ju (ju B 16 18 k (nI p)) 16 19 k r1 := ⟨_, rfl⟩
  have o1 : ∀ o, o ≠ 16 → B1 o = B0 o := fun o q => by rw [hB1, ju_ne q, ju_ne q, ho o q]
  have f1 : ∀ f, f ≠ 18 → f ≠ 19 → B1 16 f = B 16 f := fun f q1 q2 => by rw [hB1, ju_f q2, ju_f q1]
  have b18 : ∀ j, B1 16 18 j = if j = k then nI p else B 16 18 j := fun j => by
    rw [hB1, ju_g (by omega), ju_o]
    by_cases z : j = k
    · rw [if_pos ⟨rfl, z⟩, if_pos z]
    · rw [if_neg (fun y => z y.2), if_neg z]
  have b19 : ∀ j, B1 16 19 j = if j = k then r1 else B 16 19 j := fun j => by
    rw [hB1, ju_o]
    by_cases z : j = k
    · rw [if_pos ⟨rfl, z⟩, if_pos z]
    · rw [if_neg (fun y => z y.2), if_neg z, ju_g (by omega)]
  have st : f_X6_readStatement B = (if f_X6_isLetter r1 = 0 then f_X6_readStatement_j42 B1 (nI k) r1 else f_X6_readStatement_j47 B1 (nI k) r1 0) := by
    unfold f_X6_readStatement
    rw [ehere, q_jb, h17, q_gd (by omega) (by omega), q_gd (by omega) (by omega), q_cl (by omega), h15, ← hB1, f1 16 (by omega) (by omega), h16, if_pos (show (nI 0 : Int32) = 0 from rfl)]
  rw [st]
  -- a letter that begins none
  have no : (sc s len p) = (p, false) → ∃ B', f_X6_readStatement_j42 B1 (nI k) r1 = some B' ∧ B' 16 15 0 = nI (sc s len p).1 ∧ B' 16 16 0 = nI (if (sc s len p).2 then 0 else 1) ∧ (∀ o, o ≠ 16 → B' o = B0 o) ∧ (∀ f, (f < 15 ∨ 20 < f) → B' 16 f = B0 16 f) := by
    intro e
    have w15 : ju (ju B1 16 16 0 1) 16 15 0 (nI p + 0) 16 15 0 = nI p := by rw [ju_self]; exact Int32.add_zero _
    obtain ⟨B', c1, c2, c3, c4, c5⟩ := m_j103 w15
    refine ⟨B', ?_, by rw [e]; exact c2, by rw [e]; exact c3, fun o q => by rw [c4 o q, ju_ne q, ju_ne q, o1 o q], fun f q => by rw [c5 f (by omega) (by omega) (by omega), ju_f (by omega), ju_f (by omega), f1 f (by omega) (by omega), hf f q]⟩
    unfold f_X6_readStatement_j42 f_X6_readStatement_j47 jgb
    have e15 : ju B1 16 16 0 1 16 15 0 = nI p := by rw [ju_g (by omega), f1 15 (by omega) (by omega), h15]
    have e16 : ∀ y, ju (ju B1 16 16 0 1) 16 15 0 y 16 16 0 = 1 := fun y => by rw [ju_g (by omega), ju_self]
    rw [if_pos (Or.inr rfl), ju_self, if_neg (by decide), e15]
    unfold f_X6_readStatement_j67 f_X6_readStatement_j86
    rw [e16, if_neg (by decide), if_neg (by decide)]
    exact c1
  by_cases c : p < len
  · have hp2 := hs p c
    have er : r1 = nI (s p) := by rw [hr1, if_pos c]
    rw [er, m_isLetter _ hp2]
    by_cases c2 : dg (s p) = 0
    · have e : sc s len p = (p, false) := by unfold sc; rw [if_neg (fun z => z.2 c2)]
      rw [if_pos c2, if_pos z00, ← er]
      obtain ⟨B', g1, g2, g3, g4, g5⟩ := no e
      exact ⟨B', g1, g2, g3, g4, g5, fun z => by rw [e] at z; cases z⟩
    · rw [if_neg c2, if_neg z10]
      obtain ⟨B3, hB3⟩ : ∃ B3, B3 = ju (ju B1 16 16 0 0) 16 15 0 (nI p + 1) := ⟨_, rfl⟩
      have o3 : ∀ o, o ≠ 16 → B3 o = B0 o := fun o q => by rw [hB3, ju_ne q, ju_ne q, o1 o q]
      have f3 : ∀ f, f ≠ 15 → f ≠ 16 → B3 16 f = B1 16 f := fun f q1 q2 => by rw [hB3, ju_f q1, ju_f q2]
      have pg : Pg s len B3 B3 k (p + 1, true) := ⟨by rw [hB3, ju_self]; exact nI_add p 1, by rw [hB3, ju_g (by omega), ju_self]; rfl, by show p + 1 ≤ len; omega, fun _ _ => rfl, fun _ _ _ _ => rfl, fun _ _ => rfl, by rw [f3 14 (by omega) (by omega), f1 14 (by omega) (by omega)]; exact e14, fun i hi => by rw [f3 13 (by omega) (by omega), f1 13 (by omega) (by omega), hf 13 (by omega)]; exact h13 i hi⟩
      obtain ⟨B4, r1', r2, r3⟩ := m_readNumbers pg hl hs hk (c := s p) c2
      have ea : adv s len (dg (s p)) (p + 1, true) = ld s len (dg (s p)) (p + 1) := rfl
      rw [ea] at r2 r3
      obtain ⟨p15, p16, ple, po, pf, p20, -, -⟩ := id r2
      have j47 : f_X6_readStatement_j47 B1 (nI k) (nI (s p)) 0 = f_X6_readStatement_j86 B4 := by
        unfold f_X6_readStatement_j47 jgb
        have e15 : ju B1 16 16 0 0 16 15 0 = nI p := by rw [ju_g (by omega), f1 15 (by omega) (by omega), h15]
        rw [if_pos (Or.inl rfl), ju_self, if_pos rfl, e15]
        unfold f_X6_readStatement_j67
        rw [← hB3, show B3 16 16 0 = 0 from pg.2.1, if_pos rfl, show (3 : Int32) = nI 3 from rfl, pk_mul, r1', q_jb]
      rw [j47]
      have k17 : B4 16 17 0 = nI k := by rw [pf 17 (by omega) (by omega) (by omega), f3 17 (by omega) (by omega), f1 17 (by omega) (by omega)]; exact h17
      have bad : (sc s len p).2 = false → (sc s len p).1 = (ld s len (dg (s p)) (p + 1)).1 → f_X6_readStatement_j86 B4 = f_X6_readStatement_j103 B4 → ∃ B', f_X6_readStatement_j86 B4 = some B' ∧ B' 16 15 0 = nI (sc s len p).1 ∧ B' 16 16 0 = nI (if (sc s len p).2 then 0 else 1) ∧ (∀ o, o ≠ 16 → B' o = B0 o) ∧ (∀ f, (f < 15 ∨ 20 < f) → B' 16 f = B0 16 f) ∧ ((sc s len p).2 = true → B' 16 17 0 = nI (k + 1) ∧ (∀ j, j < k → B' 16 18 j = B 16 18 j ∧ B' 16 19 j = B 16 19 j) ∧ (∀ i, i < 3 * k → B' 16 20 i = B 16 20 i) ∧ B' 16 18 k = nI p ∧ B' 16 19 k = nI (s p) ∧ tld s B' k (s p) (p + 1)) := by
        intro x1 x2 x3
        obtain ⟨B', c1, c2, c3, c4, c5⟩ := m_j103 p15
        refine ⟨B', by rw [x3, c1], by rw [x2]; exact c2, by rw [x1]; exact c3, fun o q => by rw [c4 o q, po o q, o3 o q], fun f q => by rw [c5 f (by omega) (by omega) (by omega), pf f (by omega) (by omega) (by omega), f3 f (by omega) (by omega), f1 f (by omega) (by omega), hf f q], fun z => by rw [x1] at z; cases z⟩
      by_cases c3 : (ld s len (dg (s p)) (p + 1)).2 = true
      · have h86 : f_X6_readStatement_j86 B4 = (if (if (ld s len (dg (s p)) (p + 1)).1 < len then nI (s (ld s len (dg (s p)) (p + 1)).1) else -1) = 59 then f_X6_readStatement_j108 B4 0 else f_X6_readStatement_j103 B4) := by
          unfold f_X6_readStatement_j86
          rw [p16, c3, if_pos (by rfl), m_here r2 hl, q_jb]
        by_cases c4 : (ld s len (dg (s p)) (p + 1)).1 < len ∧ s (ld s len (dg (s p)) (p + 1)).1 = 59
        · have esc : sc s len p = ((ld s len (dg (s p)) (p + 1)).1 + 1, true) := by
            unfold sc
            rw [if_pos ⟨c, c2⟩, if_pos c3, if_pos c4]
          rw [if_pos c4.1, if_pos (by rw [c4.2]; rfl)] at h86
          obtain ⟨B', g1, g2, g3, g4, g5, g6⟩ := m_j108 p15 k17
          rw [esc]
          refine ⟨B', by rw [h86, g1], g2, g3, fun o q => by rw [g5 o q, po o q, o3 o q], fun f q => by rw [g6 f (by omega) (by omega) (by omega), pf f (by omega) (by omega) (by omega), f3 f (by omega) (by omega), f1 f (by omega) (by omega), hf f q], fun _ => ⟨g4, fun j hj => ⟨?_, ?_⟩, fun i hi => ?_, ?_, ?_, ?_⟩⟩
          · rw [g6 18 (by omega) (by omega) (by omega), pf 18 (by omega) (by omega) (by omega), f3 18 (by omega) (by omega), b18, if_neg (by omega)]
          · rw [g6 19 (by omega) (by omega) (by omega), pf 19 (by omega) (by omega) (by omega), f3 19 (by omega) (by omega), b19, if_neg (by omega)]
          · rw [g6 20 (by omega) (by omega) (by omega), p20 i (Or.inl hi), f3 20 (by omega) (by omega), f1 20 (by omega) (by omega)]
          · rw [g6 18 (by omega) (by omega) (by omega), pf 18 (by omega) (by omega) (by omega), f3 18 (by omega) (by omega), b18, if_pos rfl]
          · rw [g6 19 (by omega) (by omega) (by omega), pf 19 (by omega) (by omega) (by omega), f3 19 (by omega) (by omega), b19, if_pos rfl, er]
          · have := r3 c3
            unfold tld at this ⊢
            rw [g6 20 (by omega) (by omega) (by omega)]
            exact this
        · have esc : sc s len p = ((ld s len (dg (s p)) (p + 1)).1, false) := by
            unfold sc
            rw [if_pos ⟨c, c2⟩, if_pos c3, if_neg c4]
          refine bad (by rw [esc]) (by rw [esc]) ?_
          rw [h86, if_neg]
          by_cases c5 : (ld s len (dg (s p)) (p + 1)).1 < len
          · rw [if_pos c5, show (59 : Int32) = nI 59 from rfl, q_eq (by have := hs _ c5; omega) (by omega)]
            exact fun z => c4 ⟨c5, z⟩
          · rw [if_neg c5]; decide
      · have c3' : (ld s len (dg (s p)) (p + 1)).2 = false := by simpa using c3
        have esc : sc s len p = ld s len (dg (s p)) (p + 1) := by
          unfold sc
          rw [if_pos ⟨c, c2⟩, if_neg c3]
        refine bad (by rw [esc, c3']) (by rw [esc]) ?_
        unfold f_X6_readStatement_j86
        rw [p16, c3', if_neg (by decide)]
  · have e : sc s len p = (p, false) := by unfold sc; rw [if_neg (fun z => c z.1)]
    have er : r1 = -1 := by rw [hr1, if_neg c]
    have il : f_X6_isLetter r1 = 0 := by rw [er]; decide
    rw [il, if_pos rfl]
    obtain ⟨B', g1, g2, g3, g4, g5⟩ := no e
    exact ⟨B', g1, g2, g3, g4, g5, fun z => by rw [e] at z; cases z⟩
theorem tld_congr {B B' : jm} {j c p : Nat} (h : ∀ i, i < 3 * j + 3 → B' 16 20 i = B 16 20 i) (q : tld s B j c p) : tld s B' j c p := by
  unfold tld at q ⊢
  rw [h (3 * j) (by omega), h (3 * j + 1) (by omega), h (3 * j + 2) (by omega)]
  exact q
theorem m_readOk {B0 B : jm} {k : Nat} (h : Hd s len B0 B k (pc s len k)) (hl : len ≤ 96) (hs : ∀ i, i < len → s i < 256) (hk : k < 49) (hok : (sc s len (pc s len k)).2 = true) : ∃ B', f_X6_readStatement B = some B' ∧ Hd s len B0 B' (k + 1) (pc s len (k + 1)) := by
  obtain ⟨B', g1, g2, g3, g4, g5, g6⟩ := m_readSt h hl hs hk
  obtain ⟨a1, a2, a3, a4, a5, a6⟩ := g6 hok
  rw [hok] at g3
  obtain ⟨h15, h16, h17, hp, ho, hf, h14, h13, hj⟩ := h
  refine ⟨B', g1, g2, g3, a1, (sc_le hp).2, g4, g5, h14, h13, fun j hj2 => ?_⟩
  by_cases e : j = k
  · subst e; exact ⟨a4, a5, a6⟩
  · obtain ⟨x1, x2, x3⟩ := hj j (by omega)
    obtain ⟨y1, y2⟩ := a2 j (by omega)
    exact ⟨by rw [y1]; exact x1, by rw [y2]; exact x2, tld_congr (fun i hi => a3 i (by omega)) x3⟩
/-- all of them -/
theorem m_readAll {B0 B : jm} (h : Hd s len B0 B 0 0) (hl : len ≤ 96) (hs : ∀ i, i < len → s i < 256) {N : Nat} (h32 : N ≤ 32) (hN : ∀ j, j < N → pc s len j < len ∧ (sc s len (pc s len j)).2 = true) : ∃ B', f_X6_village_l20 10000 B = f_X6_village_l20 (10000 - N) B' ∧ Hd s len B0 B' N (pc s len N) := by
  have go : ∀ j, j ≤ N → ∃ B', f_X6_village_l20 10000 B = f_X6_village_l20 (10000 - j) B' ∧ Hd s len B0 B' j (pc s len j) := by
    intro j
    induction j with
    | zero => intro _; exact ⟨B, rfl, h⟩
    | succ j ih =>
      intro hj
      obtain ⟨B', b1, b2⟩ := ih (by omega)
      obtain ⟨C, c1, c2⟩ := m_readOk b2 hl hs (by omega) (hN j (by omega)).2
      refine ⟨C, ?_, c2⟩
      have e14 : B' 16 14 0 = nI len := by rw [b2.2.2.2.2.2.1 14 (by omega)]; exact b2.2.2.2.2.2.2.1
      rw [b1, show 10000 - j = (10000 - (j + 1)) + 1 by omega, f_X6_village_l20, b2.2.1, if_pos (show (nI 0 : Int32) = 0 from rfl), b2.2.2.1, c1, q_jb]
      have := (hN j (by omega)).1
      by_cases z : j = 0
      · rw [if_pos (by rw [z]; rfl)]
      · rw [if_neg (by rw [show (0 : Int32) = nI 0 from rfl, q_eq (by omega) (by omega)]; exact z), e14, b2.1, if_neg (by rw [q_le (by omega) (by omega)]; omega)]
  exact go N (Nat.le_refl N)
end Rs

/-! both sides tell a statement -/
section Tell
variable {s : Nat → Nat} {len : Nat} {τ : vl}
theorem num1_lt {q : Nat} (h : isd s len q = true) : num s 1 q < 10 := by
  unfold isd at h
  simp only [decide_eq_true_eq] at h
  unfold num
  rw [if_pos rfl]; omega
theorem num2_lt {q : Nat} (h : isd s len q = true) (h2 : isd s len (q + 1) = true) : num s 2 q < 100 := by
  unfold isd at h h2
  simp only [decide_eq_true_eq] at h h2
  unfold num
  rw [if_neg (by omega)]; omega
theorem x_dig {A : jm} (a1 : A 13 1 0 = nI len) (a0 : ∀ i, i < len → A 13 0 i = nI (s i)) (hl : len ≤ 96) {q : Nat} (h : isd s len q = true) : f_X1_digit A (nI q) = some (nI (num s 1 q)) := by
  unfold isd at h
  simp only [decide_eq_true_eq] at h
  unfold f_X1_digit num
  rw [a1, if_neg (by rw [q_le (by omega) (by omega)]; omega), q_gd (by omega) (by omega), q_cl (by omega), a0 q h.1, if_pos rfl, show (48 : Int32) = nI 48 from rfl, pk_sub (by omega)]
theorem x_pair {A : jm} (a1 : A 13 1 0 = nI len) (a0 : ∀ i, i < len → A 13 0 i = nI (s i)) (hl : len ≤ 96) {q : Nat} (h : isd s len q = true) (h2 : isd s len (q + 1) = true) : f_X1_pair A (nI q) = some (nI (num s 2 q)) := by
  unfold f_X1_pair
  rw [x_dig a1 a0 hl h, q_jb, show nI q + 1 = nI (q + 1) from nI_add q 1, x_dig a1 a0 hl h2, q_jb, show (10 : Int32) = nI 10 from rfl, pk_mul, nI_add]
  rfl
theorem m_in160 : ∀ a, a < 100 → f_X6_in (Int32.toInt64 (nI a)) 1 60 = if 1 ≤ a ∧ a ≤ 60 then nI 1 else nI 0 := by decide +kernel
/-- one and the same statement, on both sides -/
theorem st_step {A B : jm} (hf : wf τ) (hA : RW (A 2) τ) (hB : RM (B 16) τ) (a1 : A 13 1 0 = nI len) (a0 : ∀ i, i < len → A 13 0 i = nI (s i)) (hs : ∀ i, i < len → s i < 256) (hl : len ≤ 96) {p k : Nat} (hk : k < 49) (hok : (sc s len p).2 = true) (t19 : B 16 19 k = nI (s p)) (ht : tld s B k (s p) (p + 1)) : ∃ (r : Int32) (A' B' : jm), f_X1_tellStatement A 2 (nI p) = some (r, A') ∧ f_X6_comesTold B (nI k) = some (r, B') ∧ (∀ o, o ≠ 2 → A' o = A o) ∧ (∀ o, o ≠ 16 → B' o = B o) ∧ (∀ f, 10 < f → B' 16 f = B 16 f) ∧ (r = 0 ∨ (r = 1 ∧ ∃ τ', RW (A' 2) τ' ∧ RM (B' 16) τ' ∧ wf τ')) := by
  have hg := wg_of hf
  have hH := hf.1
  have hW := hf.2.1.2.1
  obtain ⟨o1, o2, -, o4, -, o6⟩ := sc_ok hok
  have sp := a0 p o1
  have hp2 := hs p o1
  have ix0 : (3 : Int32) * nI k = nI (3 * k) := by rw [show (3 : Int32) = nI 3 from rfl, pk_mul]
  have ix1 : nI (3 * k) + 1 = nI (3 * k + 1) := nI_add (3 * k) 1
  have ix2 : nI (3 * k) + 2 = nI (3 * k + 2) := nI_add (3 * k) 2
  have pl1 : ∀ j, nI p + nI j = nI (p + j) := fun j => nI_add p j
  have q1 : nI p + 1 = nI (p + 1) := pl1 1
  have q2 : nI p + 2 = nI (p + 2) := pl1 2
  have q3 : nI p + 3 = nI (p + 3) := pl1 3
  have q5 : nI p + 5 = nI (p + 5) := pl1 5
  have gb : ∀ {α : Type} (c : Prop) [Decidable c] (a : Option α), jgb (if c then nI 1 else nI 0) a = a := by
    intro α c _ a
    unfold jgb
    rw [if_pos]
    split
    · exact Or.inr rfl
    · exact Or.inl rfl
  have gb0 : ∀ {α : Type} (a : Option α), jgb (0 : Int32) a = a := fun a => if_pos (Or.inl rfl)
  have gb1 : ∀ {α : Type} (a : Option α), jgb (1 : Int32) a = a := fun a => if_pos (Or.inr rfl)
  -- the head of both
  have hx : f_X1_tellStatement A 2 (nI p) = (if nI (s p) = 101 then (jb (f_X1_pair A (nI (p + 1))) fun r1 => (jb2 (f_X4_pass A 2 r1) fun r2 M_2 => (jgb r2 (some (r2, M_2))))) else (if nI (s p) = 103 then (jb (f_X1_digit A (nI (p + 1))) fun r3 => (jb (f_X1_pair A (nI (p + 2))) fun r4 => (jb2 (f_X4_aim A 2 r3 r4) fun r5 M_5 => (jgb r5 (some (r5, M_5)))))) else (if nI (s p) = 104 then (jb (f_X1_digit A (nI (p + 1))) fun r6 => (jb (f_X1_digit A (nI (p + 2))) fun r7 => (jb (f_X1_pair A (nI (p + 3))) fun r8 => (jb2 (f_X4_addHouse A 2 r6 r7 r8) fun r9 M_9 => (jgb r9 (some (r9, M_9))))))) else (if nI (s p) = 108 then (jb (f_X1_digit A (nI (p + 1))) fun r10 => (jb2 (f_X4_turn A 2 r10) fun r11 M_11 => (jgb r11 (some (r11, M_11))))) else (if nI (s p) = 111 then (jb (f_X1_digit A (nI (p + 1))) fun r12 => (jb (f_X1_digit A (nI (p + 2))) fun r13 => (jb2 (f_X4_addDebt A 2 r12 r13) fun r14 M_14 => (jgb r14 (some (r14, M_14)))))) else (if nI (s p) = 119 then (jb (f_X1_pair A (nI (p + 1))) fun r15 => (jb (f_X1_pair A (nI (p + 3))) fun r16 => (jb (f_X1_digit A (nI (p + 5))) fun r17 => (jb2 (f_X4_addWalker A 2 r15 r16 r17) fun r18 M_18 => (jgb r18 (some (r18, M_18))))))) else (some (0, A)))))))) := by
    unfold f_X1_tellStatement
    rw [q_gd (by omega) (by omega), q_cl (by omega), sp, q1, q2, q3, q5]
  have dig : ∀ j, j < dg (s p) → isd s len (p + 1 + j) = true := o6
  unfold tld at ht
  obtain ⟨th, tw, tl, tg, to_, te⟩ := ht
  have hy : ∀ X : Option (Int32 × jm), f_X6_comesTold B (nI k) = X ↔ f_X6_comesTold B (nI k) = X := fun _ => Iff.rfl
  rcases dg_cases o2 with ⟨e, ed⟩ | ⟨e, ed⟩ | ⟨e, ed⟩ | ⟨e, ed⟩ | ⟨e, ed⟩ | ⟨e, ed⟩
  · -- h
    obtain ⟨u1, u2, u3⟩ := th e
    have d1 : isd s len (p + 1) = true := dig 0 (by omega)
    have d2 : isd s len (p + 2) = true := dig 1 (by omega)
    have d3 : isd s len (p + 3) = true := dig 2 (by omega)
    have d4 : isd s len (p + 4) = true := dig 3 (by omega)
    have n1 := num1_lt d1
    have n2 := num1_lt d2
    have n3 := num2_lt d3 d4
    obtain ⟨A', x1, x2, x3⟩ := p_addHouse hA hf (k := num s 1 (p + 1)) (f := num s 1 (p + 2)) (c := num s 2 (p + 3)) (by omega) (by omega) (by omega)
    obtain ⟨B', y1, y2, y3, y4⟩ := m_houseComes hB hg (k := num s 1 (p + 1)) (f := num s 1 (p + 2)) (c := num s 2 (p + 3)) (by omega) (by omega)
    have ec : (num s 1 (p + 1) < 6 ∧ num s 1 (p + 2) < 10 ∧ num s 2 (p + 3) < 49 ∧ vH τ < 7) ↔ (num s 1 (p + 1) < 6 ∧ num s 2 (p + 3) < 49 ∧ vH τ < 7) := ⟨fun z => ⟨z.1, z.2.2⟩, fun z => ⟨z.1, n2, z.2⟩⟩
    simp only [ec] at x1 x3
    refine ⟨if num s 1 (p + 1) < 6 ∧ num s 2 (p + 3) < 49 ∧ vH τ < 7 then nI 1 else nI 0, A', B', ?_, ?_, x2, y2, fun f hf2 => y3 f (by omega), ?_⟩
    · rw [hx, e, if_neg (by decide), if_neg (by decide), if_pos (by decide), x_dig a1 a0 hl d1, q_jb, x_dig a1 a0 hl d2, q_jb, x_pair a1 a0 hl d3 d4, q_jb, x1, q_jb2, gb]
    · unfold f_X6_comesTold
      rw [ix0, ix1, ix2, q_gd (by omega) (by omega), q_gd (by omega) (by omega), q_gd (by omega) (by omega), q_gd (by omega) (by omega), q_cl (by omega), q_cl (by omega), q_cl (by omega), q_cl (by omega), t19, e, u1, u2, u3, if_neg (by decide), if_pos (by decide), y1, q_jb2, gb]
    · by_cases z : num s 1 (p + 1) < 6 ∧ num s 2 (p + 3) < 49 ∧ vH τ < 7
      · rw [if_pos z] at x3 y4 ⊢
        exact Or.inr ⟨rfl, _, x3, y4, wf_addH hf z.2.2 z.1 n2 z.2.1⟩
      · rw [if_neg z]; exact Or.inl rfl
  · -- w
    obtain ⟨u1, u2, u3⟩ := tw e
    have d1 : isd s len (p + 1) = true := dig 0 (by omega)
    have d2 : isd s len (p + 2) = true := dig 1 (by omega)
    have d3 : isd s len (p + 3) = true := dig 2 (by omega)
    have d4 : isd s len (p + 4) = true := dig 3 (by omega)
    have d5 : isd s len (p + 5) = true := dig 4 (by omega)
    have n1 := num2_lt d1 d2
    have n2 := num2_lt d3 d4
    have n3 := num1_lt d5
    obtain ⟨A', x1, x2, x3⟩ := p_addWalker hA hf (a := num s 2 (p + 1)) (g := num s 2 (p + 3)) (s := num s 1 (p + 5)) (by omega) (by omega) (by omega)
    obtain ⟨B', y1, y2, y3, y4⟩ := m_walkerComes hB hg (a := num s 2 (p + 1)) (g := num s 2 (p + 3)) (s := num s 1 (p + 5)) (by omega) (by omega) (by omega)
    refine ⟨if num s 2 (p + 1) < 49 ∧ num s 2 (p + 3) < 49 ∧ num s 1 (p + 5) ≤ 2 ∧ vW τ < 6 then nI 1 else nI 0, A', B', ?_, ?_, x2, y2, fun f hf2 => y3 f (by omega), ?_⟩
    · rw [hx, e, if_neg (by decide), if_neg (by decide), if_neg (by decide), if_neg (by decide), if_neg (by decide), if_pos (by decide), x_pair a1 a0 hl d1 d2, q_jb, x_pair a1 a0 hl d3 d4, q_jb, x_dig a1 a0 hl d5, q_jb, x1, q_jb2, gb]
    · unfold f_X6_comesTold
      rw [ix0, ix1, ix2, q_gd (by omega) (by omega), q_gd (by omega) (by omega), q_gd (by omega) (by omega), q_gd (by omega) (by omega), q_cl (by omega), q_cl (by omega), q_cl (by omega), q_cl (by omega), t19, e, u1, u2, u3, if_neg (by decide), if_neg (by decide), if_neg (by decide), if_neg (by decide), if_pos (by decide), y1, q_jb2, gb]
    · by_cases z : num s 2 (p + 1) < 49 ∧ num s 2 (p + 3) < 49 ∧ num s 1 (p + 5) ≤ 2 ∧ vW τ < 6
      · rw [if_pos z] at x3 y4 ⊢
        exact Or.inr ⟨rfl, _, x3, y4, wf_addW hf z.2.2.2 z.1 z.2.1 z.2.2.1⟩
      · rw [if_neg z]; exact Or.inl rfl
  · -- l
    have u1 := tl e
    have d1 : isd s len (p + 1) = true := dig 0 (by omega)
    have n1 := num1_lt d1
    obtain ⟨A', x1, x2, x3⟩ := p_turn hA hf (h := num s 1 (p + 1)) (by omega)
    have tx : f_X1_tellStatement A 2 (nI p) = some (if num s 1 (p + 1) < vH τ then nI 1 else nI 0, A') := by
      rw [hx, e, if_neg (by decide), if_neg (by decide), if_neg (by decide), if_pos (by decide), x_dig a1 a0 hl d1, q_jb, x1, q_jb2, gb]
    have ty : f_X6_comesTold B (nI k) = (if f_X6_isHouse B (nI (num s 1 (p + 1))) = 0 then (jgb (f_X6_isHouse B (nI (num s 1 (p + 1)))) (some ((f_X6_isHouse B (nI (num s 1 (p + 1)))), B))) else (jgd (nI (num s 1 (p + 1))) 8 (jgd (nI (num s 1 (p + 1))) 8 (jgb (f_X6_isHouse B (nI (num s 1 (p + 1)))) (some ((f_X6_isHouse B (nI (num s 1 (p + 1)))), (ju B 16 4 (Int32.toNatClampNeg (nI (num s 1 (p + 1)))) (1 - (B 16 4 (Int32.toNatClampNeg (nI (num s 1 (p + 1)))))))))))) ) := by
      unfold f_X6_comesTold
      rw [ix0, ix1, ix2, q_gd (by omega) (by omega), q_gd (by omega) (by omega), q_gd (by omega) (by omega), q_gd (by omega) (by omega), q_cl (by omega), q_cl (by omega), t19, e, u1, if_neg (by decide), if_neg (by decide), if_pos (by decide)]
    rw [m_isHouse hB hg] at ty
    by_cases z : num s 1 (p + 1) < vH τ
    · rw [if_pos z] at tx x3
      have h4 := (hf.2.1.2.2.1 _ z).2.2.2
      have v4 : B 16 4 (num s 1 (p + 1)) = nI (τ 4 (num s 1 (p + 1))) := (hB.2.2.2.1 _ z).2.2.2
      have r4 := RM_house hB (F := 4) (h := num s 1 (p + 1)) (x := 1 - τ 4 (num s 1 (p + 1))) (by omega)
      refine ⟨_, A', _, tx, ?_, x2, fun o q => ?_, fun f q => ?_, Or.inr ⟨rfl, turnH τ (num s 1 (p + 1)), x3, r4, wf_turn hf⟩⟩
      · rw [ty, if_pos ((okv_nI (by omega) (by omega)).mpr z), if_neg z10, q_gd (by omega) (by omega), q_cl (by omega), v4, show (nI 1 : Int32) = 1 from rfl, gb1, show (1 : Int32) - nI (τ 4 (num s 1 (p + 1))) = nI (1 - τ 4 (num s 1 (p + 1))) from pk_sub h4, q_gd (by omega) (by omega)]
      · rw [ju_ne q]
      · rw [ju_f (by omega)]
    · rw [if_neg z] at tx
      refine ⟨_, A', B, tx, ?_, x2, fun _ _ => rfl, fun _ _ => rfl, Or.inl rfl⟩
      rw [ty, if_neg (fun y => z ((okv_nI (by omega) (by omega)).mp y)), if_pos z00, show (nI 0 : Int32) = 0 from rfl, gb0]
  · -- g
    obtain ⟨u1, u2⟩ := tg e
    have d1 : isd s len (p + 1) = true := dig 0 (by omega)
    have d2 : isd s len (p + 2) = true := dig 1 (by omega)
    have d3 : isd s len (p + 3) = true := dig 2 (by omega)
    have n1 := num1_lt d1
    have n2 := num2_lt d2 d3
    obtain ⟨A', x1, x2, x3⟩ := p_aim hA hf (w := num s 1 (p + 1)) (c := num s 2 (p + 2)) (by omega) (by omega)
    have tx : f_X1_tellStatement A 2 (nI p) = some (if num s 1 (p + 1) < vW τ ∧ num s 2 (p + 2) < 49 then nI 1 else nI 0, A') := by
      rw [hx, e, if_neg (by decide), if_pos (by decide), x_dig a1 a0 hl d1, q_jb, x_pair a1 a0 hl d2 d3, q_jb, x1, q_jb2, gb]
    have ty : f_X6_comesTold B (nI k) = (if f_X6_isWalker B (nI (num s 1 (p + 1))) = 0 then some (0, B) else if f_X6_isCell (nI (num s 2 (p + 2))) = 0 then some (0, B) else jgd (nI (num s 1 (p + 1))) 6 (some (1, ju B 16 7 (Int32.toNatClampNeg (nI (num s 1 (p + 1)))) (nI (num s 2 (p + 2)))))) := by
      unfold f_X6_comesTold f_X6_comesTold_j158 f_X6_comesTold_j159
      rw [ix0, ix1, ix2, q_gd (by omega) (by omega), q_gd (by omega) (by omega), q_gd (by omega) (by omega), q_gd (by omega) (by omega), q_cl (by omega), q_cl (by omega), q_cl (by omega), t19, e, u1, u2, if_pos (by decide), if_pos rfl, if_neg (show ¬ (1 : Int32) = 0 by decide), gb0, gb1]
    rw [m_isWalker hB hg, m_isCell] at ty
    by_cases z : num s 1 (p + 1) < vW τ ∧ num s 2 (p + 2) < 49
    · rw [if_pos z] at tx x3
      refine ⟨_, A', ju B 16 7 (num s 1 (p + 1)) (nI (num s 2 (p + 2))), tx, ?_, x2, fun o q => ju_ne q, fun f q => ju_f (by omega), Or.inr ⟨rfl, _, x3, RM_goal hB, wf_aim hf z.2⟩⟩
      rw [ty, if_pos ((okv_nI (by omega) (by omega)).mpr z.1), if_neg z10, if_pos ((okv_nI (by omega) (by omega)).mpr z.2), if_neg z10, q_gd (by omega) (by omega), q_cl (by omega)]; rfl
    · rw [if_neg z] at tx
      refine ⟨_, A', B, tx, ?_, x2, fun _ _ => rfl, fun _ _ => rfl, Or.inl rfl⟩
      rw [ty]
      by_cases z1 : num s 1 (p + 1) < vW τ
      · rw [if_pos ((okv_nI (by omega) (by omega)).mpr z1), if_neg z10, if_neg (fun y => z ⟨z1, (okv_nI (by omega) (by omega)).mp y⟩), if_pos z00]; rfl
      · rw [if_neg (fun y => z1 ((okv_nI (by omega) (by omega)).mp y)), if_pos z00]; rfl
  · -- o
    obtain ⟨u1, u2⟩ := to_ e
    have u2 : B 16 20 (3 * k + 1) = nI (num s 1 (p + 2)) := u2
    have d1 : isd s len (p + 1) = true := dig 0 (by omega)
    have d2 : isd s len (p + 2) = true := dig 1 (by omega)
    have n1 := num1_lt d1
    have n2 := num1_lt d2
    obtain ⟨A', x1, x2, x3⟩ := p_addDebt hA hf (w := num s 1 (p + 1)) (h := num s 1 (p + 2)) (by omega) (by omega)
    have tx : f_X1_tellStatement A 2 (nI p) = some (if num s 1 (p + 1) < vW τ ∧ num s 1 (p + 2) < vH τ then nI 1 else nI 0, A') := by
      rw [hx, e, if_neg (by decide), if_neg (by decide), if_neg (by decide), if_neg (by decide), if_pos (by decide), x_dig a1 a0 hl d1, q_jb, x_dig a1 a0 hl d2, q_jb, x1, q_jb2, gb]
    have ty : f_X6_comesTold B (nI k) = (if f_X6_isWalker B (nI (num s 1 (p + 1))) = 0 then some (0, B) else if f_X6_isHouse B (nI (num s 1 (p + 2))) = 0 then some (0, B) else jgd (nI (7 * num s 1 (p + 1) + num s 1 (p + 2))) 42 (if B 16 9 (7 * num s 1 (p + 1) + num s 1 (p + 2)) = 0 then (jgd (nI (7 * num s 1 (p + 1) + num s 1 (p + 2))) 42 (some (1, ju B 16 9 (7 * num s 1 (p + 1) + num s 1 (p + 2)) 1))) else some (1, B))) := by
      unfold f_X6_comesTold f_X6_comesTold_j196 f_X6_comesTold_j197
      rw [ix0, ix1, ix2, q_gd (by omega) (by omega), q_gd (by omega) (by omega), q_gd (by omega) (by omega), q_gd (by omega) (by omega), q_cl (by omega), q_cl (by omega), q_cl (by omega), t19, e, u1, u2, if_neg (by decide), if_neg (by decide), if_neg (by decide), if_pos (by decide), if_pos rfl, if_neg (show ¬ (1 : Int32) = 0 by decide), gb0, gb1, gb1, idx7, q_cl (by omega)]
    rw [m_isWalker hB hg, m_isHouse hB hg] at ty
    by_cases z : num s 1 (p + 1) < vW τ ∧ num s 1 (p + 2) < vH τ
    · rw [if_pos z] at tx x3
      have v9 : B 16 9 (7 * num s 1 (p + 1) + num s 1 (p + 2)) = nI (τ (20 + num s 1 (p + 1)) (num s 1 (p + 2))) := hB.2.2.2.2.2 _ (by omega) _ (by omega)
      have hd := hf.2.1.2.2.2.2 (num s 1 (p + 1)) (num s 1 (p + 2))
      rw [if_pos ((okv_nI (by omega) (by omega)).mpr z.1), if_neg z10, if_pos ((okv_nI (by omega) (by omega)).mpr z.2), if_neg z10, q_gd (by omega) (by omega)] at ty
      by_cases y : τ (20 + num s 1 (p + 1)) (num s 1 (p + 2)) = 0
      · rw [if_pos y] at x3
        refine ⟨_, A', ju B 16 9 (7 * num s 1 (p + 1) + num s 1 (p + 2)) 1, tx, ?_, x2, fun o q => ju_ne q, fun f q => ju_f (by omega), Or.inr ⟨rfl, _, x3, RM_debt hB (by omega), wf_debt hf z.1 z.2 (by omega)⟩⟩
        rw [ty, if_pos (by rw [v9, y]; rfl), q_gd (by omega) (by omega)]; rfl
      · rw [if_neg y] at x3
        refine ⟨_, A', B, tx, ?_, x2, fun _ _ => rfl, fun _ _ => rfl, Or.inr ⟨rfl, τ, x3, hB, hf⟩⟩
        rw [ty, if_neg (by rw [v9, show (0 : Int32) = nI 0 from rfl, q_eq (by omega) (by omega)]; exact y)]; rfl
    · rw [if_neg z] at tx
      refine ⟨_, A', B, tx, ?_, x2, fun _ _ => rfl, fun _ _ => rfl, Or.inl rfl⟩
      rw [ty]
      by_cases z1 : num s 1 (p + 1) < vW τ
      · rw [if_pos ((okv_nI (by omega) (by omega)).mpr z1), if_neg z10, if_neg (fun y => z ⟨z1, (okv_nI (by omega) (by omega)).mp y⟩), if_pos z00]; rfl
      · rw [if_neg (fun y => z1 ((okv_nI (by omega) (by omega)).mp y)), if_pos z00]; rfl
  · -- e
    have u1 := te e
    have d1 : isd s len (p + 1) = true := dig 0 (by omega)
    have d2 : isd s len (p + 2) = true := dig 1 (by omega)
    have n1 := num2_lt d1 d2
    have h999 := hf.2.2.2
    obtain ⟨A', x1, x2, x3⟩ := p_pass hA hf (n := num s 2 (p + 1)) (by omega)
    have tx : f_X1_tellStatement A 2 (nI p) = some (if 1 ≤ num s 2 (p + 1) ∧ num s 2 (p + 1) ≤ 60 ∧ τ 10 0 + num s 2 (p + 1) ≤ 999 then nI 1 else nI 0, A') := by
      rw [hx, e, if_pos (by decide), x_pair a1 a0 hl d1 d2, q_jb, x1, q_jb2, gb]
    have ty : f_X6_comesTold B (nI k) = (if f_X6_in (Int32.toInt64 (nI (num s 2 (p + 1)))) 1 60 = 0 then some (0, B) else if 999 < B 16 10 0 + nI (num s 2 (p + 1)) then some (0, B) else jb (f_X6_goEvenings B (nI (num s 2 (p + 1)))) fun M_14 => some (1, M_14)) := by
      unfold f_X6_comesTold f_X6_comesTold_j261 f_X6_comesTold_j262
      rw [ix0, ix1, ix2, q_gd (by omega) (by omega), q_gd (by omega) (by omega), q_gd (by omega) (by omega), q_gd (by omega) (by omega), q_cl (by omega), q_cl (by omega), t19, e, u1, if_neg (by decide), if_neg (by decide), if_neg (by decide), if_neg (by decide), if_neg (by decide), if_pos rfl, if_neg (show ¬ (1 : Int32) = 0 by decide), gb0]
      simp only [gb1]
    rw [m_in160 _ n1, hB.2.2.1, nI_add] at ty
    by_cases z : 1 ≤ num s 2 (p + 1) ∧ num s 2 (p + 1) ≤ 60
    · rw [if_pos z, if_neg z10] at ty
      by_cases y : τ 10 0 + num s 2 (p + 1) ≤ 999
      · rw [if_pos ⟨z.1, z.2, y⟩] at tx x3
        obtain ⟨B', y1, y2, y3⟩ := m_goEvenings hB hg (n := num s 2 (p + 1)) (by omega)
        refine ⟨_, A', B', tx, ?_, x2, y3.1, fun f q => y3.2 f (by omega) (by omega) (by omega), Or.inr ⟨rfl, _, x3, y2, wf_ev hf y⟩⟩
        rw [ty, if_neg (by rw [show (999 : Int32) = nI 999 from rfl, q_lt (by omega) (by omega)]; omega), y1, q_jb]; rfl
      · rw [if_neg (fun q => y q.2.2)] at tx
        refine ⟨_, A', B, tx, ?_, x2, fun _ _ => rfl, fun _ _ => rfl, Or.inl rfl⟩
        rw [ty, if_pos (by rw [show (999 : Int32) = nI 999 from rfl, q_lt (by omega) (by omega)]; omega)]; rfl
    · rw [if_neg (fun q => z ⟨q.1, q.2.1⟩)] at tx
      refine ⟨_, A', B, tx, ?_, x2, fun _ _ => rfl, fun _ _ => rfl, Or.inl rfl⟩
      rw [ty, if_neg z, if_pos z00]; rfl
end Tell

/-! both sides tell all statements -/
theorem ju_oc {X Y : jm} {o p f i : Nat} {x : Int32} (h : X o = Y o) : ju X p f i x o = ju Y p f i x o := by
  funext g k
  unfold ju
  rw [h]
theorem ju_fc {X Y : jm} {o p f i g : Nat} {x : Int32} (h : X o g = Y o g) : ju X p f i x o g = ju Y p f i x o g := by
  funext k
  unfold ju
  rw [h]
theorem neg2k : ∀ x, x < 97 → ¬ (0 : Int32) ≤ (-2000) - nI x := by decide +kernel
theorem neg1k : ∀ x, x < 97 → ¬ (0 : Int32) ≤ (-1000) - nI x := by decide +kernel
section Vt
variable {s : Nat → Nat} {len : Nat} {σ : vl}
theorem t_scan {A : jm} (a1 : A 13 1 0 = nI len) (a0 : ∀ i, i < len → A 13 0 i = nI (s i)) (hs : ∀ i, i < len → s i < 256) (hl : len ≤ 96) {p : Nat} (hok : (sc s len p).2 = true) {f : Nat} (hf : dg (s p) + 1 < f) (v : Int32) : f_X1_tell_l25 2 f A v (nI p) (nI p) = jb2 (f_X1_tellStatement A 2 (nI p)) fun r M => if r = 0 then some ((-2000) - nI p, M) else f_X1_tell_l25 2 (f - (dg (s p) + 2)) M (v + 1) (nI (sc s len p).1) (nI (sc s len p).1) := by
  obtain ⟨o1, o2, o3, o4, o5, o6⟩ := sc_ok hok
  have hd := dg_le (s p)
  have go : ∀ i, i ≤ dg (s p) + 1 → f_X1_tell_l25 2 f A v (nI p) (nI p) = f_X1_tell_l25 2 (f - i) A v (nI p) (nI (p + i)) := by
    intro i
    induction i with
    | zero => intro _; rfl
    | succ i ih =>
      intro hi
      have hne : s (p + i) ≠ 59 := by
        by_cases z : i = 0
        · rw [z, Nat.add_zero]
          intro e
          apply o2
          rw [e]; rfl
        · have := o6 (i - 1) (by omega)
          unfold isd at this
          simp only [decide_eq_true_eq] at this
          rw [show p + 1 + (i - 1) = p + i by omega] at this
          omega
      have h256 := hs (p + i) (by omega)
      rw [ih (by omega), show f - i = (f - (i + 1)) + 1 by omega, f_X1_tell_l25, a1, if_neg (by rw [q_le (by omega) (by omega)]; omega), q_gd (by omega) (by omega), q_cl (by omega), a0 _ (by omega), if_neg (by rw [show (59 : Int32) = nI 59 from rfl, q_eq (by omega) (by omega)]; exact hne), show nI (p + i) + 1 = nI (p + (i + 1)) from nI_add (p + i) 1]
  rw [go _ (Nat.le_refl _), show f - (dg (s p) + 1) = (f - (dg (s p) + 2)) + 1 by omega, f_X1_tell_l25, a1, if_neg (by rw [q_le (by omega) (by omega)]; omega), q_gd (by omega) (by omega), q_cl (by omega), show p + (dg (s p) + 1) = p + dg (s p) + 1 by omega, a0 _ o4, if_pos (by rw [o5]; rfl), show nI (p + dg (s p) + 1) + 1 = nI (p + dg (s p) + 2) from nI_add (p + dg (s p) + 1) 1, o3]
/-- both loops side by side -/
theorem t_all (hs : ∀ i, i < len → s i < 256) (hl : len ≤ 96) {N : Nat} (h32 : N ≤ 32) (hN : ∀ j, j < N → pc s len j < len ∧ (sc s len (pc s len j)).2 = true) (hend : pc s len N = len) (hg : wg σ) : ∀ d j, j + d = N → ∀ (A B : jm) (τ : vl), wf τ → RW (A 2) τ → RM (B 16) τ → A 13 1 0 = nI len → (∀ i, i < len → A 13 0 i = nI (s i)) → B 16 17 0 = nI N → (∀ i, i < N → B 16 18 i = nI (pc s len i) ∧ B 16 19 i = nI (s (pc s len i)) ∧ tld s B i (s (pc s len i)) (pc s len i + 1)) → KM (B 16 21) σ → ∃ (r : Int32) (A' B' : jm), f_X1_tell_l25 2 (10000 - pc s len j) A (nI j) (nI (pc s len j)) (nI (pc s len j)) = some (r, A') ∧ f_X6_village_l79 (10000 - j) B (nI j) = some (r, B') ∧ (∀ o, o ≠ 2 → A' o = A o) ∧ (∀ o, o ≠ 16 → B' o = B o) ∧ ((r = nI N ∧ ∃ (τ' : vl) (C : jm), RW (A' 2) τ' ∧ wf τ' ∧ RM (C 16) τ' ∧ (∀ o, o ≠ 16 → C o = B o) ∧ (∀ f, kp f → C 16 f = B 16 f) ∧ B' = ju C 16 29 0 (nI 0)) ∨ (¬ 0 ≤ r ∧ RM (B' 16) σ ∧ ∀ f, kp f → B' 16 f = B 16 f)) := by
  intro d
  induction d with
  | zero =>
    intro j hj A B τ hf hA hB a1 a0 b17 bs hK
    have hjN : j = N := by omega
    refine ⟨nI N, A, ju B 16 29 0 (nI 0), ?_, ?_, fun _ _ => rfl, fun o ho => ju_ne ho, Or.inl ⟨rfl, τ, B, hA, hf, hB, fun _ _ => rfl, fun _ _ => rfl, rfl⟩⟩
    · rw [hjN, hend, show 10000 - len = (9999 - len) + 1 by omega, f_X1_tell_l25, a1, if_pos ((q_le (by omega) (by omega)).mpr (Nat.le_refl _))]
    · rw [hjN, show 10000 - N = (9999 - N) + 1 by omega, f_X6_village_l79, b17, if_pos ((q_le (by omega) (by omega)).mpr (Nat.le_refl _)), ju_g (by omega), b17]; rfl
  | succ d ih =>
    intro j hj A B τ hf hA hB a1 a0 b17 bs hK
    have hjN : j < N := by omega
    obtain ⟨p1, p2⟩ := hN j hjN
    obtain ⟨x1, x2, x3⟩ := bs j hjN
    obtain ⟨r, A1, B1, c1, c2, c3, c4, c5, c6⟩ := st_step hf hA hB a1 a0 hs hl (p := pc s len j) (k := j) (by omega) p2 x2 x3
    have hd := dg_le (s (pc s len j))
    have e9 : 10000 - pc s len j - (dg (s (pc s len j)) + 2) = 10000 - pc s len (j + 1) := by
      show _ = 10000 - (sc s len (pc s len j)).1
      have := (sc_ok p2).2.2.1
      omega
    have ec : f_X1_tell_l25 2 (10000 - pc s len j) A (nI j) (nI (pc s len j)) (nI (pc s len j)) = (if r = 0 then some ((-2000) - nI (pc s len j), A1) else f_X1_tell_l25 2 (10000 - pc s len (j + 1)) A1 (nI (j + 1)) (nI (pc s len (j + 1))) (nI (pc s len (j + 1)))) := by
      rw [t_scan a1 a0 hs hl p2 (by omega), c1, q_jb2, show nI j + 1 = nI (j + 1) from nI_add j 1, e9]
      rfl
    have er : f_X6_village_l79 (10000 - j) B (nI j) = (if r = 0 then (jb (f_X6_again B1) fun M_6 => (jgd (nI j) 49 (some (((-2000) - (M_6 16 18 (Int32.toNatClampNeg (nI j)))), M_6)))) else f_X6_village_l79 (10000 - (j + 1)) B1 (nI (j + 1))) := by
      rw [show 10000 - j = (10000 - (j + 1)) + 1 by omega, f_X6_village_l79, b17, if_neg (by rw [q_le (by omega) (by omega)]; omega), c2, q_jb2, show nI j + 1 = nI (j + 1) from nI_add j 1]
    have hK1 : KM (B1 16 21) σ := by rw [c5 21 (by omega)]; exact hK
    rcases c6 with e0 | ⟨e1, τ', d1, d2, d3⟩
    · obtain ⟨B2, g1, g2, g3⟩ := m_again hK1 hg
      have e18 : B2 16 18 j = nI (pc s len j) := by rw [g3.2 18 (by omega) (by omega) (by omega) (by omega), c5 18 (by omega)]; exact x1
      refine ⟨(-2000) - nI (pc s len j), A1, B2, by rw [ec, if_pos e0], ?_, c3, fun o ho => by rw [g3.1 o ho, c4 o ho], Or.inr ⟨neg2k _ (by omega), g2, fun f hf2 => ?_⟩⟩
      · rw [er, if_pos e0, g1, q_jb, q_gd (by omega) (by omega), q_cl (by omega), e18]
      · unfold kp at hf2
        rw [g3.2 f (by omega) (by omega) (by omega) (by omega), c5 f (by omega)]
    · have n0' : ¬ r = 0 := by rw [e1]; decide
      obtain ⟨r2, A2, B2, i1, i2, i3, i4, i5⟩ := ih (j + 1) (by omega) A1 B1 τ' d3 d1 d2 (by rw [c3 13 (by omega)]; exact a1) (fun i hi => by rw [c3 13 (by omega)]; exact a0 i hi) (by rw [c5 17 (by omega)]; exact b17) (fun i hi => by
        obtain ⟨y1, y2, y3⟩ := bs i hi
        exact ⟨by rw [c5 18 (by omega)]; exact y1, by rw [c5 19 (by omega)]; exact y2, tld_congr (fun q _ => by rw [c5 20 (by omega)]) y3⟩) hK1
      have kk : ∀ f, kp f → B1 16 f = B 16 f := fun f hf2 => by unfold kp at hf2; exact c5 f (by omega)
      refine ⟨r2, A2, B2, by rw [ec, if_neg n0', i1], by rw [er, if_neg n0', i2], fun o ho => by rw [i3 o ho, c3 o ho], fun o ho => by rw [i4 o ho, c4 o ho], ?_⟩
      rcases i5 with ⟨q1, τ2, C, q2, q3, q4, q5, q6, q7⟩ | ⟨q1, q2, q3⟩
      · exact Or.inl ⟨q1, τ2, C, q2, q3, q4, fun o ho => by rw [q5 o ho, c4 o ho], fun f hf2 => by rw [q6 f hf2, kk f hf2], q7⟩
      · exact Or.inr ⟨q1, q2, fun f hf2 => by rw [q3 f hf2, kk f hf2]⟩
/-- the reference up to the telling -/
theorem v_ref {M1 : jm} (hR : RM (M1 16) σ) (h14 : M1 16 14 0 = nI len) (h13 : ∀ i, i < len → M1 16 13 i = nI (s i)) (hs : ∀ i, i < len → s i < 256) (hl : len ≤ 96) {N : Nat} (h32 : N ≤ 32) (hN : ∀ j, j < N → pc s len j < len ∧ (sc s len (pc s len j)).2 = true) (hp : pc s len N ≤ len) (hcase : (0 < N ∧ pc s len N = len) ∨ (¬ (0 < N ∧ pc s len N = len) ∧ (sc s len (pc s len N)).2 = false)) : ∃ B : jm, (∀ o, o ≠ 16 → B o = M1 o) ∧ RM (B 16) σ ∧ (∀ f, kp f → B 16 f = ju M1 16 14 0 (nI 0) 16 f) ∧ ((0 < N ∧ pc s len N = len) → f_X6_village M1 = f_X6_village_l79 10000 B 0 ∧ KM (B 16 21) σ ∧ B 16 17 0 = nI N ∧ ∀ i, i < N → B 16 18 i = nI (pc s len i) ∧ B 16 19 i = nI (s (pc s len i)) ∧ tld s B i (s (pc s len i)) (pc s len i + 1)) ∧ (¬ (0 < N ∧ pc s len N = len) → f_X6_village M1 = some ((-1000) - nI (sc s len (pc s len N)).1, B)) := by
  obtain ⟨B0, hB0⟩ : ∃ B0, B0 = ju (ju (ju (ju M1 16 11 0 0) 16 15 0 0) 16 16 0 0) 16 17 0 0 := ⟨_, rfl⟩
  have bf : ∀ f, f ≠ 11 → f ≠ 15 → f ≠ 16 → f ≠ 17 → B0 16 f = M1 16 f := fun f q1 q2 q3 q4 => by rw [hB0, ju_f q4, ju_f q3, ju_f q2, ju_f q1]
  have bo : ∀ o, o ≠ 16 → B0 o = M1 o := fun o q => by rw [hB0, ju_ne q, ju_ne q, ju_ne q, ju_ne q]
  have hH : Hd s len B0 B0 0 0 := ⟨by rw [hB0, ju_g (by omega), ju_g (by omega), ju_self]; rfl, by rw [hB0, ju_g (by omega), ju_self]; rfl, by rw [hB0, ju_self]; rfl, Nat.zero_le _, fun _ _ => rfl, fun _ _ => rfl, by rw [bf 14 (by omega) (by omega) (by omega) (by omega)]; exact h14, fun i hi => by rw [bf 13 (by omega) (by omega) (by omega) (by omega)]; exact h13 i hi, fun j hj => absurd hj (Nat.not_lt_zero j)⟩
  obtain ⟨B1, r1, r2⟩ := m_readAll hH hl hs h32 hN
  have ev : f_X6_village M1 = f_X6_village_l20 (10000 - N) B1 := by
    unfold f_X6_village
    rw [← hB0, r1]
  have kp14 : ∀ (X : jm), (∀ f, (f < 15 ∨ 20 < f) → X 16 f = B0 16 f) → ∀ f, kp f → ju X 16 14 0 (nI 0) 16 f = ju M1 16 14 0 (nI 0) 16 f := by
    intro X hX f hf
    refine ju_fc ?_
    unfold kp at hf
    rw [hX f (by omega), bf f (by omega) (by omega) (by omega) (by omega)]
  have rm0 : ∀ (X : jm), (∀ f, (f < 15 ∨ 20 < f) → X 16 f = B0 16 f) → RM (ju X 16 14 0 (nI 0) 16) σ := by
    intro X hX
    refine RM_fe (fun f hf => ?_) hR
    rw [ju_f (by omega), hX f (by omega), bf f (by omega) (by omega) (by omega) (by omega)]
  rcases hcase with ⟨c1, c2⟩ | ⟨c1, c2⟩
  · have e14 : B1 16 14 0 = nI len := by rw [r2.2.2.2.2.2.1 14 (by omega)]; exact r2.2.2.2.2.2.2.1
    obtain ⟨B2, t1, t2, t3, t4⟩ := m_think (M := ju B1 16 14 0 (nI 0)) (rm0 B1 r2.2.2.2.2.2.1)
    have g : ∀ f, 11 < f → f ≠ 14 → f ≠ 21 → f ≠ 24 → f ≠ 25 → f ≠ 26 → B2 16 f = B1 16 f := fun f q1 q2 q3 q4 q5 q6 => by rw [t4.2 f q1 q3 q4 q5 q6, ju_f q2]
    refine ⟨B2, fun o ho => by rw [t4.1 o ho, ju_ne ho, r2.2.2.2.2.1 o ho, bo o ho], t2, fun f hf => ?_, fun _ => ⟨?_, t3, ?_, fun i hi => ?_⟩, fun z => absurd ⟨c1, c2⟩ z⟩
    · have h := kp14 B1 r2.2.2.2.2.2.1 f hf
      unfold kp at hf
      rw [t4.2 f (by omega) (by omega) (by omega) (by omega) (by omega), h]
    · have e16 : ju B1 16 14 0 0 16 16 0 = 0 := by rw [ju_g (by omega), r2.2.1]; rfl
      rw [ev, show 10000 - N = (9999 - N) + 1 by omega, f_X6_village_l20, r2.2.1, if_pos (show (nI 0 : Int32) = 0 from rfl), r2.2.2.1, if_neg (by rw [show (0 : Int32) = nI 0 from rfl, q_eq (by omega) (by omega)]; omega), e14, r2.1, c2, if_pos ((q_le (by omega) (by omega)).mpr (Nat.le_refl _))]
      unfold f_X6_village_j52
      rw [if_pos e16, show (0 : Int32) = nI 0 from rfl, t1, q_jb]
    · rw [g 17 (by omega) (by omega) (by omega) (by omega) (by omega) (by omega)]; exact r2.2.2.1
    · obtain ⟨y1, y2, y3⟩ := r2.2.2.2.2.2.2.2.2 i hi
      exact ⟨by rw [g 18 (by omega) (by omega) (by omega) (by omega) (by omega) (by omega)]; exact y1, by rw [g 19 (by omega) (by omega) (by omega) (by omega) (by omega) (by omega)]; exact y2, tld_congr (fun q _ => by rw [g 20 (by omega) (by omega) (by omega) (by omega) (by omega) (by omega)]) y3⟩
  · obtain ⟨B2, s1, s2, s3, s4, s5, -⟩ := m_readSt r2 hl hs (by omega)
    have e14 : B1 16 14 0 = nI len := by rw [r2.2.2.2.2.2.1 14 (by omega)]; exact r2.2.2.2.2.2.2.1
    have hst : f_X6_village_l20 (10000 - N) B1 = f_X6_village_l20 (9999 - N) B2 := by
      rw [show 10000 - N = (9999 - N) + 1 by omega, f_X6_village_l20, r2.2.1, if_pos (show (nI 0 : Int32) = 0 from rfl), r2.2.2.1]
      by_cases z : N = 0
      · rw [if_pos (by rw [z]; rfl), s1, q_jb]
      · rw [if_neg (by rw [show (0 : Int32) = nI 0 from rfl, q_eq (by omega) (by omega)]; exact z), e14, r2.1, if_neg (by rw [q_le (by omega) (by omega)]; omega), s1, q_jb]
    rw [c2] at s3
    have e16 : ¬ ju B2 16 14 0 0 16 16 0 = 0 := by rw [ju_g (by omega), s3]; decide
    refine ⟨ju B2 16 14 0 (nI 0), fun o ho => by rw [ju_ne ho, s4 o ho, bo o ho], rm0 B2 s5, fun f hf => kp14 B2 s5 f hf, fun z => absurd z c1, fun _ => ?_⟩
    rw [ev, hst, show 9999 - N = (9998 - N) + 1 by omega, f_X6_village_l20, s3, if_neg (by decide)]
    unfold f_X6_village_j52
    rw [if_neg e16, ju_g (by omega), s2]; rfl
end Vt

/-! a village told in letters -/
section Vo
variable {M : jm} {S : St}
theorem ok_village (hJ : JJ M S) : OK (f_X5_village M) (fun M1 => f_X6_village M1) := by
  obtain ⟨jc, jr, jw⟩ := hJ
  have hl := jw.2.2.2.2.2.1
  have hs := jw.2.2.2.2.2.2.1
  have hf : wf (sv S) := jw.1
  obtain ⟨A0, a1, a2, a3⟩ := p_becomeRW (M := M) (o := 2) (o1 := 1) (σ := sv S) (by omega) jc.1
  have a13 : A0 13 = M 13 := a2 13 (by omega)
  have l1 : A0 13 1 0 = nI (sln S) := by rw [a13]; exact jc.2.2.2.2.2.1
  have l0 : ∀ i, i < sln S → A0 13 0 i = nI (sls S i) := fun i hi => by rw [a13]; exact jc.2.2.2.2.2.2.1 i hi
  obtain ⟨N, h32, hN, hp, hc⟩ := pc_stop (s := sls S) (len := sln S) hl
  obtain ⟨f1, f2⟩ := x_first l1 l0 hs hl hN hp
  have jr1 : ∀ M1 : jm, M1 16 = M 16 → JR (ju M1 16 14 0 (nI 0)) (setn S 2 0) := fun M1 e => JR_2 (JR_fr e jr)
  by_cases c : 0 < N ∧ pc (sls S) (sln S) N = sln S
  · have vr : ∀ M1 : jm, M1 16 = M 16 → ∃ B : jm, (∀ o, o ≠ 16 → B o = M1 o) ∧ RM (B 16) (sv S) ∧ (∀ f, kp f → B 16 f = ju M1 16 14 0 (nI 0) 16 f) ∧ f_X6_village M1 = f_X6_village_l79 10000 B 0 ∧ KM (B 16 21) (sv S) ∧ B 16 17 0 = nI N ∧ ∀ i, i < N → B 16 18 i = nI (pc (sls S) (sln S) i) ∧ B 16 19 i = nI (sls S (pc (sls S) (sln S) i)) ∧ tld (sls S) B i (sls S (pc (sls S) (sln S) i)) (pc (sls S) (sln S) i + 1) := by
      intro M1 e
      obtain ⟨B, v1, v2, v3, v4, -⟩ := v_ref (σ := sv S) (M1 := M1) (s := sls S) (len := sln S) (by rw [e]; exact jr.1) (by rw [e]; exact jr.2.2.2.2.2.1) (fun i hi => by rw [e]; exact jr.2.2.2.2.2.2.1 i hi) hs hl h32 hN hp (Or.inl c)
      obtain ⟨w1, w2, w3, w4⟩ := v4 c
      exact ⟨B, v1, v2, v3, w1, w2, w3, w4⟩
    have both : ∀ M1 : jm, M1 16 = M 16 → ∃ (r : Int32) (A' B' : jm), f_X1_tell_l25 2 10000 A0 0 0 0 = some (r, A') ∧ f_X6_village M1 = some (r, B') ∧ (∀ o, o ≠ 2 → A' o = A0 o) ∧ (∀ o, o ≠ 16 → B' o = M1 o) ∧ ((r = nI N ∧ ∃ (τ' : vl) (C : jm), RW (A' 2) τ' ∧ wf τ' ∧ RM (C 16) τ' ∧ (∀ o, o ≠ 16 → C o = M1 o) ∧ (∀ f, kp f → C 16 f = ju M1 16 14 0 (nI 0) 16 f) ∧ B' = ju C 16 29 0 (nI 0)) ∨ (¬ 0 ≤ r ∧ RM (B' 16) (sv S) ∧ ∀ f, kp f → B' 16 f = ju M1 16 14 0 (nI 0) 16 f)) := by
      intro M1 e
      obtain ⟨B, v1, v2, v3, w1, w2, w3, w4⟩ := vr M1 e
      obtain ⟨r, A', B', t1, t2, t3, t4, t5⟩ := t_all (σ := sv S) hs hl h32 hN c.2 (wg_of hf) N 0 (by omega) A0 B (sv S) hf a3 v2 l1 l0 w3 w4 w2
      refine ⟨r, A', B', t1, by rw [w1]; exact t2, t3, fun o ho => by rw [t4 o ho, v1 o ho], ?_⟩
      rcases t5 with ⟨q1, τ2, C, q2, q3, q4, q5, q6, q7⟩ | ⟨q1, q2, q3⟩
      · exact Or.inl ⟨q1, τ2, C, q2, q3, q4, fun o ho => by rw [q5 o ho, v1 o ho], fun f hf2 => by rw [q6 f hf2, v3 f hf2], q7⟩
      · exact Or.inr ⟨q1, q2, fun f hf2 => by rw [q3 f hf2, v3 f hf2]⟩
    obtain ⟨r, A1, B0, t1, -, t3, -, -⟩ := both M rfl
    have et : f_X1_tell A0 2 = some (r, A1) := by
      unfold f_X1_tell
      rw [f1 c, q_jb, if_pos rfl, t1]
    have jcD : JC (ju A1 13 1 0 (nI 0)) (setn S 2 0) := JC_fr (M := ju M 13 1 0 (nI 0)) (fun o h1 h2 _ _ => ju_oc (by rw [t3 o h2, a2 o h2])) (JC_2 jc)
    have hd : f_X1_drop A1 = some (ju A1 13 1 0 (nI 0)) := rfl
    by_cases z : 0 ≤ r
    · obtain ⟨A2, b1, b2, b3⟩ : ∃ A2, f_X4_become (ju A1 13 1 0 (nI 0)) 1 2 = some A2 ∧ (∀ o, o ≠ 1 → A2 o = ju A1 13 1 0 (nI 0) o) ∧ ∀ τ, RW (A1 2) τ → RW (A2 1) τ := by
        obtain ⟨A2, e, h1, h2, h3⟩ := p_become (M := ju A1 13 1 0 (nI 0)) (o := 1) (o1 := 2) (by omega)
        exact ⟨A2, e, h1, fun τ hR => RW_of h2 h3 (by rw [ju_ne (by omega)]; exact hR)⟩
      have e5 : f_X5_village M = some (r, ju A2 12 2 0 (nI 0)) := by
        unfold f_X5_village f_X0_forget
        rw [a1, q_jb, et, q_jb2, hd, q_jb, if_pos z, b1, q_jb, q_jb]; rfl
      have e16 : ju A2 12 2 0 (nI 0) 16 = M 16 := by rw [ju_ne (by omega), b2 16 (by omega), ju_ne (by omega), t3 16 (by omega), a2 16 (by omega)]
      obtain ⟨r2, A1', B', u1, u2, u3, u4, u5⟩ := both _ e16
      have ee : (r, A1) = (r2, A1') := Option.some.inj (t1.symm.trans u1)
      have er : r = r2 := congrArg Prod.fst ee
      have eA : A1 = A1' := congrArg Prod.snd ee
      rw [← er, ← eA] at u5
      rw [← er] at u2
      rcases u5 with ⟨q1, τ2, C, q2, q3, q4, q5, q6, q7⟩ | ⟨q1, q2, q3⟩
      · refine ⟨r, ju A2 12 2 0 (nI 0), B', setn (setv (setn S 2 0) τ2) 0 0, e5, u2, JC_16 (M1 := ju A2 12 2 0 (nI 0)) u4 (JC_0 (x := 0) (Nat.zero_le _) (JC_v (M := ju A1 13 1 0 (nI 0)) (b3 τ2 q2) (fun o h1 _ _ _ _ => b2 o h1) jcD) rfl), ?_, wS_0 (wS_v q3 (wS_2 jw))⟩
        rw [q7]
        exact JR_0 (JR_v (M := ju (ju A2 12 2 0 (nI 0)) 16 14 0 (nI 0)) q4 q6 (jr1 _ e16))
      · exact absurd z q1
    · have e5 : f_X5_village M = some (r, ju A1 13 1 0 (nI 0)) := by
        unfold f_X5_village
        rw [a1, q_jb, et, q_jb2, hd, q_jb, if_neg z]
      have e16 : ju A1 13 1 0 (nI 0) 16 = M 16 := by rw [ju_ne (by omega), t3 16 (by omega), a2 16 (by omega)]
      obtain ⟨r2, A1', B', u1, u2, u3, u4, u5⟩ := both _ e16
      have ee : (r, A1) = (r2, A1') := Option.some.inj (t1.symm.trans u1)
      have er : r = r2 := congrArg Prod.fst ee
      rw [← er] at u5 u2
      rcases u5 with ⟨q1, -⟩ | ⟨q1, q2, q3⟩
      · exact absurd (by rw [q1]; exact r_lo (by omega)) z
      · exact ⟨r, ju A1 13 1 0 (nI 0), B', setn S 2 0, e5, u2, JC_16 (M1 := ju A1 13 1 0 (nI 0)) u4 jcD, JR_sc (M := ju (ju A1 13 1 0 (nI 0)) 16 14 0 (nI 0)) q2 q3 (jr1 _ e16), wS_2 jw⟩
  · have hb : (sc (sls S) (sln S) (pc (sls S) (sln S) N)).2 = false := by
      rcases hc with q | q
      · exact absurd q c
      · exact q
    have hq := (sc_le (s := sls S) hp).2
    have hd : f_X1_drop A0 = some (ju A0 13 1 0 (nI 0)) := rfl
    have nn : ∀ x, x < 97 → ¬ nI x = (-9 : Int32) := by decide +kernel
    have et : f_X1_tell A0 2 = some ((-1000) - nI (sc (sls S) (sln S) (pc (sls S) (sln S) N)).1, A0) := by
      unfold f_X1_tell
      rw [f2 hb c, q_jb, if_neg (nn _ (by omega))]
    have e5 : f_X5_village M = some ((-1000) - nI (sc (sls S) (sln S) (pc (sls S) (sln S) N)).1, ju A0 13 1 0 (nI 0)) := by
      unfold f_X5_village
      rw [a1, q_jb, et, q_jb2, hd, q_jb, if_neg (neg1k _ (by omega))]
    have e16 : ju A0 13 1 0 (nI 0) 16 = M 16 := by rw [ju_ne (by omega), a2 16 (by omega)]
    obtain ⟨B, v1, v2, v3, -, v5⟩ := v_ref (σ := sv S) (M1 := ju A0 13 1 0 (nI 0)) (s := sls S) (len := sln S) (by rw [e16]; exact jr.1) (by rw [e16]; exact jr.2.2.2.2.2.1) (fun i hi => by rw [e16]; exact jr.2.2.2.2.2.2.1 i hi) hs hl h32 hN hp (Or.inr ⟨c, hb⟩)
    have jcD : JC (ju A0 13 1 0 (nI 0)) (setn S 2 0) := JC_fr (M := ju M 13 1 0 (nI 0)) (fun o h1 h2 _ _ => ju_oc (by rw [a2 o h2])) (JC_2 jc)
    exact ⟨_, _, B, setn S 2 0, e5, v5 c, JC_16 (M1 := ju A0 13 1 0 (nI 0)) v1 jcD, JR_sc (M := ju (ju A0 13 1 0 (nI 0)) 16 14 0 (nI 0)) v2 v3 (jr1 _ e16), wS_2 jw⟩
end Vo

/-! the way home: both sides come to an answer -/
theorem loopX {α R : Type} (L : Nat → α → Int32 → Option R) (P : Nat → α → Prop) (Z : Option R → Prop) (n : Nat) (hs : ∀ k a i, i < n → P i a → Z (L (k + 1) a (nI i)) ∨ ∃ a', L (k + 1) a (nI i) = L k a' (nI (i + 1)) ∧ P (i + 1) a') (he : ∀ k a, P n a → Z (L (k + 1) a (nI n))) :
    ∀ (d i k : Nat) (a : α), i + d = n → d < k → P i a → Z (L k a (nI i)) := by
  intro d
  induction d with
  | zero =>
    intro i k a hi hk hp
    obtain ⟨k, rfl⟩ : ∃ j, k = j + 1 := ⟨k - 1, by omega⟩
    have e : i = n := by omega
    subst e
    exact he k a hp
  | succ d ih =>
    intro i k a hi hk hp
    obtain ⟨k, rfl⟩ : ∃ j, k = j + 1 := ⟨k - 1, by omega⟩
    rcases hs k a i (by omega) hp with h | ⟨a', h1, h2⟩
    · exact h
    · rw [h1]
      exact ih (i + 1) k _ (by omega) (by omega) h2
theorem i_inc (i : Nat) : nI i + 1 = nI (i + 1) := nI_add i 1
section Wx
variable {M : jm}
theorem x_openE (v : Int32) : ∃ r, f_X3_openCells M v = some r := by
  refine loopE (fun k a i => f_X3_openCells_l5 M v k a i) (fun _ _ => True) (fun o => ∃ r, o = some r) 49 (fun k a i hi _ => ?_) (fun k a _ => ?_) 49 0 10000 0 rfl (by omega) trivial
  · show ∃ a', f_X3_openCells_l5 M v (k + 1) a (nI i) = f_X3_openCells_l5 M v k a' (nI (i + 1)) ∧ True
    rw [f_X3_openCells_l5, if_neg (by rw [show (49 : Int32) = nI 49 from rfl, q_le (by omega) (by omega)]; omega), q_gd (by omega) (by omega), i_inc]
    by_cases c : M 14 0 (Int32.toNatClampNeg (nI i)) &&& (v ^^^ -1) = 0
    · rw [if_pos c]; exact ⟨_, rfl, trivial⟩
    · rw [if_neg c]; exact ⟨_, rfl, trivial⟩
  · show ∃ r, f_X3_openCells_l5 M v (k + 1) a (nI 49) = some r
    rw [f_X3_openCells_l5, if_pos (by decide)]
    exact ⟨_, rfl⟩
theorem x_overE (v : Int64) {a b : Nat} (ha : a < 49) (hb : b < 49) : ∃ r, f_X3_shortestOver v (nI a) (nI b) = some r := by
  have hT := stp_lt a ha b hb
  unfold f_X3_shortestOver
  rw [p_steps a ha b hb, show (12 : Int32) = nI 12 from rfl, nI_add]
  refine loopX (fun k c i => f_X3_shortestOver_l18 v (nI b) (nI (stp a b + 12)) k c i) (fun i _ => 1 ≤ i) (fun o => ∃ r, o = some r) (stp a b + 13) (fun k c i hi _ => ?_) (fun k c _ => ?_) (stp a b + 12) 1 10000 _ (by omega) (by omega) (Nat.le_refl 1)
  · show (∃ r, f_X3_shortestOver_l18 v (nI b) (nI (stp a b + 12)) (k + 1) c (nI i) = some r) ∨ ∃ a', f_X3_shortestOver_l18 v (nI b) (nI (stp a b + 12)) (k + 1) c (nI i) = f_X3_shortestOver_l18 v (nI b) (nI (stp a b + 12)) k a' (nI (i + 1)) ∧ 1 ≤ i + 1
    rw [f_X3_shortestOver_l18, if_neg (by rw [q_lt (by omega) (by omega)]; omega), i_inc]
    split
    · exact Or.inr ⟨_, rfl, by omega⟩
    · exact Or.inl ⟨_, rfl⟩
  · show ∃ r, f_X3_shortestOver_l18 v (nI b) (nI (stp a b + 12)) (k + 1) c (nI (stp a b + 13)) = some r
    rw [f_X3_shortestOver_l18, if_pos (by rw [q_lt (by omega) (by omega)]; omega)]
    exact ⟨_, rfl⟩
theorem x_atE (v : Int32) {H a b : Nat} (hH : H < 8) (ha : a < 49) (hb : b < 49) : ∃ r, f_X3_shortestAt M v (nI H) (nI a) (nI b) = some r := by
  have h2 : 2 ^ H < 2 ^ 8 := Nat.pow_lt_pow_right (by omega) hH
  have eb : (1 : Int32) <<< (nI H &&& 31) = nI (2 ^ H) := bi_eq H hH
  unfold f_X3_shortestAt
  refine loopE (fun k c i => f_X3_shortestAt_l7 M v (nI H) (nI a) (nI b) k c i) (fun _ _ => True) (fun o => ∃ r, o = some r) (2 ^ H) (fun k c i hi _ => ?_) (fun k c _ => ?_) (2 ^ H) 0 10000 _ (by omega) (by omega) trivial
  · show ∃ a', f_X3_shortestAt_l7 M v (nI H) (nI a) (nI b) (k + 1) c (nI i) = f_X3_shortestAt_l7 M v (nI H) (nI a) (nI b) k a' (nI (i + 1)) ∧ True
    obtain ⟨r3, e3⟩ := x_openE (M := M) (nI i)
    obtain ⟨r4, e4⟩ := x_overE r3 ha hb
    rw [f_X3_shortestAt_l7, eb, if_neg (by rw [q_le (by omega) (by omega)]; omega), i_inc, q_gd (by omega) (by omega), e3, q_jb, e4, q_jb]
    repeat' split
    all_goals exact ⟨_, rfl, trivial⟩
  · show ∃ r, f_X3_shortestAt_l7 M v (nI H) (nI a) (nI b) (k + 1) c (nI (2 ^ H)) = some r
    rw [f_X3_shortestAt_l7, eb, if_pos ((q_le (by omega) (by omega)).mpr (Nat.le_refl _))]
    exact ⟨_, rfl⟩
theorem x_findLE {H a b : Nat} (hH : H < 8) (ha : a < 49) (hb : b < 49) : ∃ M', f_X3_find_l77 1 (nI b) (nI a) (nI H) 10000 M (nI 0) = some M' ∧ ∀ o, o ≠ 14 → M' o = M o := by
  refine loopX (fun k c i => f_X3_find_l77 1 (nI b) (nI a) (nI H) k c i) (fun _ (c : jm) => ∀ o, o ≠ 14 → c o = M o) (fun o => ∃ M', o = some M' ∧ ∀ o, o ≠ 14 → M' o = M o) H (fun k c i hi hp => ?_) (fun k c hp => ?_) H 0 10000 M (by omega) (by omega) (fun _ _ => rfl)
  · show (∃ M', f_X3_find_l77 1 (nI b) (nI a) (nI H) (k + 1) c (nI i) = some M' ∧ ∀ o, o ≠ 14 → M' o = M o) ∨ ∃ c', f_X3_find_l77 1 (nI b) (nI a) (nI H) (k + 1) c (nI i) = f_X3_find_l77 1 (nI b) (nI a) (nI H) k c' (nI (i + 1)) ∧ ∀ o, o ≠ 14 → c' o = M o
    obtain ⟨r, e⟩ := x_atE (M := ju c 14 1 0 (nI i)) (nI i) hH ha hb
    rw [f_X3_find_l77, if_neg (by rw [q_le (by omega) (by omega)]; omega), e, q_jb, i_inc]
    have hfr : ∀ o, o ≠ 14 → ju (ju c 14 1 0 (nI i)) 14 2 0 r o = M o := fun o ho => by rw [ju_ne ho, ju_ne ho, hp o ho]
    split
    · exact Or.inr ⟨_, rfl, hfr⟩
    · exact Or.inl ⟨_, rfl, hfr⟩
  · show ∃ M', f_X3_find_l77 1 (nI b) (nI a) (nI H) (k + 1) c (nI H) = some M' ∧ ∀ o, o ≠ 14 → M' o = M o
    rw [f_X3_find_l77, if_pos ((q_le (by omega) (by omega)).mpr (Nat.le_refl _))]
    exact ⟨_, rfl, fun o ho => by rw [ju_ne ho, ju_ne ho, hp o ho]⟩
theorem x_findE {σ : vl} (h0 : M 1 0 0 = nI (vH σ)) (hR : RB (M 1) σ (vH σ)) (hf : wf σ) {w b : Nat} (hw : w < vW σ) (hb : b < 49) : ∃ M', f_X3_find M 1 (nI w) (nI b) = some M' ∧ ∀ o, o ≠ 14 → M' o = M o := by
  have hH := hf.1
  have hW := hf.2.1.2.1
  have ha := (hf.2.1.2.2.2.1 w hw).1
  have ea : M 1 6 w = nI (σ 6 w) := (hR.2.2.1 w hw).1
  have ow : f_X4_owesBehind M 1 (nI w) 0 = some (nI (bs (owe σ 0 w) (vH σ))) := p_owesBehind h0 hR hf.2.1 hw (n := 0) (by omega)
  unfold f_X3_find
  rw [q_gd (by omega) (by omega), ow, q_jb, q_cl (by omega), ea]
  refine loopE (fun k c i => f_X3_find_l19 1 (nI w) (nI b) (nI (σ 6 w)) (nI (bs (owe σ 0 w) (vH σ))) k c i) (fun _ (c : jm) => ∀ o, o ≠ 14 → c o = M o) (fun o => ∃ M', o = some M' ∧ ∀ o, o ≠ 14 → M' o = M o) 49 (fun k c i hi hp => ?_) (fun k c hp => ?_) 49 0 10000 M (by omega) (by omega) (fun _ _ => rfl)
  · show ∃ c', f_X3_find_l19 1 (nI w) (nI b) (nI (σ 6 w)) (nI (bs (owe σ 0 w) (vH σ))) (k + 1) c (nI i) = f_X3_find_l19 1 (nI w) (nI b) (nI (σ 6 w)) (nI (bs (owe σ 0 w) (vH σ))) k c' (nI (i + 1)) ∧ ∀ o, o ≠ 14 → c' o = M o
    have c1 := hp 1 (by omega)
    rw [f_X3_find_l19, if_neg (by rw [show (49 : Int32) = nI 49 from rfl, q_le (by omega) (by omega)]; omega), p_seesFrom (by rw [c1]; exact h0) (by rw [c1]; exact hR) hf.2.1 hw hi, q_jb, q_gd (by omega) (by omega), i_inc]
    exact ⟨_, rfl, fun o ho => by rw [ju_ne ho, hp o ho]⟩
  · show ∃ M', f_X3_find_l19 1 (nI w) (nI b) (nI (σ 6 w)) (nI (bs (owe σ 0 w) (vH σ))) (k + 1) c (nI 49) = some M' ∧ ∀ o, o ≠ 14 → M' o = M o
    have fr : ∀ o, o ≠ 14 → ju (ju c 14 1 0 0) 14 2 0 0 o = M o := fun o ho => by rw [ju_ne ho, ju_ne ho, hp o ho]
    have e0 : ju (ju c 14 1 0 0) 14 2 0 0 1 0 0 = nI (vH σ) := by rw [fr 1 (by omega)]; exact h0
    rw [f_X3_find_l19, if_pos (by decide)]
    by_cases z : nI (σ 6 w) = nI b
    · rw [if_pos z]; exact ⟨_, rfl, fr⟩
    · rw [if_neg z, e0]
      obtain ⟨M', g1, g2⟩ := x_findLE (M := ju (ju c 14 1 0 0) 14 2 0 0) (H := vH σ) (a := σ 6 w) (b := b) (by omega) ha hb
      exact ⟨M', g1, fun o ho => by rw [g2 o ho, fr o ho]⟩
end Wx
/-! the reference's waiting places -/
def nb (c d : Nat) : Nat := if d = 0 then (if c ≤ 6 then 49 else c - 7) else if d = 1 then (if 6 ≤ c % 7 then 49 else c + 1) else if d = 2 then (if 42 ≤ c then 49 else c + 7) else (if c % 7 = 0 then 49 else c - 1)
theorem nb_lt : ∀ c, c < 49 → ∀ d, d < 4 → nb c d ≤ 49 := by decide +kernel
theorem m_beside : ∀ c, c < 49 → ∀ d, d < 4 → f_X6_beside (nI c) (nI d) = if nb c d = 49 then -1 else nI (nb c d) := by decide +kernel
theorem and_dn (y : Nat) (x : Int32) : ∃ z, z ≤ y ∧ nI y &&& x = nI z := ⟨(nI y &&& x).toBitVec.toNat, by
  show ((BitVec.ofNat 32 y) &&& x.toBitVec).toNat ≤ y
  rw [BitVec.toNat_and, BitVec.toNat_ofNat]
  exact Nat.le_trans Nat.and_le_left (Nat.mod_le _ _), by
  apply Int32.toBitVec_inj.mp
  show (nI y &&& x).toBitVec = BitVec.ofNat 32 (nI y &&& x).toBitVec.toNat
  simp⟩
theorem cn_lt (p : Nat → Bool) : ∀ N v, v < N → p v = false → cn p N < N
  | 0, v, h, _ => absurd h (Nat.not_lt_zero v)
  | N + 1, v, h, e => by
    show cn p N + (if p N = true then 1 else 0) < N + 1
    have hl := cn_le p N
    by_cases z : v = N
    · rw [← z, e, if_neg (by simp)]
      rw [z]; omega
    · have := cn_lt p N v (by omega) e
      split <;> omega
theorem cn_one (p q : Nat → Bool) (v : Nat) (hp : p v = false) (hq : q v = true) (h : ∀ j, j ≠ v → q j = p j) : ∀ N, cn q N = cn p N + if v < N then 1 else 0
  | 0 => rfl
  | N + 1 => by
    show cn q N + (if q N = true then 1 else 0) = cn p N + (if p N = true then 1 else 0) + _
    rw [cn_one p q v hp hq h N]
    by_cases z : N = v
    · rw [z, hp, hq, if_neg (by omega), if_pos rfl, if_neg (by simp), if_pos (by omega)]
    · rw [h N z]
      by_cases y : v < N
      · rw [if_pos y, if_pos (show v < N + 1 by omega)]; omega
      · rw [if_neg y, if_neg (show ¬ v < N + 1 by omega)]; omega
section Wm
variable {M0 : jm} {σ : vl}
/-- what holds of the waiting places -/
def WI (M0 M : jm) (n : Nat) : Prop := (∀ o, o ≠ 16 → M o = M0 o) ∧ (∀ f, f ≠ 30 → f ≠ 31 → f ≠ 32 → M 16 f = M0 16 f) ∧ M 16 32 0 = nI n ∧ n = cn (fun v => decide (0 ≤ M 16 30 v)) 6272 ∧ (∀ j, j < n → ∃ v, v < 6272 ∧ M 16 31 j = nI v ∧ ∃ x, x ≤ j ∧ M 16 30 v = nI x) ∧ (∀ v, v < 6272 → M 16 30 v = -1 ∨ ∃ x, x ≤ 6272 ∧ M 16 30 v = nI x)
theorem WI_le {M : jm} {n : Nat} (h : WI M0 M n) : n ≤ 6272 := by
  rw [h.2.2.2.1]
  exact cn_le _ _
/-- one more place waits -/
theorem WI_add {M : jm} {n i t v : Nat} (h : WI M0 M n) (hi : i < n) (ht : t < 6272) (hv : M 16 31 i = nI v) (hn : M 16 30 t = -1) {x : Nat} (hx : x ≤ i) (h30 : M 16 30 v = nI x) : n < 6272 ∧ WI M0 (ju (ju (ju M 16 30 t (nI (x + 1))) 16 31 n (nI t)) 16 32 0 (nI (n + 1))) (n + 1) := by
  obtain ⟨w1, w2, w3, w4, w5, w6⟩ := id h
  have hle := WI_le h
  have hlt : n < 6272 := by
    rw [w4]
    refine cn_lt _ _ t ht ?_
    rw [hn]; decide
  obtain ⟨M', hM'⟩ : ∃ M', M' = ju (ju (ju M 16 30 t (nI (x + 1))) 16 31 n (nI t)) 16 32 0 (nI (n + 1)) := ⟨_, rfl⟩
  have e30 : ∀ j, M' 16 30 j = if j = t then nI (x + 1) else M 16 30 j := fun j => by
    rw [hM', ju_g (by omega), ju_g (by omega), ju_o]
    by_cases z : j = t
    · rw [if_pos ⟨rfl, z⟩, if_pos z]
    · rw [if_neg (fun q => z q.2), if_neg z]
  have e31 : ∀ j, M' 16 31 j = if j = n then nI t else M 16 31 j := fun j => by
    rw [hM', ju_g (by omega), ju_o]
    by_cases z : j = n
    · rw [if_pos ⟨rfl, z⟩, if_pos z]
    · rw [if_neg (fun q => z q.2), if_neg z, ju_g (by omega)]
  rw [← hM']
  refine ⟨hlt, fun o ho => by rw [hM', ju_ne ho, ju_ne ho, ju_ne ho, w1 o ho], fun f f1 f2 f3 => by rw [hM', ju_f f3, ju_f f2, ju_f f1, w2 f f1 f2 f3], by rw [hM', ju_self], ?_, fun j hj => ?_, fun u hu => ?_⟩
  · rw [cn_one (fun v => decide (0 ≤ M 16 30 v)) (fun v => decide (0 ≤ M' 16 30 v)) t (by show decide (0 ≤ M 16 30 t) = false; rw [hn]; decide) (by
      show decide (0 ≤ M' 16 30 t) = true
      rw [e30, if_pos rfl]; exact decide_eq_true (r_lo (by omega))) (fun j hj => by
      show decide (0 ≤ M' 16 30 j) = decide (0 ≤ M 16 30 j)
      rw [e30, if_neg hj]) 6272, if_pos ht, ← w4]
  · by_cases z : j = n
    · exact ⟨t, ht, by rw [e31, if_pos z], x + 1, by omega, by rw [e30, if_pos rfl]⟩
    · obtain ⟨v, v1, v2, y, y1, y2⟩ := w5 j (by omega)
      refine ⟨v, v1, by rw [e31, if_neg z]; exact v2, y, y1, ?_⟩
      rw [e30, if_neg]
      · exact y2
      · intro q
        rw [q, hn] at y2
        have := congrArg Int32.toInt y2
        rw [nI_toInt (by omega)] at this
        have e : (-1 : Int32).toInt = -1 := rfl
        omega
  · rw [e30]
    by_cases z : u = t
    · rw [if_pos z]; exact Or.inr ⟨x + 1, by omega, rfl⟩
    · rw [if_neg z]; exact w6 u hu
/-- the four steps from the place that waits at i -/
theorem m_four {w i : Nat} (hR : RM (M0 16) σ) (hg : wg σ) (hw : w < vW σ) (K : jm → Int32 → Option jm) (r2 : Int32) {M : jm} {n : Nat} (h : WI M0 M n) (hi : i < n) : ∃ M' n', n ≤ n' ∧ WI M0 M' n' ∧ f_X6_layWays_l78 K (nI w) r2 (nI i) 10000 M (nI 0) = K M' (nI (i + 1)) := by
  have hH := hg.1
  refine loopE (fun k c d => f_X6_layWays_l78 K (nI w) r2 (nI i) k c d) (fun _ (c : jm) => ∃ n', n ≤ n' ∧ WI M0 c n') (fun o => ∃ M' n', n ≤ n' ∧ WI M0 M' n' ∧ o = K M' (nI (i + 1))) 4 (fun k c d hd hp => ?_) (fun k c hp => ?_) 4 0 10000 M (by omega) (by omega) ⟨n, Nat.le_refl n, h⟩
  · show ∃ c', f_X6_layWays_l78 K (nI w) r2 (nI i) (k + 1) c (nI d) = f_X6_layWays_l78 K (nI w) r2 (nI i) k c' (nI (d + 1)) ∧ ∃ n', n ≤ n' ∧ WI M0 c' n'
    obtain ⟨n1, hn1, hW⟩ := hp
    obtain ⟨w1, w2, w3, w4, w5, w6⟩ := id hW
    have hle := WI_le hW
    obtain ⟨v, v1, v2, x, x1, x2⟩ := w5 i (by omega)
    have ed : nI v / 128 = nI (v / 128) := pk_div (d := 128) (by omega) (by omega) (by omega)
    have er : nI v - nI v / 128 * 128 = nI (v % 128) := pk_rem (d := 128) (by omega) (by omega) (by omega)
    have hc : v / 128 < 49 := by omega
    have hb := m_beside (v / 128) hc d hd
    have hb2 := nb_lt (v / 128) hc d hd
    have hRc : RM (c 16) σ := RM_fe (fun f hf => w2 f (by omega) (by omega) (by omega)) hR
    -- what is done with a place found
    have j132 : ∀ b t, b < 49 → t < 128 → ∃ c', f_X6_layWays_j132 c K (f_X6_layWays_l78 K (nI w) r2 (nI i) k) (nI w) r2 (nI i) (nI d) (nI b) (nI t) = f_X6_layWays_l78 K (nI w) r2 (nI i) k c' (nI (d + 1)) ∧ ∃ n', n ≤ n' ∧ WI M0 c' n' := by
      intro b t hb ht
      have ei : (128 : Int32) * nI b + nI t = nI (128 * b + t) := by rw [show (128 : Int32) = nI 128 from rfl, pk_mul, nI_add]
      unfold f_X6_layWays_j132
      rw [if_neg (r_lo' (by omega)), ei, q_gd (by omega) (by omega), q_cl (by omega), i_inc]
      by_cases z : 0 ≤ c 16 30 (128 * b + t)
      · rw [if_pos z]; exact ⟨c, rfl, n1, hn1, hW⟩
      · have hm : c 16 30 (128 * b + t) = -1 := by
          rcases w6 (128 * b + t) (by omega) with q | ⟨y, y1, y2⟩
          · exact q
          · exact absurd (by rw [y2]; exact r_lo (by omega)) z
        obtain ⟨g1, g2⟩ := WI_add hW (i := i) (t := 128 * b + t) (v := v) (by omega) (by omega) v2 hm x1 x2
        have e32 : ju c 16 30 (128 * b + t) (nI x + 1) 16 32 0 = nI n1 := by rw [ju_g (by omega)]; exact w3
        rw [if_neg z, q_gd (by omega) (by omega), q_cl (by omega), v2, q_gd (by omega) (by omega), q_gd (by omega) (by omega), q_cl (by omega), x2, e32, q_gd (by omega) (by omega), q_cl (by omega), show ju (ju c 16 30 (128 * b + t) (nI x + 1)) 16 31 n1 (nI (128 * b + t)) 16 32 0 = nI n1 by rw [ju_g (by omega)]; exact e32, i_inc, i_inc]
        exact ⟨_, rfl, n1 + 1, by omega, g2⟩
    rw [f_X6_layWays_l78, if_neg (by rw [show (4 : Int32) = nI 4 from rfl, q_le (by omega) (by omega)]; omega), q_gd (by omega) (by omega), q_cl (by omega), v2, ed, hb]
    by_cases z : nb (v / 128) d = 49
    · rw [if_pos z, if_neg (by decide)]
      unfold f_X6_layWays_j132
      rw [if_pos (by decide), i_inc]
      exact ⟨c, rfl, n1, hn1, hW⟩
    · rw [if_neg z, if_pos (r_lo (by omega)), q_gd (by omega) (by omega), m_seenFrom hRc hg hw (c := nb (v / 128) d) (by omega), q_jb]
      obtain ⟨y, y1, y2⟩ := and_dn (bs (see σ w (nb (v / 128) d)) (vH σ)) (r2 ^^^ -1)
      have hbs := bs_lt (see σ w (nb (v / 128) d)) (vH σ)
      have hp7 : 2 ^ (vH σ) ≤ 2 ^ 7 := Nat.pow_le_pow_right (by omega) hH
      rw [show nI v - nI (v / 128) * 128 = nI (v % 128) by rw [← ed]; exact er, y2, fa_or]
      exact j132 _ _ (by omega) (Nat.or_lt_two_pow (n := 7) (by omega) (by omega))
  · show ∃ M' n', n ≤ n' ∧ WI M0 M' n' ∧ f_X6_layWays_l78 K (nI w) r2 (nI i) (k + 1) c (nI 4) = K M' (nI (i + 1))
    obtain ⟨n1, hn1, hW⟩ := hp
    rw [f_X6_layWays_l78, if_pos (by decide), i_inc]
    exact ⟨c, n1, hn1, hW, rfl⟩
theorem m_waits {w : Nat} (hR : RM (M0 16) σ) (hg : wg σ) (hw : w < vW σ) (r2 : Int32) : ∀ d i k, i + d = 6272 → d < k → ∀ (M : jm) (n : Nat), WI M0 M n → i ≤ n → ∃ M' n', f_X6_layWays_l67 (nI w) r2 k M (nI i) = some M' ∧ WI M0 M' n' := by
  intro d
  induction d with
  | zero =>
    intro i k hi hk M n h hin
    obtain ⟨k, rfl⟩ : ∃ j, k = j + 1 := ⟨k - 1, by omega⟩
    have := WI_le h
    rw [f_X6_layWays_l67, h.2.2.1, if_pos (by rw [q_le (by omega) (by omega)]; omega)]
    exact ⟨M, n, rfl, h⟩
  | succ d ih =>
    intro i k hi hk M n h hin
    obtain ⟨k, rfl⟩ : ∃ j, k = j + 1 := ⟨k - 1, by omega⟩
    have := WI_le h
    rw [f_X6_layWays_l67, h.2.2.1]
    by_cases z : n ≤ i
    · rw [if_pos (by rw [q_le (by omega) (by omega)]; omega)]
      exact ⟨M, n, rfl, h⟩
    · rw [if_neg (by rw [q_le (by omega) (by omega)]; omega)]
      obtain ⟨M', n', g1, g2, g3⟩ := m_four hR hg hw (f_X6_layWays_l67 (nI w) r2 k) r2 h (i := i) (by omega)
      rw [show (0 : Int32) = nI 0 from rfl, g3]
      exact ih (i + 1) k (by omega) (by omega) M' n' g2 (by omega)
theorem m_layWays {M : jm} (hR : RM (M 16) σ) (hg : wg σ) {w : Nat} (hw : w < vW σ) : ∃ M', f_X6_layWays M (nI w) = some M' ∧ (∀ o, o ≠ 16 → M' o = M o) ∧ (∀ f, f ≠ 30 → f ≠ 31 → f ≠ 32 → M' 16 f = M 16 f) := by
  have hW := hg.2.1.2.1
  have ha := (hg.2.1.2.2.2.1 w hw).1
  unfold f_X6_layWays
  refine loopE (fun k c i => f_X6_layWays_l2 (nI w) k c i) (fun i (c : jm) => (∀ o, o ≠ 16 → c o = M o) ∧ (∀ f, f ≠ 30 → f ≠ 31 → f ≠ 32 → c 16 f = M 16 f) ∧ ∀ v, v < i → c 16 30 v = -1) (fun o => ∃ M', o = some M' ∧ (∀ o, o ≠ 16 → M' o = M o) ∧ (∀ f, f ≠ 30 → f ≠ 31 → f ≠ 32 → M' 16 f = M 16 f)) 6272 (fun k c i hi hp => ?_) (fun k c hp => ?_) 6272 0 10000 M (by omega) (by omega) ⟨fun _ _ => rfl, fun _ _ _ _ => rfl, fun v hv => absurd hv (Nat.not_lt_zero v)⟩
  · show ∃ c', f_X6_layWays_l2 (nI w) (k + 1) c (nI i) = f_X6_layWays_l2 (nI w) k c' (nI (i + 1)) ∧ (∀ o, o ≠ 16 → c' o = M o) ∧ (∀ f, f ≠ 30 → f ≠ 31 → f ≠ 32 → c' 16 f = M 16 f) ∧ ∀ v, v < i + 1 → c' 16 30 v = -1
    obtain ⟨p1, p2, p3⟩ := hp
    rw [f_X6_layWays_l2, if_neg (by rw [show (6272 : Int32) = nI 6272 from rfl, q_le (by omega) (by omega)]; omega), q_gd (by omega) (by omega), q_cl (by omega), i_inc]
    refine ⟨_, rfl, fun o ho => by rw [ju_ne ho, p1 o ho], fun f f1 f2 f3 => by rw [ju_f f1, p2 f f1 f2 f3], fun v hv => ?_⟩
    rw [ju_o]
    by_cases z : v = i
    · rw [if_pos ⟨rfl, z⟩]
    · rw [if_neg (fun q => z q.2)]; exact p3 v (by omega)
  · show ∃ M', f_X6_layWays_l2 (nI w) (k + 1) c (nI 6272) = some M' ∧ (∀ o, o ≠ 16 → M' o = M o) ∧ (∀ f, f ≠ 30 → f ≠ 31 → f ≠ 32 → M' 16 f = M 16 f)
    obtain ⟨p1, p2, p3⟩ := hp
    have hRc : RM (c 16) σ := RM_fe (fun f hf => p2 f (by omega) (by omega) (by omega)) hR
    have ea : c 16 6 w = nI (σ 6 w) := (hRc.2.2.2.2.1 w hw).1
    have ei : (128 : Int32) * nI (σ 6 w) = nI (128 * σ 6 w) := by rw [show (128 : Int32) = nI 128 from rfl, pk_mul]
    have ea2 : ju c 16 30 (128 * σ 6 w) 0 16 6 w = nI (σ 6 w) := by rw [ju_g (by omega)]; exact ea
    have e00 : Int32.toNatClampNeg 0 = 0 := rfl
    rw [f_X6_layWays_l2, if_pos (by decide), m_owesBits hRc hg hw, q_jb, q_gd (by omega) (by omega), q_cl (by omega), ea, ei, q_gd (by omega) (by omega), q_gd (by omega) (by omega), show (0 : Int32) = nI 0 from rfl, q_gd (by omega) (by omega), q_cl (by omega), show (nI 0 : Int32) = 0 from rfl, e00, ea2, ei]
    obtain ⟨B, hB⟩ : ∃ B, B = ju (ju (ju c 16 30 (128 * σ 6 w) 0) 16 31 0 (nI (128 * σ 6 w))) 16 32 0 1 := ⟨_, rfl⟩
    rw [← hB]
    have e30 : ∀ j, B 16 30 j = if j = 128 * σ 6 w then 0 else c 16 30 j := fun j => by
      rw [hB, ju_g (by omega), ju_g (by omega), ju_o]
      by_cases z : j = 128 * σ 6 w
      · rw [if_pos ⟨rfl, z⟩, if_pos z]
      · rw [if_neg (fun q => z q.2), if_neg z]
    have hcn : ∀ N, cn (fun v => decide (0 ≤ B 16 30 v)) N = cn (fun _ => false) N + (if 128 * σ 6 w < N then 1 else 0) ∨ 6272 < N := by
      intro N
      by_cases hN : 6272 < N
      · exact Or.inr hN
      · left
        have e1 : cn (fun v => decide (0 ≤ B 16 30 v)) N = cn (fun v => decide (v = 128 * σ 6 w)) N := by
          refine cn_congr N (fun v hv => ?_)
          show decide (0 ≤ B 16 30 v) = decide (v = 128 * σ 6 w)
          rw [e30]
          by_cases z : v = 128 * σ 6 w
          · rw [if_pos z, decide_eq_true z]; rfl
          · rw [if_neg z, p3 v (by omega), decide_eq_false z]; rfl
        rw [e1]
        exact cn_one (fun _ => false) (fun v => decide (v = 128 * σ 6 w)) (128 * σ 6 w) rfl (decide_eq_true rfl) (fun j hj => decide_eq_false hj) N
    have hcf : ∀ N, cn (fun _ => false) N = 0 := by
      intro N
      induction N with
      | zero => rfl
      | succ N ih => show cn (fun _ => false) N + (if false = true then 1 else 0) = 0; rw [ih]; rfl
    have hWI : WI M B 1 := by
      refine ⟨fun o ho => by rw [hB, ju_ne ho, ju_ne ho, ju_ne ho, p1 o ho], fun f f1 f2 f3 => by rw [hB, ju_f f3, ju_f f2, ju_f f1, p2 f f1 f2 f3], by rw [hB, ju_self]; rfl, ?_, fun j hj => ⟨128 * σ 6 w, by omega, ?_, 0, Nat.zero_le _, by rw [e30, if_pos rfl]; rfl⟩, fun v hv => ?_⟩
      · rcases hcn 6272 with q | q
        · rw [q, hcf, if_pos (by omega)]
        · omega
      · rw [show j = 0 by omega, hB, ju_g (by omega), ju_self]
      · rw [e30]
        by_cases z : v = 128 * σ 6 w
        · rw [if_pos z]; exact Or.inr ⟨0, by omega, rfl⟩
        · rw [if_neg z]; exact Or.inl (p3 v hv)
    obtain ⟨M', n', g1, g2⟩ := m_waits hR hg hw (nI (bs (owe σ 0 w) (vH σ))) 6272 0 10000 (by omega) (by omega) B 1 hWI (Nat.zero_le _)
    exact ⟨M', g1, g2.1, g2.2.1⟩
end Wm

section Asks
variable {M M1 M2 : jm} {S : St} {σ : vl}
theorem m_way74 {c : Nat} (hc : c < 49) (v3 v5 : Int32) (x y : Int32) : ∃ r, f_X6_way_l74 (nI c) v3 v5 10000 M x y (nI 0) = some (r, M) := by
  refine loopE (fun k (a : Int32 × Int32) i => f_X6_way_l74 (nI c) v3 v5 k M a.1 a.2 i) (fun _ _ => True) (fun o => ∃ r, o = some (r, M)) 128 (fun k a i hi _ => ?_) (fun k a _ => ?_) 128 0 10000 (x, y) (by omega) (by omega) trivial
  · show ∃ a' : Int32 × Int32, f_X6_way_l74 (nI c) v3 v5 (k + 1) M a.1 a.2 (nI i) = f_X6_way_l74 (nI c) v3 v5 k M a'.1 a'.2 (nI (i + 1)) ∧ True
    have ei : (128 : Int32) * nI c + nI i = nI (128 * c + i) := by rw [show (128 : Int32) = nI 128 from rfl, pk_mul, nI_add]
    rw [f_X6_way_l74, if_neg (by rw [show (128 : Int32) = nI 128 from rfl, q_le (by omega) (by omega)]; omega), ei, q_gd (by omega) (by omega), m_onesOf0 i (by omega), q_jb, i_inc]
    obtain ⟨u, hu⟩ : ∃ u, u = M 16 30 (Int32.toNatClampNeg (nI (128 * c + i))) := ⟨_, rfl⟩
    rw [← hu]
    by_cases c1 : u < 0
    · rw [if_pos c1]; exact ⟨(a.1, a.2), rfl, trivial⟩
    rw [if_neg c1]
    by_cases c2 : v5 < u
    · rw [if_pos c2]; exact ⟨(a.1, a.2), rfl, trivial⟩
    rw [if_neg c2]
    by_cases c3 : nI (popc i) < a.1
    · rw [if_pos c3]; exact ⟨(nI (popc i), u), rfl, trivial⟩
    rw [if_neg c3]
    by_cases c4 : nI (popc i) = a.1
    · rw [if_pos c4]
      by_cases c5 : a.2 ≤ u
      · rw [if_pos c5]; exact ⟨(a.1, a.2), rfl, trivial⟩
      · rw [if_neg c5]; exact ⟨(nI (popc i), u), rfl, trivial⟩
    · rw [if_neg c4]; exact ⟨(a.1, a.2), rfl, trivial⟩
  · show ∃ r, f_X6_way_l74 (nI c) v3 v5 (k + 1) M a.1 a.2 (nI 128) = some (r, M)
    rw [f_X6_way_l74, if_pos (by decide)]
    split
    · exact ⟨_, rfl⟩
    · exact ⟨_, rfl⟩
theorem ot_way (hJ : JJ M S) (a b c : Int32) : OT (f_X5_way M a b c) (fun M1 => f_X6_way M1 a b c) := by
  obtain ⟨h0, h5, hB⟩ := J_C hJ; have hf := J_f hJ; have hH := hf.1; have hW := hf.2.1.2.1
  have hH := hf.1; have hW := hf.2.1.2.1
  by_cases c1 : okv (vW (sv S)) a = true
  · by_cases c2 : okv 49 b = true
    · obtain ⟨w, hw, rfl⟩ := okv_ex (by omega) c1
      obtain ⟨d, hd, rfl⟩ := okv_ex (by omega) c2
      by_cases c3 : okv 2 c = true
      · have hc : c = 0 ∨ c = 1 := by
          obtain ⟨j, hj, rfl⟩ := okv_ex (by omega) c3
          rcases (show j = 0 ∨ j = 1 by omega) with rfl | rfl
          · exact Or.inl rfl
          · exact Or.inr rfl
        obtain ⟨A, x1, x2⟩ := x_findE h0 hB hf hw hd
        have hx : ∃ r, f_X5_way M (nI w) (nI d) c = some (r, A) := by
          unfold f_X5_way f_X5_way_j40
          rw [show f_X4_hasWalker M 1 (nI w) = nI 1 from by rw [p_hasW h5, if_pos c1], if_neg z10]
          rw [p_isCell', if_pos c2, if_neg z10, x1, q_jb]
          rcases hc with rfl | rfl
          · rw [if_pos rfl, if_pos rfl]; exact ⟨_, rfl⟩
          · rw [if_neg (by decide), if_pos rfl, if_neg (by decide)]; exact ⟨_, rfl⟩
        obtain ⟨r, ex⟩ := hx
        refine OT_q hJ ex (fun o _ h14 _ => x2 o h14) (fun hR hg => ?_)
        obtain ⟨B, g1, g2, g3⟩ := m_layWays (M := ju A 16 11 0 0) (RM_ct hR) hg hw
        obtain ⟨r', g4⟩ := m_way74 (M := B) hd c (f_X6_stepsOf (B 16 6 (Int32.toNatClampNeg (nI w))) (nI d) + 12) 8 0
        refine ⟨r', B, ?_, RM_fe (fun f hf => by rw [g3 f (by omega) (by omega) (by omega), ju_f (by omega)]) hR, fun o ho => by rw [g2 o ho, ju_ne ho], fun f hf => by unfold kp at hf; rw [g3 f (by omega) (by omega) (by omega), ju_f (by omega)]⟩
        show f_X6_way A (nI w) (nI d) c = _
        unfold f_X6_way
        rw [m_isWalker (RM_ct hR) hg, if_pos c1, if_neg z10, m_isCell, if_pos c2, if_neg z10]
        unfold f_X6_way_j25
        rw [wb_0 2 (by omega) (by decide), if_pos c3, if_pos n0, g1, q_jb, q_gd (by omega) (by omega)]
        exact g4
      · have nn : ∀ j, j < 2 → ¬ c = nI j := fun j hj => okv_ne (by omega) c3 hj
        refine OK_t ?_
        refine OK_ref (k := 2) (by omega) hJ ?_ (fun M1 e16 _ => ?_)
        · unfold f_X5_way
          rw [show f_X4_hasWalker M 1 (nI w) = nI 1 from by rw [p_hasW h5, if_pos c1], if_neg z10]
          rw [p_isCell', if_pos c2, if_neg z10, if_neg (show ¬ c = (0 : Int32) from nn 0 (by omega)), if_neg (show ¬ c = (1 : Int32) from nn 1 (by omega))]; rfl
        · show f_X6_way M1 (nI w) (nI d) c = _
          unfold f_X6_way
          rw [m_isWalker (J_R hJ e16) (wg_of hf), if_pos c1, if_neg z10, m_isCell, if_pos c2, if_neg z10]
          unfold f_X6_way_j25
          rw [wb_0 2 (by omega) (by decide), if_neg c3, if_neg n2]; rfl
    · refine OK_t ?_
      refine OK_ref (k := 1) (by omega) hJ ?_ (fun M1 e16 _ => ?_)
      · unfold f_X5_way
        rw [show f_X4_hasWalker M 1 a = nI 1 from by rw [p_hasW h5, if_pos c1], if_neg z10]
        rw [p_isCell', if_neg c2, if_pos z00]; rfl
      · show f_X6_way M1 a b c = _
        unfold f_X6_way
        rw [m_isWalker (J_R hJ e16) (wg_of hf), if_pos c1, if_neg z10, m_isCell, if_neg c2, if_pos z00]
        unfold f_X6_way_j24 f_X6_way_j25
        rw [wb_no (by decide), if_neg n1]; rfl
  · refine OK_t ?_
    refine OK_ref (k := 1) (by omega) hJ ?_ (fun M1 e16 _ => ?_)
    · unfold f_X5_way
      rw [show f_X4_hasWalker M 1 a = nI 0 from by rw [p_hasW h5, if_neg c1], if_pos z00]; rfl
    · show f_X6_way M1 a b c = _
      unfold f_X6_way
      rw [m_isWalker (J_R hJ e16) (wg_of hf), if_neg c1, if_pos z00]
      unfold f_X6_way_j24 f_X6_way_j25
      rw [wb_no (by decide), if_neg n1]; rfl
end Asks

/-! a round of doors: the best next one, and the least steps -/
def bw (b : Nat → Bool) (g : Nat → Nat) : Nat → Option Nat
  | 0 => none
  | n + 1 => match bw b g n with
    | none => if b n then some n else none
    | some j => if b n && decide (g n < g j) then some n else some j
section Bw
variable {b : Nat → Bool} {g : Nat → Nat} {n j : Nat}
theorem bw_u : bw b g (n + 1) = (match bw b g n with
    | none => if b n then some n else none
    | some j => if b n && decide (g n < g j) then some n else some j) := (rfl)
theorem bw_f (h : b n = false) : bw b g (n + 1) = bw b g n := by
  rw [bw_u]
  cases q : bw b g n
  · show (if b n = true then some n else none) = none
    rw [h]; rfl
  · rename_i i
    show (if (b n && decide (g n < g i)) = true then some n else some i) = some i
    rw [h]; rfl
theorem bw_t0 (h : b n = true) (h2 : bw b g n = none) : bw b g (n + 1) = some n := by
  rw [bw_u, h2]
  show (if b n = true then some n else none) = some n
  rw [if_pos h]
theorem bw_t1 (h : b n = true) (h2 : bw b g n = some j) (h3 : g n < g j) : bw b g (n + 1) = some n := by
  rw [bw_u, h2]
  show (if (b n && decide (g n < g j)) = true then some n else some j) = some n
  rw [if_pos (by rw [h, decide_eq_true h3]; rfl)]
theorem bw_t2 (h2 : bw b g n = some j) (h3 : g j ≤ g n) : bw b g (n + 1) = some j := by
  rw [bw_u, h2]
  show (if (b n && decide (g n < g j)) = true then some n else some j) = some j
  rw [if_neg (by rw [decide_eq_false (show ¬ g n < g j by omega), Bool.and_false]; simp)]
theorem bw_none : ∀ n, bw b g n = none → ∀ i, i < n → b i = false
  | 0, _, i, hi => absurd hi (Nat.not_lt_zero i)
  | n + 1, h, i, hi => by
    cases q : bw b g n
    · cases c : b n
      · by_cases z : i = n
        · rw [z]; exact c
        · exact bw_none n q i (by omega)
      · rw [bw_t0 c q] at h; cases h
    · rename_i j
      cases c : b n
      · rw [bw_f c, q] at h; cases h
      · by_cases z : g n < g j
        · rw [bw_t1 c q z] at h; cases h
        · rw [bw_t2 q (by omega)] at h; cases h
theorem bw_some : ∀ n j, bw b g n = some j → j < n ∧ b j = true ∧ (∀ i, i < n → b i = true → g j ≤ g i) ∧ (∀ i, i < j → b i = true → g j < g i)
  | 0, _, h => by cases h
  | n + 1, j, h => by
    cases q : bw b g n
    · have hn := bw_none n q
      cases c : b n
      · rw [bw_f c, q] at h; cases h
      · rw [bw_t0 c q] at h
        have e : n = j := Option.some.inj h
        rw [← e]
        refine ⟨by omega, c, fun i hi hb => ?_, fun i hi hb => ?_⟩
        · by_cases z : i = n
          · rw [z]; exact Nat.le_refl _
          · rw [hn i (by omega)] at hb; cases hb
        · rw [hn i hi] at hb; cases hb
    · rename_i k
      obtain ⟨k1, k2, k3, k4⟩ := bw_some n k q
      cases c : b n
      · rw [bw_f c, q] at h
        have e : k = j := Option.some.inj h
        rw [← e]
        refine ⟨by omega, k2, fun i hi hb => ?_, k4⟩
        by_cases z : i = n
        · rw [z, c] at hb; cases hb
        · exact k3 i (by omega) hb
      · by_cases z : g n < g k
        · rw [bw_t1 c q z] at h
          have e : n = j := Option.some.inj h
          rw [← e]
          refine ⟨by omega, c, fun i hi hb => ?_, fun i hi hb => ?_⟩
          · by_cases y : i = n
            · rw [y]; exact Nat.le_refl _
            · have := k3 i (by omega) hb; omega
          · have := k3 i hi hb; omega
        · rw [bw_t2 q (by omega)] at h
          have e : k = j := Option.some.inj h
          rw [← e]
          refine ⟨by omega, k2, fun i hi hb => ?_, k4⟩
          by_cases y : i = n
          · rw [y]; omega
          · exact k3 i (by omega) hb
end Bw
def sl (o : Option Nat) (f : Nat → Nat) : Nat := match o with
  | none => 0
  | some j => f j
def spf (p : Nat → Nat) (H : Nat) : Nat → Nat → Nat → Nat
  | 0, _, _ => 0
  | k + 1, r, c => sl (bw (fun h => bt (nI r) h) (fun h => stp c (p h) + spf p H k (r - 2 ^ h) (p h)) H) (fun j => stp c (p j) + spf p H k (r - 2 ^ j) (p j))
def sp (p : Nat → Nat) (H r c : Nat) : Nat := spf p H r r c
def gd2 (p : Nat → Nat) (H r c h : Nat) : Nat := stp c (p h) + sp p H (r - 2 ^ h) (p h)
def door (p : Nat → Nat) (H r c : Nat) : Option Nat := bw (fun h => bt (nI r) h) (gd2 p H r c) H
def dr (p : Nat → Nat) (H : Nat) : Nat → Nat → Nat → Option Nat
  | 0, r, c => door p H r c
  | k + 1, r, c => match door p H r c with
    | none => none
    | some j => dr p H k (r - 2 ^ j) (p j)
def oj (o : Option Nat) : Int32 := match o with
  | none => -9
  | some j => nI j
def cb (r H : Nat) : Nat := cn (fun h => bt (nI r) h) H
theorem rb1 : ∀ r, r < 128 → ∀ h, h < 7 → bt (nI r) h = true → 2 ^ h ≤ r ∧ nI r &&& (bi h ^^^ -1) = nI (r - 2 ^ h) := by decide +kernel
theorem rb2 : ∀ r, r < 128 → ∀ h, h < 7 → ∀ i, i < 7 → bt (nI r) h = true → bt (nI (r - 2 ^ h)) i = (bt (nI r) i && decide (i ≠ h)) := by decide +kernel
theorem rb0 : ∀ h, h < 8 → bt (nI 0) h = false := by decide +kernel
section Sp
variable {p : Nat → Nat} {H : Nat}
theorem spf_0 (hH : H ≤ 7) (k c : Nat) : spf p H k 0 c = 0 := by
  cases k with
  | zero => rfl
  | succ k =>
    show sl (bw (fun h => bt (nI 0) h) _ H) _ = 0
    have : ∀ (g : Nat → Nat) n, n ≤ 7 → bw (fun h => bt (nI 0) h) g n = none := by
      intro g n
      induction n with
      | zero => intro _; rfl
      | succ n ih => intro hn; rw [bw_f (rb0 n (by omega))]; exact ih (by omega)
    rw [this _ H hH]; rfl
theorem spf_fuel (hH : H ≤ 7) : ∀ k k' r c, r ≤ k → r ≤ k' → spf p H k r c = spf p H k' r c
  | 0, k', r, c, h, _ => by rw [show r = 0 by omega, spf_0 hH, spf_0 hH]
  | k + 1, 0, r, c, _, h => by rw [show r = 0 by omega, spf_0 hH, spf_0 hH]
  | k + 1, k' + 1, r, c, h, h' => by
    have e : ∀ i, spf p H k (r - 2 ^ i) (p i) = spf p H k' (r - 2 ^ i) (p i) := fun i => by
      have := Nat.one_le_two_pow (n := i)
      exact spf_fuel hH k k' _ _ (by omega) (by omega)
    show sl (bw _ (fun i => stp c (p i) + spf p H k (r - 2 ^ i) (p i)) H) (fun i => stp c (p i) + spf p H k (r - 2 ^ i) (p i)) = sl (bw _ (fun i => stp c (p i) + spf p H k' (r - 2 ^ i) (p i)) H) (fun i => stp c (p i) + spf p H k' (r - 2 ^ i) (p i))
    rw [show (fun i => stp c (p i) + spf p H k (r - 2 ^ i) (p i)) = (fun i => stp c (p i) + spf p H k' (r - 2 ^ i) (p i)) from funext (fun i => by rw [e i])]
theorem sp_eq (hH : H ≤ 7) (r c : Nat) : sp p H r c = sl (door p H r c) (gd2 p H r c) := by
  have e : (fun i => stp c (p i) + spf p H r (r - 2 ^ i) (p i)) = gd2 p H r c := funext (fun i => by
    show _ = stp c (p i) + spf p H (r - 2 ^ i) (r - 2 ^ i) (p i)
    rw [spf_fuel hH r (r - 2 ^ i) (r - 2 ^ i) (p i) (Nat.sub_le _ _) (Nat.le_refl _)])
  show spf p H r r c = _
  rw [spf_fuel hH r (r + 1) r c (Nat.le_refl _) (by omega)]
  show sl (bw _ (fun i => stp c (p i) + spf p H r (r - 2 ^ i) (p i)) H) (fun i => stp c (p i) + spf p H r (r - 2 ^ i) (p i)) = _
  rw [e]; rfl
theorem spf_le (hp : ∀ h, p h < 49) : ∀ k r c, c < 49 → spf p H k r c ≤ 12 * k
  | 0, _, _, _ => Nat.le_refl 0
  | k + 1, r, c, hc => by
    show sl (bw _ _ H) (fun j => stp c (p j) + spf p H k (r - 2 ^ j) (p j)) ≤ 12 * (k + 1)
    cases bw (fun h => bt (nI r) h) (fun h => stp c (p h) + spf p H k (r - 2 ^ h) (p h)) H with
    | none => exact Nat.zero_le _
    | some j =>
      show stp c (p j) + spf p H k (r - 2 ^ j) (p j) ≤ _
      have h1 := stp_lt c hc (p j) (hp j)
      have h2 := spf_le hp k (r - 2 ^ j) (p j) (hp j)
      omega
theorem sp_le (hp : ∀ h, p h < 49) {r c : Nat} (hr : r < 128) (hc : c < 49) : sp p H r c < 1600 := by
  have := spf_le (H := H) hp r r c hc
  unfold sp
  omega
theorem gd2_le (hp : ∀ h, p h < 49) {r c h : Nat} (hr : r < 128) (hc : c < 49) : gd2 p H r c h < 1700 := by
  have hs : r - 2 ^ h ≤ r := Nat.sub_le _ _
  have h1 := sp_le (H := H) hp (r := r - 2 ^ h) (c := p h) (Nat.lt_of_le_of_lt hs hr) (hp h)
  have h2 := stp_lt c hc (p h) (hp h)
  unfold gd2
  omega
theorem cn_none {b : Nat → Bool} : ∀ n, (∀ i, i < n → b i = false) → cn b n = 0
  | 0, _ => rfl
  | n + 1, h => by
    show cn b n + (if b n = true then 1 else 0) = 0
    rw [cn_none n (fun i hi => h i (by omega)), h n (by omega)]; rfl
theorem door_none {r c : Nat} (h : door p H r c = none) : cb r H = 0 := cn_none H (bw_none H h)
theorem cb_dn (hH : H ≤ 7) {r j : Nat} (hr : r < 128) (hj : j < H) (hb : bt (nI r) j = true) : cb r H = cb (r - 2 ^ j) H + 1 := by
  have h0 : bt (nI (r - 2 ^ j)) j = false := by rw [rb2 r hr j (by omega) j (by omega) hb]; simp
  have e : cn (fun h => bt (nI r) h) H = cn (fun h => if h < H then bt (nI r) h else if h = j then true else bt (nI (r - 2 ^ j)) h) H := cn_congr H (fun i hi => by rw [if_pos hi])
  unfold cb
  rw [e, cn_one (fun h => bt (nI (r - 2 ^ j)) h) (fun h => if h < H then bt (nI r) h else if h = j then true else bt (nI (r - 2 ^ j)) h) j h0 (by show (if j < H then bt (nI r) j else _) = true; rw [if_pos hj]; exact hb) (fun i hi => by
    show (if i < H then bt (nI r) i else if i = j then true else bt (nI (r - 2 ^ j)) i) = bt (nI (r - 2 ^ j)) i
    by_cases z : i < H
    · rw [if_pos z, rb2 r hr j (by omega) i (by omega) hb, decide_eq_true hi, Bool.and_true]
    · rw [if_neg z, if_neg hi]) H, if_pos hj]
theorem door_some {r c j : Nat} (h : door p H r c = some j) : j < H ∧ bt (nI r) j = true ∧ ∀ i, i < j → bt (nI r) i = true → gd2 p H r c j < gd2 p H r c i := by
  obtain ⟨h1, h2, -, h4⟩ := bw_some H j h
  exact ⟨h1, h2, h4⟩
theorem dr_none (hH : H ≤ 7) : ∀ n r c, r < 128 → cb r H ≤ n → dr p H n r c = none
  | 0, r, c, hr, h => by
    show door p H r c = none
    cases q : door p H r c with
    | none => rfl
    | some j =>
      obtain ⟨h1, h2, -⟩ := door_some q
      have := cb_dn hH hr h1 h2
      omega
  | n + 1, r, c, hr, h => by
    show (match door p H r c with | none => none | some j => dr p H n (r - 2 ^ j) (p j)) = none
    cases q : door p H r c with
    | none => rfl
    | some j =>
      obtain ⟨h1, h2, -⟩ := door_some q
      have := cb_dn hH hr h1 h2
      exact dr_none hH n _ _ (Nat.lt_of_le_of_lt (Nat.sub_le _ _) hr) (by omega)
theorem dr_s {n r c j : Nat} (h : door p H r c = some j) : dr p H (n + 1) r c = dr p H n (r - 2 ^ j) (p j) := by
  show (match door p H r c with | none => none | some j => dr p H n (r - 2 ^ j) (p j)) = _
  rw [h]
theorem dr_n {n r c : Nat} (h : door p H r c = none) : dr p H n r c = none := by
  cases n with
  | zero => exact h
  | succ n =>
    show (match door p H r c with | none => none | some j => dr p H n (r - 2 ^ j) (p j)) = _
    rw [h]
end Sp
/-! the class's round -/
section Xr
variable {M : jm} {p : Nat → Nat} {H a : Nat}
def gdr (a r : Nat) : Prop := nI r &&& (nI a ^^^ -1) = 0
def TB (p : Nat → Nat) (H a : Nat) (M : jm) (R : Nat) : Prop := ∀ r, r < R → gdr a r → ∀ h, h < H → M 15 0 (r * 7 + h) = nI (sp p H r (p h))
theorem gdr_dn {r h : Nat} (hr : r < 128) (hh : h < 7) (hb : bt (nI r) h = true) (hg : gdr a r) : gdr a (r - 2 ^ h) := by
  unfold gdr at hg ⊢
  rw [← (rb1 r hr h hh hb).2, Int32.and_assoc, Int32.and_comm (bi h ^^^ -1), ← Int32.and_assoc, hg, Int32.zero_and]
theorem x_stepsBy (hH : H ≤ 7) (hp : ∀ h, p h < 49) (h3 : ∀ h, h < H → M 1 3 h = nI (p h)) {R r h c : Nat} (hT : TB p H a M R) (hR : r ≤ R) (hr : r < 128) (hg : gdr a r) (hh : h < H) (hb : bt (nI r) h = true) (hc : c < 49) : f_X2_stepsBy M 1 (nI c) (nI r) (nI h) = some (nI (gd2 p H r c h)) := by
  obtain ⟨b1, b2⟩ := rb1 r hr h (by omega) hb
  have e1 : nI r &&& (((1 : Int32) <<< (nI h &&& 31)) ^^^ -1) = nI (r - 2 ^ h) := b2
  have e2 : nI (r - 2 ^ h) * 7 + nI h = nI ((r - 2 ^ h) * 7 + h) := by rw [show (7 : Int32) = nI 7 from rfl, pk_mul, nI_add]
  have hpos := Nat.one_le_two_pow (n := h)
  unfold f_X2_stepsBy
  rw [e1, e2, q_gd (by omega) (by omega), q_gd (by omega) (by omega), q_cl (by omega), q_cl (by omega), h3 h hh, p_steps c hc (p h) (hp h), hT _ (by omega) (gdr_dn hr (by omega) hb hg) h hh, nI_add]
  rfl
theorem x_nextDoor (hH : H ≤ 7) (hp : ∀ h, p h < 49) (h0 : M 1 0 0 = nI H) (h3 : ∀ h, h < H → M 1 3 h = nI (p h)) {R r c : Nat} (hT : TB p H a M R) (hR : r ≤ R) (hr : r < 128) (hg : gdr a r) (hc : c < 49) : f_X2_nextDoor M 1 (nI c) (nI r) = some (oj (door p H r c)) := by
  unfold f_X2_nextDoor
  refine loopE (fun k (s : Int32 × Int32) i => f_X2_nextDoor_l10 M 1 (nI c) (nI r) k s.1 s.2 i) (fun i (s : Int32 × Int32) => (bw (fun h => bt (nI r) h) (gd2 p H r c) i = none ∧ s.1 = -9) ∨ ∃ j, bw (fun h => bt (nI r) h) (gd2 p H r c) i = some j ∧ s.1 = nI j ∧ s.2 = nI (gd2 p H r c j)) (fun o => o = some (oj (door p H r c))) H (fun k s i hi hq => ?_) (fun k s hq => ?_) H 0 10000 (-9, 0) (by omega) (by omega) (Or.inl ⟨rfl, rfl⟩)
  · show ∃ s' : Int32 × Int32, f_X2_nextDoor_l10 M 1 (nI c) (nI r) (k + 1) s.1 s.2 (nI i) = f_X2_nextDoor_l10 M 1 (nI c) (nI r) k s'.1 s'.2 (nI (i + 1)) ∧ _
    have et : ((nI r >>> (nI i &&& 31)) &&& 1 = 0) ↔ bt (nI r) i = false := q_tst (nI r) (by omega)
    have hgi := gd2_le (H := H) hp (h := i) hr hc
    rw [f_X2_nextDoor_l10, h0, if_neg (by rw [q_le (by omega) (by omega)]; omega), i_inc]
    by_cases cbt : bt (nI r) i = false
    · rw [if_pos (et.mpr cbt)]
      refine ⟨s, rfl, ?_⟩
      rw [bw_f cbt]; exact hq
    · have cbt' : bt (nI r) i = true := by simpa using cbt
      rw [if_neg (fun z => cbt (et.mp z)), x_stepsBy hH hp h3 hT hR hr hg hi cbt' hc, q_jb]
      rcases hq with ⟨q1, q2⟩ | ⟨j, q1, q2, q3⟩
      · rw [if_pos q2]
        exact ⟨(nI i, nI (gd2 p H r c i)), rfl, Or.inr ⟨i, bw_t0 cbt' q1, rfl, rfl⟩⟩
      · have hj := (bw_some i j q1).1
        have hgj := gd2_le (H := H) hp (h := j) hr hc
        have hj9 : ∀ j, j < 8 → ¬ nI j = (-9 : Int32) := by decide +kernel
        rw [if_neg (by rw [q2]; exact hj9 j (by omega)), q3]
        by_cases z : gd2 p H r c j ≤ gd2 p H r c i
        · rw [if_pos ((q_le (by omega) (by omega)).mpr z)]
          exact ⟨(s.1, nI (gd2 p H r c j)), rfl, Or.inr ⟨j, bw_t2 q1 z, q2, rfl⟩⟩
        · rw [if_neg (fun y => z ((q_le (by omega) (by omega)).mp y))]
          exact ⟨(nI i, nI (gd2 p H r c i)), rfl, Or.inr ⟨i, bw_t1 cbt' q1 (by omega), rfl, rfl⟩⟩
  · show f_X2_nextDoor_l10 M 1 (nI c) (nI r) (k + 1) s.1 s.2 (nI H) = some (oj (door p H r c))
    rw [f_X2_nextDoor_l10, h0, if_pos ((q_le (by omega) (by omega)).mpr (Nat.le_refl _))]
    unfold door
    rcases hq with ⟨q1, q2⟩ | ⟨j, q1, q2, q3⟩
    · rw [q1, q2]; rfl
    · rw [q1, q2]; rfl
theorem oj9 {o : Option Nat} {j : Nat} (h : o = some j) (hj : j < 8) : ¬ oj o = -9 := by
  have hj9 : ∀ j, j < 8 → ¬ nI j = (-9 : Int32) := by decide +kernel
  rw [h]
  exact hj9 j hj
theorem x_fewest (hH : H ≤ 7) (hp : ∀ h, p h < 49) (h0 : M 1 0 0 = nI H) (h3 : ∀ h, h < H → M 1 3 h = nI (p h)) {R r c : Nat} (hT : TB p H a M R) (hR : r ≤ R) (hr : r < 128) (hg : gdr a r) (hc : c < 49) : f_X2_fewest M 1 (nI c) (nI r) = some (nI (sp p H r c)) := by
  unfold f_X2_fewest
  rw [x_nextDoor hH hp h0 h3 hT hR hr hg hc, q_jb, sp_eq hH]
  cases q : door p H r c with
  | none => rfl
  | some j =>
    obtain ⟨d1, d2, -⟩ := door_some q
    rw [if_neg (oj9 rfl (by omega))]
    show (jb (f_X2_stepsBy M 1 (nI c) (nI r) (nI j)) fun r2 => some r2) = some (nI (gd2 p H r c j))
    rw [x_stepsBy hH hp h3 hT hR hr hg d1 d2 hc, q_jb]
theorem x_plan {w : Nat} (hH : H ≤ 7) (hp : ∀ h, p h < 49) (h0 : M 1 0 0 = nI H) (h3 : ∀ h, h < H → M 1 3 h = nI (p h)) (ha : a < 128) (hA : f_X4_owesBehind M 1 (nI w) 0 = some (nI a)) : ∃ M', f_X2_plan M 1 (nI w) = some M' ∧ (∀ o, o ≠ 15 → M' o = M o) ∧ M' 15 1 0 = nI a ∧ TB p H a M' (a + 1) := by
  unfold f_X2_plan
  rw [hA, q_jb]
  refine loopE (fun k c i => f_X2_plan_l12 1 k c i) (fun i (c : jm) => (∀ o, o ≠ 15 → c o = M o) ∧ c 15 1 0 = nI a ∧ TB p H a c i) (fun o => ∃ M', o = some M' ∧ (∀ o, o ≠ 15 → M' o = M o) ∧ M' 15 1 0 = nI a ∧ TB p H a M' (a + 1)) (a + 1) (fun k c i hi hq => ?_) (fun k c hq => ?_) (a + 1) 0 10000 _ (by omega) (by omega) ⟨fun o ho => ju_ne ho, ju_self, fun r hr => absurd hr (Nat.not_lt_zero r)⟩
  · show ∃ c', f_X2_plan_l12 1 (k + 1) c (nI i) = f_X2_plan_l12 1 k c' (nI (i + 1)) ∧ (∀ o, o ≠ 15 → c' o = M o) ∧ c' 15 1 0 = nI a ∧ TB p H a c' (i + 1)
    obtain ⟨q1, q2, q3⟩ := hq
    rw [f_X2_plan_l12, q2, if_neg (by rw [q_lt (by omega) (by omega)]; omega)]
    by_cases hg : gdr a i
    · have hg' : nI i &&& (nI a ^^^ -1) = 0 := hg
      rw [if_pos hg']
      refine loopE (fun kk c' h => f_X2_plan_l37 1 (f_X2_plan_l12 1 k) (nI i) kk c' h) (fun h (c' : jm) => (∀ o, o ≠ 15 → c' o = M o) ∧ c' 15 1 0 = nI a ∧ TB p H a c' i ∧ ∀ h', h' < h → c' 15 0 (i * 7 + h') = nI (sp p H i (p h'))) (fun o => ∃ c', o = f_X2_plan_l12 1 k c' (nI (i + 1)) ∧ (∀ o, o ≠ 15 → c' o = M o) ∧ c' 15 1 0 = nI a ∧ TB p H a c' (i + 1)) H (fun kk c' h hh hq' => ?_) (fun kk c' hq' => ?_) H 0 10000 c (by omega) (by omega) ⟨q1, q2, q3, fun h' hh' => absurd hh' (Nat.not_lt_zero h')⟩
      · show ∃ c2, f_X2_plan_l37 1 (f_X2_plan_l12 1 k) (nI i) (kk + 1) c' (nI h) = f_X2_plan_l37 1 (f_X2_plan_l12 1 k) (nI i) kk c2 (nI (h + 1)) ∧ (∀ o, o ≠ 15 → c2 o = M o) ∧ c2 15 1 0 = nI a ∧ TB p H a c2 i ∧ ∀ h', h' < h + 1 → c2 15 0 (i * 7 + h') = nI (sp p H i (p h'))
        obtain ⟨u1, u2, u3, u4⟩ := hq'
        have c0 : c' 1 0 0 = nI H := by rw [u1 1 (by omega)]; exact h0
        have c3 : ∀ h, h < H → c' 1 3 h = nI (p h) := fun h hh => by rw [u1 1 (by omega)]; exact h3 h hh
        have e2 : nI i * 7 + nI h = nI (i * 7 + h) := by rw [show (7 : Int32) = nI 7 from rfl, pk_mul, nI_add]
        rw [f_X2_plan_l37, c0, if_neg (by rw [q_le (by omega) (by omega)]; omega), q_gd (by omega) (by omega), q_cl (by omega), c3 h hh, x_fewest hH hp c0 c3 u3 (Nat.le_refl _) (by omega) hg (hp h), q_jb, e2, q_gd (by omega) (by omega), q_cl (by omega), i_inc]
        refine ⟨_, rfl, fun o ho => by rw [ju_ne ho, u1 o ho], by rw [ju_g (by omega)]; exact u2, fun r hr hgr h' hh' => ?_, fun h' hh' => ?_⟩
        · rw [ju_o, if_neg (by omega)]; exact u3 r hr hgr h' hh'
        · rw [ju_o]
          by_cases z : h' = h
          · rw [z, if_pos ⟨rfl, rfl⟩]
          · rw [if_neg (by omega)]; exact u4 h' (by omega)
      · show ∃ c2, f_X2_plan_l37 1 (f_X2_plan_l12 1 k) (nI i) (kk + 1) c' (nI H) = f_X2_plan_l12 1 k c2 (nI (i + 1)) ∧ (∀ o, o ≠ 15 → c2 o = M o) ∧ c2 15 1 0 = nI a ∧ TB p H a c2 (i + 1)
        obtain ⟨u1, u2, u3, u4⟩ := hq'
        rw [f_X2_plan_l37, show c' 1 0 0 = nI H by rw [u1 1 (by omega)]; exact h0, if_pos ((q_le (by omega) (by omega)).mpr (Nat.le_refl _)), i_inc]
        refine ⟨c', rfl, u1, u2, fun r hr hgr h' hh' => ?_⟩
        by_cases z : r = i
        · rw [z]; exact u4 h' hh'
        · exact u3 r (by omega) hgr h' hh'
    · have hg' : ¬ nI i &&& (nI a ^^^ -1) = 0 := hg
      rw [if_neg hg', i_inc]
      refine ⟨c, rfl, q1, q2, fun r hr hgr h' hh' => ?_⟩
      by_cases z : r = i
      · rw [z] at hgr; exact absurd hgr hg
      · exact q3 r (by omega) hgr h' hh'
  · show ∃ M', f_X2_plan_l12 1 (k + 1) c (nI (a + 1)) = some M' ∧ (∀ o, o ≠ 15 → M' o = M o) ∧ M' 15 1 0 = nI a ∧ TB p H a M' (a + 1)
    obtain ⟨q1, q2, q3⟩ := hq
    rw [f_X2_plan_l12, q2, if_pos (by rw [q_lt (by omega) (by omega)]; omega)]
    exact ⟨c, rfl, q1, q2, q3⟩
theorem x_stopL (hH : H ≤ 7) (hp : ∀ h, p h < 49) (h0 : M 1 0 0 = nI H) (h3 : ∀ h, h < H → M 1 3 h = nI (p h)) (hT : TB p H a M (a + 1)) {n : Nat} (hn : n < 2 ^ 31) : ∀ d i r c k, i + d = 7 → d < k → r < 128 → r ≤ a → gdr a r → c < 49 → cb r H ≤ d → i ≤ n → f_X2_stop_l12 M 1 (nI n) k (nI r) (nI c) (nI i) = some (oj (dr p H (n - i) r c)) := by
  intro d
  induction d with
  | zero =>
    intro i r c k hi hk hr ha hg hc hcb hin
    obtain ⟨k, rfl⟩ : ∃ j, k = j + 1 := ⟨k - 1, by omega⟩
    rw [f_X2_stop_l12, if_pos (by rw [show (7 : Int32) = nI 7 from rfl, q_le (by omega) (by omega)]; omega), dr_none hH (n - i) r c hr (by omega)]
    rfl
  | succ d ih =>
    intro i r c k hi hk hr ha hg hc hcb hin
    obtain ⟨k, rfl⟩ : ∃ j, k = j + 1 := ⟨k - 1, by omega⟩
    rw [f_X2_stop_l12, if_neg (by rw [show (7 : Int32) = nI 7 from rfl, q_le (by omega) (by omega)]; omega), x_nextDoor hH hp h0 h3 hT (by omega) hr hg hc, q_jb]
    cases q : door p H r c with
    | none =>
      rw [dr_n q]; rfl
    | some j =>
      obtain ⟨d1, d2, -⟩ := door_some q
      have hcb2 := cb_dn hH hr d1 d2
      obtain ⟨b1, b2⟩ := rb1 r hr j (by omega) d2
      have e1 : nI r &&& (((1 : Int32) <<< (nI j &&& 31)) ^^^ -1) = nI (r - 2 ^ j) := b2
      rw [if_neg (oj9 rfl (by omega))]
      show (if nI i = nI n then some (nI j) else jgd (nI j) 8 (f_X2_stop_l12 M 1 (nI n) k (nI r &&& (((1 : Int32) <<< (nI j &&& 31)) ^^^ -1)) (M 1 3 (Int32.toNatClampNeg (nI j))) (nI i + 1))) = _
      by_cases z : i = n
      · rw [if_pos (by rw [z]), show n - i = 0 by omega]
        show _ = some (oj (door p H r c))
        rw [q]; rfl
      · rw [if_neg (fun y => z ((q_eq (by omega) hn).mp y)), q_gd (by omega) (by omega), q_cl (by omega), e1, h3 j d1, i_inc, ih (i + 1) (r - 2 ^ j) (p j) k (by omega) (by omega) (Nat.lt_of_le_of_lt (Nat.sub_le _ _) hr) (Nat.le_trans (Nat.sub_le _ _) ha) (gdr_dn hr (by omega) d2 hg) (hp j) (by omega) (by omega), show n - i = (n - (i + 1)) + 1 by omega, dr_s q]
end Xr

/-! the reference's round of doors -/
section Mp
variable {M : jm} {p : Nat → Nat} {H : Nat}
def vld (H e : Nat) : Prop := e < H ∨ e = 7
theorem m_l22 (hH : H ≤ 7) (hp : ∀ h, p h < 49) (h0 : M 16 0 0 = nI H) (h3 : ∀ e, vld H e → M 16 3 e = nI (p e)) {r e : Nat} (hr : r < 128) (he : e < 8) (hT : ∀ r', r' < r → ∀ h, h < H → M 16 33 (8 * r' + h) = nI (sp p H r' (p h))) (K2 K11 : jm → Int32 → Option jm) : ∃ v, f_X6_layPaying_l22 K2 K11 (nI r) (nI e) 10000 M (-1) (nI 0) = K11 (ju M 16 33 (8 * r + e) v) (nI (e + 1)) ∧ (vld H e → v = nI (sp p H r (p e))) := by
  have ei : (8 : Int32) * nI r + nI e = nI (8 * r + e) := by rw [show (8 : Int32) = nI 8 from rfl, pk_mul, nI_add]
  refine loopE (fun k (v : Int32) i => f_X6_layPaying_l22 K2 K11 (nI r) (nI e) k M v i) (fun i (v : Int32) => vld H e → (bw (fun h => bt (nI r) h) (gd2 p H r (p e)) i = none ∧ v = -1) ∨ ∃ j, bw (fun h => bt (nI r) h) (gd2 p H r (p e)) i = some j ∧ v = nI (gd2 p H r (p e) j)) (fun o => ∃ v, o = K11 (ju M 16 33 (8 * r + e) v) (nI (e + 1)) ∧ (vld H e → v = nI (sp p H r (p e)))) H (fun k v i hi hq => ?_) (fun k v hq => ?_) H 0 10000 (-1) (by omega) (by omega) (fun _ => Or.inl ⟨rfl, rfl⟩)
  · show ∃ v', f_X6_layPaying_l22 K2 K11 (nI r) (nI e) (k + 1) M v (nI i) = f_X6_layPaying_l22 K2 K11 (nI r) (nI e) k M v' (nI (i + 1)) ∧ (vld H e → (bw (fun h => bt (nI r) h) (gd2 p H r (p e)) (i + 1) = none ∧ v' = -1) ∨ ∃ j, bw (fun h => bt (nI r) h) (gd2 p H r (p e)) (i + 1) = some j ∧ v' = nI (gd2 p H r (p e) j))
    rw [f_X6_layPaying_l22, h0, if_neg (by rw [q_le (by omega) (by omega)]; omega), m_hasBit (nI r) (by omega), i_inc]
    by_cases cbt : bt (nI r) i = true
    · obtain ⟨b1, -⟩ := rb1 r hr i (by omega) cbt
      have e1 : nI r - (1 : Int32) <<< (nI i &&& 31) = nI (r - 2 ^ i) := by
        rw [show (1 : Int32) <<< (nI i &&& 31) = nI (2 ^ i) from bi_eq i (by omega), pk_sub b1]
      have hs : r - 2 ^ i ≤ r := Nat.sub_le _ _
      have hpos := Nat.one_le_two_pow (n := i)
      have e2 : (8 : Int32) * nI (r - 2 ^ i) + nI i = nI (8 * (r - 2 ^ i) + i) := by rw [show (8 : Int32) = nI 8 from rfl, pk_mul, nI_add]
      obtain ⟨u, hu⟩ : ∃ u, u = f_X6_stepsOf (M 16 3 e) (M 16 3 i) + M 16 33 (8 * (r - 2 ^ i) + i) := ⟨_, rfl⟩
      have hu2 : vld H e → u = nI (gd2 p H r (p e) i) := by
        intro hv
        rw [hu, h3 e hv, h3 i (Or.inl hi), m_stepsOf _ (hp e) _ (hp i), hT (r - 2 ^ i) (by omega) i hi, nI_add]; rfl
      have hgi := gd2_le (H := H) hp (h := i) hr (hp e)
      rw [if_pos cbt, if_neg z10, q_gd (by omega) (by omega), q_gd (by omega) (by omega), e1, e2, q_gd (by omega) (by omega), q_cl (by omega), q_cl (by omega), q_cl (by omega), ← hu]
      by_cases c1 : v < 0
      · rw [if_pos c1]
        refine ⟨u, rfl, fun hv => Or.inr ⟨i, ?_, hu2 hv⟩⟩
        rcases hq hv with ⟨q1, q2⟩ | ⟨j, q1, q2⟩
        · exact bw_t0 cbt q1
        · have hgj := gd2_le (H := H) hp (h := j) hr (hp e)
          rw [q2] at c1
          exact absurd c1 (r_lo' (by omega))
      · rw [if_neg c1]
        by_cases c2 : v ≤ u
        · rw [if_pos c2]
          refine ⟨v, rfl, fun hv => ?_⟩
          rcases hq hv with ⟨q1, q2⟩ | ⟨j, q1, q2⟩
          · exact absurd (by rw [q2]; decide) c1
          · have hgj := gd2_le (H := H) hp (h := j) hr (hp e)
            rw [q2, hu2 hv, q_le (by omega) (by omega)] at c2
            exact Or.inr ⟨j, bw_t2 q1 c2, q2⟩
        · rw [if_neg c2]
          refine ⟨u, rfl, fun hv => ?_⟩
          rcases hq hv with ⟨q1, q2⟩ | ⟨j, q1, q2⟩
          · exact absurd (by rw [q2]; decide) c1
          · have hgj := gd2_le (H := H) hp (h := j) hr (hp e)
            rw [q2, hu2 hv, q_le (by omega) (by omega)] at c2
            exact Or.inr ⟨i, bw_t1 cbt q1 (by omega), hu2 hv⟩
    · rw [if_neg cbt, if_pos z00]
      refine ⟨v, rfl, fun hv => ?_⟩
      rw [bw_f (by simpa using cbt)]
      exact hq hv
  · show ∃ v', f_X6_layPaying_l22 K2 K11 (nI r) (nI e) (k + 1) M v (nI H) = K11 (ju M 16 33 (8 * r + e) v') (nI (e + 1)) ∧ (vld H e → v' = nI (sp p H r (p e)))
    rw [f_X6_layPaying_l22, h0, if_pos ((q_le (by omega) (by omega)).mpr (Nat.le_refl _)), ei, q_gd (by omega) (by omega), q_gd (by omega) (by omega), q_cl (by omega), i_inc]
    by_cases c1 : 0 ≤ v
    · rw [if_pos c1]
      refine ⟨v, rfl, fun hv => ?_⟩
      rw [sp_eq hH]
      unfold door
      rcases hq hv with ⟨q1, q2⟩ | ⟨j, q1, q2⟩
      · rw [q2] at c1; exact absurd c1 (by decide)
      · rw [q1, q2]; rfl
    · rw [if_neg c1]
      refine ⟨0, rfl, fun hv => ?_⟩
      rw [sp_eq hH]
      unfold door
      rcases hq hv with ⟨q1, q2⟩ | ⟨j, q1, q2⟩
      · rw [q1]; rfl
      · have hgj := gd2_le (H := H) hp (h := j) hr (hp e)
        rw [q2] at c1
        exact absurd (r_lo (by omega)) c1
def TR (p : Nat → Nat) (H : Nat) (M : jm) : Prop := ∀ r, r < 128 → ∀ e, e < 8 → vld H e → M 16 33 (8 * r + e) = nI (sp p H r (p e))
theorem m_layPaying (hH : H ≤ 7) (hp : ∀ h, p h < 49) (h0 : M 16 0 0 = nI H) (h3 : ∀ e, vld H e → M 16 3 e = nI (p e)) : ∃ M', f_X6_layPaying M = some M' ∧ (∀ o, o ≠ 16 → M' o = M o) ∧ (∀ f, f ≠ 33 → M' 16 f = M 16 f) ∧ TR p H M' := by
  unfold f_X6_layPaying
  refine loopE (fun k c i => f_X6_layPaying_l2 k c i) (fun i (c : jm) => (∀ o, o ≠ 16 → c o = M o) ∧ (∀ f, f ≠ 33 → c 16 f = M 16 f) ∧ ∀ r, r < i → ∀ e, e < 8 → vld H e → c 16 33 (8 * r + e) = nI (sp p H r (p e))) (fun o => ∃ M', o = some M' ∧ (∀ o, o ≠ 16 → M' o = M o) ∧ (∀ f, f ≠ 33 → M' 16 f = M 16 f) ∧ TR p H M') 128 (fun k c i hi hq => ?_) (fun k c hq => ?_) 128 0 10000 M (by omega) (by omega) ⟨fun _ _ => rfl, fun _ _ => rfl, fun r hr => absurd hr (Nat.not_lt_zero r)⟩
  · show ∃ c', f_X6_layPaying_l2 (k + 1) c (nI i) = f_X6_layPaying_l2 k c' (nI (i + 1)) ∧ (∀ o, o ≠ 16 → c' o = M o) ∧ (∀ f, f ≠ 33 → c' 16 f = M 16 f) ∧ ∀ r, r < i + 1 → ∀ e, e < 8 → vld H e → c' 16 33 (8 * r + e) = nI (sp p H r (p e))
    obtain ⟨q1, q2, q3⟩ := hq
    rw [f_X6_layPaying_l2, if_neg (by rw [show (128 : Int32) = nI 128 from rfl, q_le (by omega) (by omega)]; omega)]
    refine loopE (fun kk c' e => f_X6_layPaying_l11 (f_X6_layPaying_l2 k) (nI i) kk c' e) (fun e (c' : jm) => (∀ o, o ≠ 16 → c' o = M o) ∧ (∀ f, f ≠ 33 → c' 16 f = M 16 f) ∧ (∀ r, r < i → ∀ e, e < 8 → vld H e → c' 16 33 (8 * r + e) = nI (sp p H r (p e))) ∧ ∀ e', e' < e → vld H e' → c' 16 33 (8 * i + e') = nI (sp p H i (p e'))) (fun o => ∃ c', o = f_X6_layPaying_l2 k c' (nI (i + 1)) ∧ (∀ o, o ≠ 16 → c' o = M o) ∧ (∀ f, f ≠ 33 → c' 16 f = M 16 f) ∧ ∀ r, r < i + 1 → ∀ e, e < 8 → vld H e → c' 16 33 (8 * r + e) = nI (sp p H r (p e))) 8 (fun kk c' e he hq' => ?_) (fun kk c' hq' => ?_) 8 0 10000 c (by omega) (by omega) ⟨q1, q2, q3, fun e' he' => absurd he' (Nat.not_lt_zero e')⟩
    · show ∃ c2, f_X6_layPaying_l11 (f_X6_layPaying_l2 k) (nI i) (kk + 1) c' (nI e) = f_X6_layPaying_l11 (f_X6_layPaying_l2 k) (nI i) kk c2 (nI (e + 1)) ∧ (∀ o, o ≠ 16 → c2 o = M o) ∧ (∀ f, f ≠ 33 → c2 16 f = M 16 f) ∧ (∀ r, r < i → ∀ e, e < 8 → vld H e → c2 16 33 (8 * r + e) = nI (sp p H r (p e))) ∧ ∀ e', e' < e + 1 → vld H e' → c2 16 33 (8 * i + e') = nI (sp p H i (p e'))
      obtain ⟨u1, u2, u3, u4⟩ := hq'
      rw [f_X6_layPaying_l11, if_neg (by rw [show (8 : Int32) = nI 8 from rfl, q_le (by omega) (by omega)]; omega)]
      obtain ⟨v, g1, g2⟩ := m_l22 (M := c') hH hp (by rw [u2 0 (by omega)]; exact h0) (fun e he => by rw [u2 3 (by omega)]; exact h3 e he) hi he (fun r' hr' h hh => u3 r' hr' h (by omega) (Or.inl hh)) (f_X6_layPaying_l2 k) (f_X6_layPaying_l11 (f_X6_layPaying_l2 k) (nI i) kk)
      refine ⟨_, g1, fun o ho => by rw [ju_ne ho, u1 o ho], fun f hf => by rw [ju_f hf, u2 f hf], fun r hr e' he' hv => ?_, fun e' he' hv => ?_⟩
      · rw [ju_o, if_neg (by omega)]; exact u3 r hr e' he' hv
      · rw [ju_o]
        by_cases z : e' = e
        · rw [z, if_pos ⟨rfl, rfl⟩]; rw [z] at hv; exact g2 hv
        · rw [if_neg (by omega)]; exact u4 e' (by omega) hv
    · show ∃ c2, f_X6_layPaying_l11 (f_X6_layPaying_l2 k) (nI i) (kk + 1) c' (nI 8) = f_X6_layPaying_l2 k c2 (nI (i + 1)) ∧ (∀ o, o ≠ 16 → c2 o = M o) ∧ (∀ f, f ≠ 33 → c2 16 f = M 16 f) ∧ ∀ r, r < i + 1 → ∀ e, e < 8 → vld H e → c2 16 33 (8 * r + e) = nI (sp p H r (p e))
      obtain ⟨u1, u2, u3, u4⟩ := hq'
      rw [f_X6_layPaying_l11, if_pos (by decide), i_inc]
      refine ⟨c', rfl, u1, u2, fun r hr e he hv => ?_⟩
      by_cases z : r = i
      · rw [z]; exact u4 e he hv
      · exact u3 r (by omega) e he hv
  · show ∃ M', f_X6_layPaying_l2 (k + 1) c (nI 128) = some M' ∧ (∀ o, o ≠ 16 → M' o = M o) ∧ (∀ f, f ≠ 33 → M' 16 f = M 16 f) ∧ TR p H M'
    obtain ⟨q1, q2, q3⟩ := hq
    rw [f_X6_layPaying_l2, if_pos (by decide)]
    exact ⟨c, rfl, q1, q2, fun r hr e he hv => q3 r hr e he hv⟩
theorem m_nextOn (hH : H ≤ 7) (hp : ∀ h, p h < 49) (h3 : ∀ e, vld H e → M 16 3 e = nI (p e)) (hT : TR p H M) {r e j : Nat} (hr : r < 128) (he : e < 8) (hv : vld H e) (hd : door p H r (p e) = some j) : f_X6_nextOn M (nI r) (nI e) = some (nI j) := by
  obtain ⟨d1, d2, d3⟩ := door_some hd
  have hspv : sp p H r (p e) = gd2 p H r (p e) j := by rw [sp_eq hH, hd]; rfl
  have er : (8 : Int32) * nI r + nI e = nI (8 * r + e) := by rw [show (8 : Int32) = nI 8 from rfl, pk_mul, nI_add]
  have hgj := gd2_le (H := H) hp (h := j) hr (hp e)
  -- one look at a house whose bit is set
  have look : ∀ k i, i ≤ j → bt (nI r) i = true → f_X6_nextOn_l2 M (nI r) (nI e) (k + 1) (nI i) = if gd2 p H r (p e) i = gd2 p H r (p e) j then some (nI i) else f_X6_nextOn_l2 M (nI r) (nI e) k (nI (i + 1)) := by
    intro k i hi cbt
    obtain ⟨b1, -⟩ := rb1 r hr i (by omega) cbt
    have e1 : nI r - (1 : Int32) <<< (nI i &&& 31) = nI (r - 2 ^ i) := by
      rw [show (1 : Int32) <<< (nI i &&& 31) = nI (2 ^ i) from bi_eq i (by omega), pk_sub b1]
    have hs : r - 2 ^ i ≤ r := Nat.sub_le _ _
    have e2 : (8 : Int32) * nI (r - 2 ^ i) + nI i = nI (8 * (r - 2 ^ i) + i) := by rw [show (8 : Int32) = nI 8 from rfl, pk_mul, nI_add]
    have hgi := gd2_le (H := H) hp (h := i) hr (hp e)
    have hu : f_X6_stepsOf (M 16 3 e) (M 16 3 i) + M 16 33 (8 * (r - 2 ^ i) + i) = nI (gd2 p H r (p e) i) := by
      rw [h3 e hv, h3 i (Or.inl (by omega)), m_stepsOf _ (hp e) _ (hp i), hT (r - 2 ^ i) (by omega) i (by omega) (Or.inl (by omega)), nI_add]; rfl
    rw [f_X6_nextOn_l2, m_hasBit (nI r) (by omega), if_pos cbt, if_neg z10, q_gd (by omega) (by omega), q_gd (by omega) (by omega), e1, e2, q_gd (by omega) (by omega), er, q_gd (by omega) (by omega), q_cl (by omega), q_cl (by omega), q_cl (by omega), q_cl (by omega), hu, hT r hr e he hv, hspv, i_inc]
    by_cases z : gd2 p H r (p e) i = gd2 p H r (p e) j
    · rw [if_pos (by rw [z]), if_pos z]
    · rw [if_neg (fun y => z ((q_eq (by omega) (by omega)).mp y)), if_neg z]
  unfold f_X6_nextOn
  refine loopE (fun k (_ : Unit) i => f_X6_nextOn_l2 M (nI r) (nI e) k i) (fun _ _ => True) (fun o => o = some (nI j)) j (fun k a i hi _ => ?_) (fun k a _ => ?_) j 0 10000 () (by omega) (by omega) trivial
  · refine ⟨(), ?_, trivial⟩
    show f_X6_nextOn_l2 M (nI r) (nI e) (k + 1) (nI i) = f_X6_nextOn_l2 M (nI r) (nI e) k (nI (i + 1))
    by_cases cbt : bt (nI r) i = true
    · rw [look k i (by omega) cbt, if_neg]
      have := d3 i hi cbt
      omega
    · rw [f_X6_nextOn_l2, m_hasBit (nI r) (by omega), if_neg cbt, if_pos z00, i_inc]
  · show f_X6_nextOn_l2 M (nI r) (nI e) (k + 1) (nI j) = some (nI j)
    rw [look k j (Nat.le_refl j) d2, if_pos rfl]
theorem m_round (hH : H ≤ 7) (hp : ∀ h, p h < 49) (h3 : ∀ e, vld H e → M 16 3 e = nI (p e)) (hT : TR p H M) {n : Nat} (hn : n < 7) : ∀ d i r e k, i + d = n + 1 → d < k → r < 128 → e < 8 → vld H e → d ≤ cb r H → f_X6_payAll_l108 (nI n) k M (nI r) (nI e) (nI i) = some (if d = 0 then nI e else oj (dr p H (d - 1) r (p e)), M) := by
  intro d
  induction d with
  | zero =>
    intro i r e k hi hk hr he hv hcb
    obtain ⟨k, rfl⟩ : ∃ j, k = j + 1 := ⟨k - 1, by omega⟩
    rw [f_X6_payAll_l108, if_pos (by rw [q_lt (by omega) (by omega)]; omega), if_pos rfl]
  | succ d ih =>
    intro i r e k hi hk hr he hv hcb
    obtain ⟨k, rfl⟩ : ∃ j, k = j + 1 := ⟨k - 1, by omega⟩
    cases q : door p H r (p e) with
    | none => have := door_none q; omega
    | some j =>
      obtain ⟨d1, d2, -⟩ := door_some q
      have hcb2 := cb_dn hH hr d1 d2
      obtain ⟨b1, -⟩ := rb1 r hr j (by omega) d2
      have e1 : nI r - (1 : Int32) <<< (nI j &&& 31) = nI (r - 2 ^ j) := by
        rw [show (1 : Int32) <<< (nI j &&& 31) = nI (2 ^ j) from bi_eq j (by omega), pk_sub b1]
      rw [f_X6_payAll_l108, if_neg (by rw [q_lt (by omega) (by omega)]; omega), m_nextOn hH hp h3 hT hr he hv q, q_jb, e1, i_inc, ih (i + 1) (r - 2 ^ j) j k (by omega) (by omega) (Nat.lt_of_le_of_lt (Nat.sub_le _ _) hr) (by omega) (Or.inl d1) (by omega), if_neg (show ¬ d + 1 = 0 by omega), show d + 1 - 1 = d by omega]
      by_cases z : d = 0
      · rw [if_pos z, z]
        show _ = some (oj (door p H r (p e)), M)
        rw [q]; rfl
      · rw [if_neg z]
        obtain ⟨d', rfl⟩ : ∃ d', d = d' + 1 := ⟨d - 1, by omega⟩
        rw [dr_s q]; rfl
end Mp
section Asks
variable {M M1 M2 : jm} {S : St} {σ : vl}
theorem RM_7 (hR : RM (M 16) σ) (hH : vH σ ≤ 7) (x : Int32) : RM (ju M 16 3 7 x 16) σ := by
  obtain ⟨r1, r2, r3, r4, r5, r6⟩ := hR
  refine ⟨by rw [ju_g (by omega)]; exact r1, by rw [ju_g (by omega)]; exact r2, by rw [ju_g (by omega)]; exact r3, fun h hh => ?_, fun w hw => ?_, fun w hw h hh => ?_⟩
  · rw [ju_g (by omega), ju_g (by omega), ju_g (show 4 ≠ 3 by omega), ju_o, if_neg (by omega)]; exact r4 h hh
  · rw [ju_g (by omega), ju_g (by omega), ju_g (by omega)]; exact r5 w hw
  · rw [ju_g (by omega)]; exact r6 w hw h hh
theorem ok_payAll (hJ : JJ M S) (a b : Int32) : OK (f_X5_payAll M a b) (fun M1 => f_X6_payAll M1 a b) := by
  obtain ⟨h0, h5, hB⟩ := J_C hJ; have hf := J_f hJ; have hH := hf.1; have hW := hf.2.1.2.1
  have hH := hf.1; have hW := hf.2.1.2.1
  by_cases c1 : okv (vW (sv S)) a = true
  · obtain ⟨w, hw, rfl⟩ := okv_ex (by omega) c1
    by_cases c2 : (-1 : Int32) ≤ b
    · obtain ⟨p, hpd⟩ : ∃ p : Nat → Nat, p = fun h => if h < vH (sv S) then sv S 3 h else sv S 6 w := ⟨_, rfl⟩
      obtain ⟨A, hA⟩ : ∃ A, A = bs (owe (sv S) 0 w) (vH (sv S)) := ⟨_, rfl⟩
      have hwl := hf.2.1.2.2.2.1 w hw
      have hp : ∀ h, p h < 49 := by
        intro h
        rw [hpd]
        show (if h < vH (sv S) then sv S 3 h else sv S 6 w) < 49
        by_cases z : h < vH (sv S)
        · rw [if_pos z]; exact (hf.2.1.2.2.1 h z).2.2.1
        · rw [if_neg z]; exact hwl.1
      have p7 : p 7 = sv S 6 w := by rw [hpd]; exact if_neg (by omega)
      have ph : ∀ h, h < vH (sv S) → p h = sv S 3 h := fun h hh => by rw [hpd]; exact if_pos hh
      have hA7 : A < 128 := by
        have h1 := bs_lt (owe (sv S) 0 w) (vH (sv S))
        have h2 : 2 ^ vH (sv S) ≤ 2 ^ 7 := Nat.pow_le_pow_right (by omega) hH
        rw [hA]; omega
      have hcb : cb A (vH (sv S)) = cn (owe (sv S) 0 w) (vH (sv S)) := by
        unfold cb
        refine cn_congr _ (fun i hi => ?_)
        rw [hA, bs_bt _ (by omega) _ (by omega), decide_eq_true hi, Bool.true_and]
      have ow : f_X4_owesBehind M 1 (nI w) 0 = some (nI A) := by rw [hA]; exact p_owesBehind h0 hB hf.2.1 hw (n := 0) (by omega)
      have m3 : ∀ h, h < vH (sv S) → M 1 3 h = nI (p h) := fun h hh => by rw [ph h hh]; exact (hB.2.1 h hh).2.2.1
      obtain ⟨B, x1, x2, x3, x4⟩ := x_plan (p := p) hH hp h0 m3 hA7 ow
      have hgA : gdr A A := by
        unfold gdr
        have : ∀ x : Int32, x &&& (x ^^^ -1) = 0 := fun x => by
          apply b_ext
          intro i hi
          rw [b_and, b_xor, bt_m1 i hi, b_0]
          cases bt x i <;> rfl
        exact this _
      have B1 : B 1 = M 1 := x2 1 (by omega)
      have b0 : B 1 0 0 = nI (vH (sv S)) := by rw [B1]; exact h0
      have b3 : ∀ h, h < vH (sv S) → B 1 3 h = nI (p h) := fun h hh => by rw [B1]; exact m3 h hh
      have b6 : B 1 6 w = nI (p 7) := by rw [B1, p7]; exact (hB.2.2.1 w hw).1
      have hbB : RB (B 1) (sv S) (vH (sv S)) := by rw [B1]; exact hB
      -- the reference
      have ref : ∀ M1 : jm, RM (M1 16) (sv S) → wg (sv S) → ∃ C : jm, (∀ t, 0 ≤ t → f_X6_payAll_j28 (ju M1 16 11 0 0) (nI w) b t = (if 0 ≤ b then (jb (f_X6_onesOf (nI A)) fun r5 => (if b < r5 then (f_X6_payAll_l108 b 10000 C (nI A) 7 0) else (some ((-9), C)))) else (jgd ((8 * nI A) + 7) 1024 (jb (f_X6_priceOf C (nI w)) fun r8 => (some (((3 * (C 16 33 (Int32.toNatClampNeg ((8 * nI A) + 7)))) + r8), C)))))) ∧ RM (C 16) (sv S) ∧ frK M1 C ∧ TR p (vH (sv S)) C ∧ (∀ e, vld (vH (sv S)) e → C 16 3 e = nI (p e)) := by
        intro M1 hR hg
        have hRc : RM (ju M1 16 11 0 0 16) (sv S) := RM_ct hR
        have e6 : ju M1 16 11 0 0 16 6 w = nI (sv S 6 w) := (hRc.2.2.2.2.1 w hw).1
        have hR7 : RM (ju (ju M1 16 11 0 0) 16 3 7 (nI (sv S 6 w)) 16) (sv S) := RM_7 hRc hH _
        have h37 : ∀ e, vld (vH (sv S)) e → ju (ju M1 16 11 0 0) 16 3 7 (nI (sv S 6 w)) 16 3 e = nI (p e) := by
          intro e he
          rcases he with he | he
          · rw [(hR7.2.2.2.1 e he).2.2.1, ph e he]
          · rw [he, ju_self, p7]
        obtain ⟨C, g1, g2, g3, g4⟩ := m_layPaying (M := ju (ju M1 16 11 0 0) 16 3 7 (nI (sv S 6 w))) hH hp hR7.1 h37
        have hRC : RM (C 16) (sv S) := RM_fe (fun f hf => g3 f (by omega)) hR7
        refine ⟨C, fun t ht => ?_, hRC, ⟨fun o ho => by rw [g2 o ho, ju_ne ho, ju_ne ho], fun f hf => by unfold kp at hf; rw [g3 f (by omega), ju_f (by omega), ju_f (by omega)]⟩, g4, fun e he => by rw [g3 3 (by omega)]; exact h37 e he⟩
        have e7 : Int32.toNatClampNeg 7 = 7 := rfl
        have g7 : ∀ {α : Type} (x : Option α), jgd 7 8 x = x := fun x => q_gd (i := 7) (n := 8) (by omega) (by omega)
        unfold f_X6_payAll_j28
        rw [if_pos ht, q_gd (by omega) (by omega), g7, e7, q_cl (by omega), e6, g1, q_jb, m_owesBits hRC hg hw, q_jb, ← hA]
      have e87 : (8 : Int32) * nI A + 7 = nI (8 * A + 7) := by rw [show (8 : Int32) = nI 8 from rfl, pk_mul]; exact nI_add (8 * A) 7
      have hx0 : ∀ X : Option (Int32 × jm), f_X5_payAll M (nI w) b = X ↔ (if b = (-1) then (jb (f_X4_priceBehind B 1 (nI w) 0) fun r4 => (jgd (nI w) 6 (jb (f_X2_fewest B 1 (nI (p 7)) (nI A)) fun r5 => (some ((r4 + (3 * r5)), B))))) else (jgd (nI w) 6 (jb (f_X2_stop B 1 (nI (p 7)) b) fun r3 => (some (r3, B))))) = X := by
        intro X
        unfold f_X5_payAll
        rw [show f_X4_hasWalker M 1 (nI w) = nI 1 from by rw [p_hasW h5, if_pos c1], if_neg z10]
        rw [if_pos c2, x1, q_jb, q_cl (by omega), b6, x3]
      by_cases c3 : b = -1
      · have hx : f_X5_payAll M (nI w) b = some (nI (price (sv S) 0 w) + 3 * nI (sp p (vH (sv S)) A (p 7)), B) := by
          rw [hx0, if_pos c3, show f_X4_priceBehind B 1 (nI w) 0 = some (nI (price (sv S) 0 w)) from p_priceBehind (n := 0) b0 hbB hf.2.1 hw (by omega), q_jb, q_gd (by omega) (by omega), x_fewest hH hp b0 b3 x4 (by omega) hA7 hgA (hp 7), q_jb]
        refine OK_q hJ hx (fun o _ _ h15 => x2 o h15) (fun hR hg => ?_)
        obtain ⟨C, g1, g2, g3, g4, g5⟩ := ref B hR hg
        refine ⟨C, ?_, g2, g3⟩
        show f_X6_payAll B (nI w) b = _
        unfold f_X6_payAll
        rw [m_isWalker (RM_ct hR) hg, if_pos c1, if_neg z10, if_pos c2, g1 0 n0, if_neg (by rw [c3]; decide), e87, q_gd (by omega) (by omega), m_priceOf g2 hg hw, q_jb, q_cl (by omega), g4 A hA7 7 (by omega) (Or.inr rfl), Int32.add_comm]
      · have hb0 : ∃ n, n < 2 ^ 31 ∧ b = nI n := by
          obtain ⟨n, h1, h2⟩ := nI_of (x := b) (fun z => c3 (by
            apply Int32.toInt_inj.mp
            rw [Int32.lt_iff_toInt_lt] at z
            rw [Int32.le_iff_toInt_le] at c2
            have e0 : (0 : Int32).toInt = 0 := rfl
            have e1 : (-1 : Int32).toInt = -1 := rfl
            omega))
          exact ⟨n, h1, h2⟩
        obtain ⟨n, hn, rfl⟩ := hb0
        have hcbl : cb A (vH (sv S)) ≤ 7 := Nat.le_trans (cn_le _ _) hH
        have hst : f_X2_stop B 1 (nI (p 7)) (nI n) = some (oj (dr p (vH (sv S)) n A (p 7))) := by
          unfold f_X2_stop
          rw [x3, show (0 : Int32) = nI 0 from rfl, x_stopL hH hp b0 b3 x4 hn 7 0 A (p 7) 10000 (by omega) (by omega) hA7 (Nat.le_refl _) hgA (hp 7) hcbl (Nat.zero_le _)]; rfl
        have hx : f_X5_payAll M (nI w) (nI n) = some (oj (dr p (vH (sv S)) n A (p 7)), B) := by
          rw [hx0, if_neg c3, q_gd (by omega) (by omega), hst, q_jb]
        refine OK_q hJ hx (fun o _ _ h15 => x2 o h15) (fun hR hg => ?_)
        obtain ⟨C, g1, g2, g3, g4, g5⟩ := ref B hR hg
        refine ⟨C, ?_, g2, g3⟩
        show f_X6_payAll B (nI w) (nI n) = _
        unfold f_X6_payAll
        rw [m_isWalker (RM_ct hR) hg, if_pos c1, if_neg z10, if_pos c2, g1 0 n0, if_pos (r_lo hn), show f_X6_onesOf (nI A) = some (nI (cb A (vH (sv S)))) by rw [hcb, hA]; exact m_onesOf (by omega), q_jb]
        by_cases c4 : n < cb A (vH (sv S))
        · have := m_round (M := C) hH hp g5 g4 (n := n) (by omega) (n + 1) 0 A 7 10000 (by omega) (by omega) hA7 (by omega) (Or.inr rfl) (by omega)
          rw [if_pos (by rw [q_lt hn (by omega)]; exact c4)]
          refine this.trans ?_
          rw [if_neg (show ¬ n + 1 = 0 by omega), show n + 1 - 1 = n by omega]
        · rw [if_neg (by rw [q_lt hn (by omega)]; exact c4), dr_none hH n A (p 7) hA7 (by omega)]; rfl
    · refine OK_ref (k := 4) (by omega) hJ ?_ (fun M1 e16 _ => ?_)
      · unfold f_X5_payAll
        rw [show f_X4_hasWalker M 1 (nI w) = nI 1 from by rw [p_hasW h5, if_pos c1], if_neg z10]
        rw [if_neg c2]; rfl
      · show f_X6_payAll M1 (nI w) b = _
        unfold f_X6_payAll
        rw [m_isWalker (J_R hJ e16) (wg_of hf), if_pos c1, if_neg z10, if_neg c2]
        unfold f_X6_payAll_j28
        rw [if_neg n4]; rfl
  · refine OK_ref (k := 1) (by omega) hJ ?_ (fun M1 e16 _ => ?_)
    · unfold f_X5_payAll
      rw [show f_X4_hasWalker M 1 a = nI 0 from by rw [p_hasW h5, if_neg c1], if_pos z00]; rfl
    · show f_X6_payAll M1 a b = _
      unfold f_X6_payAll
      rw [m_isWalker (J_R hJ e16) (wg_of hf), if_neg c1, if_pos z00]
      unfold f_X6_payAll_j28
      rw [if_neg n1]; rfl
end Asks

/-! the law's own loop: its beginning and its steps -/
def S0 : St := mkS (fun _ _ => 0) 0 (fun _ _ _ => 0) 0 (fun _ _ => 0) 0 (fun _ => 0) 0 (fun _ => 0) (fun _ => 0)
theorem jM0_0 {o k i : Nat} (h : ¬ (1 ≤ o ∧ o ≤ 11 ∧ k = 9)) : jM0 o k i = 0 := if_neg h
theorem jM0_9 {o i : Nat} (h : 1 ≤ o ∧ o ≤ 11) : jM0 o 9 i = -1 := if_pos ⟨h.1, h.2, rfl⟩
theorem wf_00 : wf (fun _ _ => 0) := ⟨Nat.zero_le 7, ⟨Nat.zero_le 8, Nat.zero_le 6, fun h hh => absurd hh (Nat.not_lt_zero h), fun w hw => absurd hw (Nat.not_lt_zero w), fun _ _ => Nat.zero_le 100⟩, fun _ _ _ => rfl, Nat.zero_le 999⟩
theorem JJ_start : JJ jM0 S0 := by
  refine ⟨⟨⟨?_, ?_, ?_, fun h hh => absurd hh (Nat.not_lt_zero h), fun w hw => absurd hw (Nat.not_lt_zero w), fun w hw h hh => ?_⟩, ?_, ⟨0, by omega, ?_, fun i hi => absurd hi (Nat.not_lt_zero i)⟩, ?_, fun h => absurd h (by decide), ?_, fun i hi => absurd hi (Nat.not_lt_zero i), ?_, fun i hi => absurd hi (Nat.not_lt_zero i), fun k hk => ?_⟩, ⟨⟨?_, ?_, ?_, fun h hh => absurd hh (Nat.not_lt_zero h), fun w hw => absurd hw (Nat.not_lt_zero w), fun w hw h hh => ?_⟩, ?_, fun i hi => absurd hi (Nat.not_lt_zero i), ?_, fun h => absurd h (by decide), ?_, fun i hi => absurd hi (Nat.not_lt_zero i), ?_, fun i hi => absurd hi (Nat.not_lt_zero i), fun k hk => ?_⟩, ⟨wf_00, Nat.zero_le 8, fun i hi => absurd hi (Nat.not_lt_zero i), Nat.zero_le 1, fun _ => wf_00, Nat.zero_le 96, fun i hi => absurd hi (Nat.not_lt_zero i), Nat.zero_le 12, fun i hi => absurd hi (Nat.not_lt_zero i)⟩⟩
  · exact jM0_0 (by omega)
  · exact jM0_0 (by omega)
  · exact jM0_0 (by omega)
  · exact jM0_9 (by omega)
  · exact jM0_0 (by omega)
  · exact jM0_0 (by omega)
  · exact jM0_0 (by omega)
  · exact jM0_0 (by omega)
  · exact jM0_0 (by omega)
  · exact jM0_0 (by omega)
  · exact jM0_0 (by omega)
  · exact jM0_0 (by omega)
  · exact jM0_0 (by omega)
  · exact jM0_0 (by omega)
  · exact jM0_0 (by omega)
  · exact jM0_0 (by omega)
  · exact jM0_0 (by omega)
  · exact jM0_0 (by omega)
  · exact jM0_0 (by omega)
section Steps
variable {M : jm} {S : St}
theorem ite_1 {c : Prop} [Decidable c] {a b : Option Int32} (h1 : c → a = some 1) (h2 : ¬ c → b = some 1) : (if c then a else b) = some 1 := by
  by_cases h : c
  · rw [if_pos h]; exact h1 h
  · rw [if_neg h]; exact h2 h
theorem s_ok {R : Type} [DecidableEq R] {a : Option (R × jm)} {b : jm → Option (R × jm)} {K : jm → Option Int32} (h : OK a b) (hK : ∀ M' S', JJ M' S' → K M' = some 1) : (jb2 a fun r N => jb2 (b N) fun r' N' => if r = r' then K N' else some 0) = some 1 := by
  obtain ⟨r, M1, M2, S', e1, e2, hJ'⟩ := h
  rw [e1, q_jb2, e2, q_jb2, if_pos rfl]
  exact hK M2 S' hJ'
theorem s_ok0 {R : Type} [DecidableEq R] {a : Option R} {b : jm → Option (R × jm)} {K : jm → Option Int32} (h : OK0 M a b) (hK : ∀ M' S', JJ M' S' → K M' = some 1) : (jb a fun r => jb2 (b M) fun r' N' => if r = r' then K N' else some 0) = some 1 := by
  obtain ⟨r, M2, S', e1, e2, hJ'⟩ := h
  rw [e1, q_jb, e2, q_jb2, if_pos rfl]
  exact hK M2 S' hJ'
theorem s_okL {a : Option (Int64 × jm)} {b : jm → Option (Int64 × jm)} {K : jm → Option Int32} (h : OK a b) (hK : ∀ M' S', JJ M' S' → K M' = some 1) : (jb2 a fun r N => jb2 (b N) fun r' N' => if lg_cmp r r' = 0 then K N' else some 0) = some 1 := by
  obtain ⟨r, M1, M2, S', e1, e2, hJ'⟩ := h
  rw [e1, q_jb2, e2, q_jb2, if_pos (by unfold lg_cmp; simp)]
  exact hK M2 S' hJ'
theorem s_t {R R' : Type} {a : Option (R × jm)} {b : jm → Option (R' × jm)} {K : jm → Option Int32} (h : OT a b) (hK : ∀ M' S', JJ M' S' → K M' = some 1) : (jb2 a fun _ N => jb2 (b N) fun _ N' => K N') = some 1 := by
  obtain ⟨r, r', M1, M2, S', e1, e2, hJ'⟩ := h
  rw [e1, q_jb2, e2, q_jb2]
  exact hK M2 S' hJ'
theorem s_t0 {R R' : Type} {a : Option R} {b : jm → Option (R' × jm)} {K : jm → Option Int32} (h : OT0 M a b) (hK : ∀ M' S', JJ M' S' → K M' = some 1) : (jb a fun _ => jb2 (b M) fun _ N' => K N') = some 1 := by
  obtain ⟨r, r', M2, S', e1, e2, hJ'⟩ := h
  rw [e1, q_jb, e2, q_jb2]
  exact hK M2 S' hJ'
theorem OK_t0 {R : Type} {a : Option R} {b : jm → Option (R × jm)} (h : OK0 M a b) : OT0 M a b := by
  obtain ⟨r, M2, S', h1, h2, h3⟩ := h
  exact ⟨r, r, M2, S', h1, h2, h3⟩
theorem nI_lim {L i : Nat} (hL : L < 2 ^ 20) (hi : i < 2 ^ 20) : Int32.ofNat L - 6 < nI i ↔ L < i + 6 := by
  rw [show Int32.ofNat L = nI L from rfl, show (6 : Int32) = nI 6 from rfl, Int32.lt_iff_toInt_lt, pk_sub_toInt (by omega) (by omega), nI_toInt (by omega)]
  omega
theorem okv_00 (v : Int32) : ¬ okv 0 v = true := by
  rw [okv_iff]
  rintro ⟨h1, h2⟩
  rw [Int32.le_iff_toInt_le] at h1
  rw [Int32.lt_iff_toInt_lt] at h2
  omega
/-- where no walker is -/
theorem ok_what0 (hJ : JJ M S) (h : vW (sv S) = 0) (a b c : Int32) : OK (f_X5_whatKind M a b c) (fun M1 => f_X6_whatKind M1 a b c) := by
  obtain ⟨h0, h5, hB⟩ := J_C hJ; have hf := J_f hJ; have hH := hf.1; have hW := hf.2.1.2.1
  have c1 : ¬ okv (vW (sv S)) a = true := by rw [h]; exact okv_00 a
  refine OK_ref (k := 1) (by omega) hJ ?_ (fun M1 e16 _ => ?_)
  · unfold f_X5_whatKind
    rw [show f_X4_hasWalker M 1 a = nI 0 from by rw [p_hasW h5, if_neg c1], if_pos z00]; rfl
  · show f_X6_whatKind M1 a b c = _
    unfold f_X6_whatKind
    rw [m_wb1 (J_R hJ e16) (wg_of hf) c1, wb_no (by decide), if_neg n1]; rfl
theorem ok_way0 (hJ : JJ M S) (h : vW (sv S) = 0) (a b c : Int32) : OK (f_X5_way M a b c) (fun M1 => f_X6_way M1 a b c) := by
  obtain ⟨h0, h5, hB⟩ := J_C hJ; have hf := J_f hJ; have hH := hf.1; have hW := hf.2.1.2.1
  have c1 : ¬ okv (vW (sv S)) a = true := by rw [h]; exact okv_00 a
  refine OK_ref (k := 1) (by omega) hJ ?_ (fun M1 e16 _ => ?_)
  · unfold f_X5_way
    rw [show f_X4_hasWalker M 1 a = nI 0 from by rw [p_hasW h5, if_neg c1], if_pos z00]; rfl
  · show f_X6_way M1 a b c = _
    unfold f_X6_way
    rw [m_isWalker (J_R hJ e16) (wg_of hf), if_neg c1, if_pos z00]
    unfold f_X6_way_j24 f_X6_way_j25
    rw [wb_no (by decide), if_neg n1]; rfl
end Steps
