/-! oldest: whose, the lane, the dark ones -/
theorem mx_ge {f : Nat → Nat} {i : Nat} : ∀ n, i < n → f i ≤ mx f n
  | 0, h => by omega
  | n + 1, h => by
    show f i ≤ max (mx f n) (f n)
    by_cases e : i = n
    · subst e; omega
    · have := mx_ge (f := f) (i := i) n (by omega); omega
theorem mx_ex {f : Nat → Nat} : ∀ n, 0 < mx f n → ∃ i, i < n ∧ f i = mx f n
  | 0, h => absurd h (Nat.lt_irrefl 0)
  | n + 1, h => by
    have e : mx f (n + 1) = max (mx f n) (f n) := rfl
    by_cases c : mx f n ≤ f n
    · exact ⟨n, by omega, by omega⟩
    · obtain ⟨i, h1, h2⟩ := mx_ex (f := f) n (by omega)
      exact ⟨i, by omega, by omega⟩
theorem bt_m1 : ∀ i, i < 32 → bt (-1) i = true := by decide +kernel
theorem bt_ones : ∀ n, n < 8 → ∀ i, i < 32 → bt ((1 : Int32) <<< (nI n &&& 31) - 1) i = decide (i < n) := by decide +kernel
theorem bt_hi : ∀ x, x < 256 → ∀ i, i < 32 → 8 ≤ i → bt (nI x) i = false := by decide +kernel
section Asks
variable {M : jm} {S : St} {σ : vl}
theorem dark_bits {x : Int32} (hf : wg σ) (hx : ∀ h, h < vH σ → bt x h = decide (σ 4 h = 1)) : ((1 : Int32) <<< (nI (vH σ) &&& 31) - 1) &&& (x ^^^ -1) = nI (bs (fun h => decide (σ 4 h = 0)) (vH σ)) := by
  have hH := hf.1
  apply b_ext
  intro i hi
  rw [b_and, b_xor, bt_ones _ (by omega) i hi, bt_m1 i hi]
  by_cases c : i < 8
  · rw [bs_bt _ c _ (by omega)]
    by_cases c2 : i < vH σ
    · have h4 := (hf.2.1.2.2.1 i c2).2.2.2
      rw [hx i c2]
      by_cases e : σ 4 i = 1
      · simp [c2, e]
      · have e0 : σ 4 i = 0 := by omega
        simp [c2, e0]
    · simp [c2]
  · rw [bt_hi _ (bs_lt8 (by omega)) i hi (by omega)]
    simp [show ¬ i < vH σ by omega]
theorem m_oldestBy21 {N : jm} (hc1 : RM (N 16) σ) (hf : wg σ) (K : Int32 → Option Int32) {w : Nat} (hw : w < vW σ) (h0 : 0 < olds σ) : f_X6_oldestBy_l21 N K (nI (olds σ)) (nI w) 10000 0 = if oldw σ w = olds σ then some (nI w) else K (nI (w + 1)) := by
  have hH := hf.1; have hW := hf.2.1.2.1
  have hm := olds_le hf
  have hle : ∀ h, h < vH σ → σ (20 + w) h ≤ olds σ := fun h hh => Nat.le_trans (mx_ge (f := fun h => σ (20 + w) h) _ hh) (mx_ge (f := oldw σ) _ hw)
  have key : ∀ d i k, i + d = vH σ → d < k → (∀ j, j < i → σ (20 + w) j ≠ olds σ) → f_X6_oldestBy_l21 N K (nI (olds σ)) (nI w) k (nI i) = if oldw σ w = olds σ then some (nI w) else K (nI (w + 1)) := by
    intro d
    induction d with
    | zero =>
      intro i k hi hk hp
      obtain ⟨k, rfl⟩ : ∃ j, k = j + 1 := ⟨k - 1, by omega⟩
      simp only [f_X6_oldestBy_l21]
      rw [if_pos (by rw [hc1.1, q_le (by omega) (by omega)]; omega), show nI w + 1 = nI (w + 1) from nI_add w 1, if_neg]
      intro e
      obtain ⟨j, j1, j2⟩ := mx_ex (f := fun h => σ (20 + w) h) (vH σ) (by show 0 < oldw σ w; omega)
      exact hp j (by omega) (by rw [← e]; exact j2)
    | succ d ih =>
      intro i k hi hk hp
      obtain ⟨k, rfl⟩ : ∃ j, k = j + 1 := ⟨k - 1, by omega⟩
      have v9 : N 16 9 (7 * w + i) = nI (σ (20 + w) i) := hc1.2.2.2.2.2 w (by omega) i (by omega)
      have hd := hf.2.1.2.2.2.2 w i
      simp only [f_X6_oldestBy_l21]
      rw [if_neg (by rw [hc1.1, q_le (by omega) (by omega)]; omega), idx7, q_gd (by omega) (by omega), q_cl (by omega), show nI i + 1 = nI (i + 1) from nI_add i 1]
      by_cases e : σ (20 + w) i = olds σ
      · rw [if_pos (show N 16 9 (7 * w + i) = nI (olds σ) by rw [v9, e]), if_pos]
        have h1 := mx_ge (f := fun h => σ (20 + w) h) (i := i) (vH σ) (by omega)
        have h2 := mx_ge (f := oldw σ) (i := w) (vW σ) hw
        have h1' : σ (20 + w) i ≤ oldw σ w := h1
        have h2' : oldw σ w ≤ olds σ := h2
        omega
      · rw [if_neg (show ¬ N 16 9 (7 * w + i) = nI (olds σ) by rw [v9, q_eq (by omega) (by omega)]; exact e)]
        refine ih (i + 1) k (by omega) (by omega) (fun j hj => ?_)
        by_cases q : j = i
        · rw [q]; exact e
        · exact hp j (by omega)
  exact key (vH σ) 0 10000 (by omega) (by omega) (fun j hj => by omega)
theorem by_eq {N : jm} (h0 : M 1 0 0 = nI (vH σ)) (hB : RB (M 1) σ (vH σ)) (hf : wf σ) (hc1 : RM (N 16) σ) : ∃ r, f_X5_longestOwing M = some r ∧ f_X6_oldestBy N = some r := by
  have hH := hf.1; have hW := hf.2.1.2.1
  have hg := wg_of hf
  have h5 := hB.1
  have hm := olds_le hg
  unfold f_X5_longestOwing f_X6_oldestBy
  rw [p_highestAge h0 hB hf, q_jb, m_oldestAge hc1 hg, q_jb]
  have key : ∀ d i k k2, i + d = vW σ → d < k → d < k2 → ∃ r, f_X5_longestOwing_l7 M (nI (olds σ) - nI 1) k (nI i) = some r ∧ f_X6_oldestBy_l7 N (nI (olds σ)) k2 (nI i) = some r := by
    intro d
    induction d with
    | zero =>
      intro i k k2 hi hk hk2
      obtain ⟨k, rfl⟩ : ∃ j, k = j + 1 := ⟨k - 1, by omega⟩
      obtain ⟨k2, rfl⟩ : ∃ j, k2 = j + 1 := ⟨k2 - 1, by omega⟩
      refine ⟨-9, ?_, ?_⟩
      · simp only [f_X5_longestOwing_l7]
        rw [if_pos (by rw [h5, q_le (by omega) (by omega)]; omega)]
      · simp only [f_X6_oldestBy_l7]
        rw [if_pos (by rw [hc1.2.1, q_le (by omega) (by omega)]; omega)]
    | succ d ih =>
      intro i k k2 hi hk hk2
      obtain ⟨k, rfl⟩ : ∃ j, k = j + 1 := ⟨k - 1, by omega⟩
      obtain ⟨k2, rfl⟩ : ∃ j, k2 = j + 1 := ⟨k2 - 1, by omega⟩
      obtain ⟨r, x1, x2⟩ := ih (i + 1) k k2 (by omega) (by omega) (by omega)
      have hw := oldw_le hg i
      by_cases z : olds σ = 0
      · refine ⟨r, ?_, ?_⟩
        · simp only [f_X5_longestOwing_l7]
          rw [if_neg (by rw [h5, q_le (by omega) (by omega)]; omega), if_pos (show nI (olds σ) - nI 1 = (-1 : Int32) by rw [z]; rfl), show nI i + 1 = nI (i + 1) from nI_add i 1]; exact x1
        · have hr : r = -9 := by
            have k0 : ∀ k, f_X6_oldestBy_l7 N (nI (olds σ)) (k + 1) (nI (i + 1)) = some (-9) := fun k => by
              simp only [f_X6_oldestBy_l7]
              split
              · rfl
              · rw [if_pos (by rw [z]; decide)]
            obtain ⟨k3, rfl⟩ : ∃ j, k2 = j + 1 := ⟨k2 - 1, by omega⟩
            rw [k0] at x2; exact (Option.some.inj x2).symm
          simp only [f_X6_oldestBy_l7]
          rw [if_neg (by rw [hc1.2.1, q_le (by omega) (by omega)]; omega), if_pos (by rw [z]; decide), hr]
      · have e5 : f_X5_longestOwing_l7 M (nI (olds σ) - nI 1) (k + 1) (nI i) = if oldw σ i = olds σ then some (nI i) else f_X5_longestOwing_l7 M (nI (olds σ) - nI 1) k (nI (i + 1)) := by
          simp only [f_X5_longestOwing_l7]
          rw [if_neg (by rw [h5, q_le (by omega) (by omega)]; omega), if_neg (show ¬ nI (olds σ) - nI 1 = (-1 : Int32) from fun y => z ((q_m1 _ (by omega)).mp y)), p_highestAgeOf h0 hB hf.2.1 (show i < vW σ by omega), q_jb, show nI i + 1 = nI (i + 1) from nI_add i 1]
          show (if nI (oldw σ i) - nI 1 = nI (olds σ) - nI 1 then _ else _) = _
          by_cases e : oldw σ i = olds σ
          · rw [if_pos (by rw [e]), if_pos e]
          · rw [if_neg (fun y => e ?_), if_neg e]
            have := congrArg (fun t => t + nI 1) y
            simp only [Int32.sub_add_cancel] at this
            exact (q_eq (by omega) (by omega)).mp this
        have e6 : f_X6_oldestBy_l7 N (nI (olds σ)) (k2 + 1) (nI i) = if oldw σ i = olds σ then some (nI i) else f_X6_oldestBy_l7 N (nI (olds σ)) k2 (nI (i + 1)) := by
          simp only [f_X6_oldestBy_l7]
          rw [if_neg (by rw [hc1.2.1, q_le (by omega) (by omega)]; omega), if_neg (by rw [show (0 : Int32) = nI 0 from rfl, q_pos (by omega)]; exact z)]
          exact m_oldestBy21 hc1 hg _ (by omega) (by omega)
        rw [e5, e6]
        by_cases e : oldw σ i = olds σ
        · rw [if_pos e, if_pos e]; exact ⟨_, rfl, rfl⟩
        · rw [if_neg e, if_neg e]; exact ⟨r, x1, x2⟩
  exact key (vW σ) 0 10000 10000 (by omega) (by omega) (by omega)
end Asks
