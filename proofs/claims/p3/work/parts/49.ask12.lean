/-! oldest -/
section Asks
variable {M : jm} {S : St} {σ : vl}
def oldw (σ : vl) (w : Nat) : Nat := mx (fun h => σ (20 + w) h) (vH σ)
def olds (σ : vl) : Nat := mx (oldw σ) (vW σ)
theorem oldw_le (hf : wg σ) (w : Nat) : oldw σ w ≤ 100 := mx_le _ (fun h _ => hf.2.1.2.2.2.2 w h)
theorem olds_le (hf : wg σ) : olds σ ≤ 100 := mx_le _ (fun w _ => oldw_le hf w)
theorem p_highestAge (h0 : M 1 0 0 = nI (vH σ)) (hB : RB (M 1) σ (vH σ)) (hf : wf σ) : f_X5_highestAge M = some (nI (olds σ) - nI 1) := by
  have hH := hf.1; have hW := hf.2.1.2.1
  have h5 := hB.1
  have hg := wg_of hf
  unfold f_X5_highestAge
  rw [show (-1 : Int32) = nI 0 - nI 1 from rfl, show (0 : Int32) = nI 0 from rfl, loop0 (L := fun k a i => f_X5_highestAge_l4 M k a i) (f := fun i z => if z < nI (oldw σ i) - nI 1 then nI (oldw σ i) - nI 1 else z) (K := fun a => some a) (n := vW σ)]
  · rw [ff_mx _ (fun i _ => oldw_le hg i)]; rfl
  · intro k z i hi
    simp only [f_X5_highestAge_l4]
    rw [if_neg (by rw [h5, q_le (by omega) (by omega)]; omega), p_highestAgeOf h0 hB hf.2.1 hi, q_jb, show nI i + 1 = nI (i + 1) from nI_add i 1]; rfl
  · intro k z
    simp only [f_X5_highestAge_l4]
    rw [if_pos (by rw [h5, q_le (by omega) (by omega)]; omega)]
  · omega
theorem ff_mxN (g : Nat → Nat) (b : Nat) (hb : b < 2 ^ 31) : ∀ n, (∀ i, i < n → g i < 2 ^ 31) → ff (fun i z => if nI (g i) ≤ z then z else nI (g i)) n 0 (nI b) = nI (max b (mx g n))
  | 0, _ => by show nI b = nI (max b 0); rw [Nat.max_eq_left (Nat.zero_le b)]
  | n + 1, h => by
    have hm : mx g n < 2 ^ 31 := by
      have := mx_le (f := g) (c := 2 ^ 31 - 1) n (fun i hi => by have := h i (by omega); omega)
      omega
    rw [ff_succ, ff_mxN g b hb n (fun i hi => h i (by omega)), Nat.zero_add]
    have hg := h n (by omega)
    show (if nI (g n) ≤ nI (max b (mx g n)) then nI (max b (mx g n)) else nI (g n)) = nI (max b (max (mx g n) (g n)))
    by_cases c : g n ≤ max b (mx g n)
    · rw [if_pos ((q_le hg (by omega)).mpr c)]; congr 1; omega
    · rw [if_neg (fun z => c ((q_le hg (by omega)).mp z))]; congr 1; omega
theorem m_oldestAge {N : jm} (hc1 : RM (N 16) σ) (hf : wg σ) : f_X6_oldestAge N = some (nI (olds σ)) := by
  have hH := hf.1; have hW := hf.2.1.2.1
  unfold f_X6_oldestAge
  rw [show (0 : Int32) = nI 0 from rfl]
  refine loopE (L := fun k a i => f_X6_oldestAge_l4 N k a i) (P := fun i a => a = nI (mx (oldw σ) i)) (Z := fun r => r = some (nI (olds σ))) (n := vW σ) ?_ ?_ (vW σ) 0 10000 (nI 0) (by omega) (by omega) rfl
  · rintro k a i hi rfl
    have hm : mx (oldw σ) i ≤ 100 := mx_le _ (fun w _ => oldw_le hf w)
    refine ⟨nI (max (mx (oldw σ) i) (oldw σ i)), ?_, rfl⟩
    simp only [f_X6_oldestAge_l4]
    rw [if_neg (by rw [hc1.2.1, q_le (by omega) (by omega)]; omega), show (0 : Int32) = nI 0 from rfl, loop0 (L := fun kk a j => f_X6_oldestAge_l14 N (f_X6_oldestAge_l4 N k) (nI i) kk a j) (f := fun j z => if nI (σ (20 + i) j) ≤ z then z else nI (σ (20 + i) j)) (K := fun a => f_X6_oldestAge_l4 N k a (nI (i + 1))) (n := vH σ) (k := 10000)]
    · rw [ff_mxN (fun j => σ (20 + i) j) _ (by omega) _ (fun j _ => by have := hf.2.1.2.2.2.2 i j; show σ (20 + i) j < 2 ^ 31; omega)]; rfl
    · intro kk z j hj
      have v9 : N 16 9 (7 * i + j) = nI (σ (20 + i) j) := hc1.2.2.2.2.2 i (by omega) j (by omega)
      simp only [f_X6_oldestAge_l14]
      rw [if_neg (by rw [hc1.1, q_le (by omega) (by omega)]; omega), idx7, q_gd (by omega) (by omega), q_gd (by omega) (by omega), q_cl (by omega), show nI j + 1 = nI (j + 1) from nI_add j 1]
      by_cases e : nI (σ (20 + i) j) ≤ z
      · rw [if_pos (show N 16 9 (7 * i + j) ≤ z by rw [v9]; exact e), if_pos e]
      · rw [if_neg (show ¬ N 16 9 (7 * i + j) ≤ z by rw [v9]; exact e), if_neg e, v9]
    · intro kk z
      simp only [f_X6_oldestAge_l14]
      rw [if_pos (by rw [hc1.1, q_le (by omega) (by omega)]; omega), show nI i + 1 = nI (i + 1) from nI_add i 1]
    · omega
  · rintro k a rfl
    simp only [f_X6_oldestAge_l4]
    rw [if_pos (by rw [hc1.2.1, q_le (by omega) (by omega)]; omega)]; rfl
end Asks
