/-! folds that both sides make -/
def amf (g : Nat → Nat) (i : Nat) (a : Int32 × Int32) : Int32 × Int32 := if nI (g i) ≤ a.2 then a else (nI i, nI (g i))
theorem bs_lt8 {p : Nat → Bool} {n : Nat} (h : n ≤ 8) : bs p n < 256 := by
  have h1 := bs_lt p n
  have h2 : 2 ^ n ≤ 2 ^ 8 := Nat.pow_le_pow_right (by decide) h
  omega
theorem bs_0 {p : Nat → Bool} : ∀ n, bs p n = 0 ↔ ∀ i, i < n → p i = false
  | 0 => ⟨fun _ i hi => by omega, fun _ => rfl⟩
  | n + 1 => by
    have h2 : 0 < 2 ^ n := Nat.two_pow_pos n
    show bs p n + (if p n then 2 ^ n else 0) = 0 ↔ _
    constructor
    · intro h i hi
      by_cases e : i = n
      · subst e
        by_cases q : p i = true
        · rw [if_pos q] at h; omega
        · simpa using q
      · exact (bs_0 n).mp (by omega) i (by omega)
    · intro h
      rw [(bs_0 n).mpr (fun i hi => h i (by omega)), h n (by omega)]; rfl
section Asks
variable {M : jm} {S : St}
theorem OK_refg {R : Type} {a : Option (R × jm)} {b : jm → Option (R × jm)} (g : Int32 → R) {k : Nat} (hk : k < 7) (hJ : JJ M S) (ha : a = jb2 (f_X5_refuse M (-nI k)) fun r M' => some (g r, M')) (hb : ∀ M1, M1 16 = M 16 → (∀ o, o ≠ 0 → M1 o = M o) → b M1 = jb2 (f_X6_refuse (ct M1) (-nI k)) fun r M' => some (g r, M')) : OK a b := by
  refine ⟨g (-nI k), _, _, rfS S k, by rw [ha, x_refuse hk, q_jb2], by rw [hb _ (ju_ne (by omega)) (fun o ho => ju_ne ho), m_refuse hk, q_jb2], JJ_ref hk hJ⟩
-- who went
theorem mq_whoWent {M : jm} {σ : vl} (hR : RM (M 16) σ) (hf : wg σ) {h : Nat} (hh : h < vH σ) : ∃ M2, f_X6_whoWent M (nI h) = some (nI (bs (fun w => decide (σ 6 w = σ 3 h) && owe σ 0 w h) (vW σ)), M2) ∧ RM (M2 16) σ ∧ frK M M2 := by
  have hH := hf.1; have hW := hf.2.1.2.1
  unfold f_X6_whoWent
  have hc1 : RM ((ju M 16 11 0 0) 16) σ := RM_ct hR; have hc2 : frK M (ju M 16 11 0 0) := frK_ct M; generalize ju M 16 11 0 0 = N at hc1 hc2 ⊢
  refine ⟨N, ?_, hc1, hc2⟩
  rw [show f_X6_isHouse N (nI h) = nI 1 from by rw [m_isHouse hc1 hf, if_pos ((okv_nI (by omega) (by omega)).mpr hh)], if_neg z10]
  simp only [q_lit]
  rw [loop0 (L := fun k a i => f_X6_whoWent_l23 (nI h) k N a i) (f := fun i z => if (decide (σ 6 i = σ 3 h) && owe σ 0 i h) then z ||| bi i else z) (K := fun a => some (a, N)) (n := vW σ)]
  · rw [ff_bs (fun w => decide (σ 6 w = σ 3 h) && owe σ 0 w h) _ (by omega)]
  · intro k a i hi
    have hd := hf.2.1.2.2.2.2 i h
    obtain ⟨g1, g2, g3⟩ := hc1.2.2.2.2.1 i hi
    obtain ⟨l1, l2, l3, l4⟩ := hc1.2.2.2.1 h hh
    obtain ⟨b1, b2, b3⟩ := hf.2.1.2.2.2.1 i hi
    obtain ⟨k1, k2, k3, k4⟩ := hf.2.1.2.2.1 h hh
    simp only [f_X6_whoWent_l23]
    rw [if_neg (by rw [hc1.2.1, q_le (by omega) (by omega)]; omega)]
    simp (disch := omega) only [q_lit, nI_add, pk_mul, q_gd, q_cl, hc1.2.2.2.2.2 i (by omega) h (by omega), q_pos, q_or0, g1, l3, q_eq]
    by_cases z : σ (20 + i) h = 0
    · rw [if_pos z]; simp [owe, dk, z]
    · rw [if_neg z]
      by_cases z2 : σ 6 i = σ 3 h
      · rw [if_pos z2]; simp [owe, dk, z, z2]; rfl
      · rw [if_neg z2]; simp [owe, dk, z, z2]
  · intro k a
    simp only [f_X6_whoWent_l23]
    rw [if_pos (by rw [hc1.2.1, q_le (by omega) (by omega)]; omega)]
  · omega
theorem ok_whoWent (hJ : JJ M S) (a : Int32) : OK (f_X5_whoWent M a) (fun M1 => f_X6_whoWent M1 a) := by
  obtain ⟨h0, h5, hB⟩ := J_C hJ; have hf := J_f hJ; have hH := hf.1; have hW := hf.2.1.2.1
  by_cases c1 : okv (vH (sv S)) a = true
  · obtain ⟨h, hh, rfl⟩ := okv_ex (by omega) c1
    refine OK_q hJ (M1 := M) (r := nI (bs (fun w => decide ((sv S) 6 w = (sv S) 3 h) && owe (sv S) 0 w h) (vW (sv S)))) ?_ (frC_refl M) (fun hR hg => mq_whoWent hR hg hh)
    unfold f_X5_whoWent
    rw [show f_X4_hasHouse M 1 (nI h) = nI 1 from by rw [p_hasH h0, if_pos c1], if_neg z10]
    simp only [q_lit]
    rw [loop0 (L := fun k a i => f_X5_whoWent_l21 (nI h) k M a i) (f := fun i z => if (decide ((sv S) 6 i = (sv S) 3 h) && owe (sv S) 0 i h) then z ||| bi i else z) (K := fun a => some (a, M)) (n := vW (sv S))]
    · rw [ff_bs (fun w => decide ((sv S) 6 w = (sv S) 3 h) && owe (sv S) 0 w h) _ (by omega)]
    · intro k a i hi
      have hd := hf.2.1.2.2.2.2 i h
      obtain ⟨g1, g2, g3⟩ := hB.2.2.1 i hi
      obtain ⟨l1, l2, l3, l4⟩ := hB.2.1 h hh
      obtain ⟨b1, b2, b3⟩ := hf.2.1.2.2.2.1 i hi
      obtain ⟨k1, k2, k3, k4⟩ := hf.2.1.2.2.1 h hh
      simp only [f_X5_whoWent_l21]
      rw [if_neg (by rw [h5, q_le (by omega) (by omega)]; omega)]
      simp (disch := omega) only [q_lit, nI_add, q_gd, q_cl, g1, l3, q_eq, p_owes hB hf.2.1 (show i < 6 by omega) (show h < 8 by omega), q_jb]
      by_cases z2 : (sv S) 6 i = (sv S) 3 h
      · rw [if_pos z2]
        by_cases z : (sv S) (20 + i) h = 0
        · rw [if_pos z, if_pos rfl]; simp [owe, dk, z]
        · rw [if_neg z, if_neg (by decide)]; simp [owe, dk, z, z2]; rfl
      · rw [if_neg z2]; simp [z2]
    · intro k a
      simp only [f_X5_whoWent_l21]
      rw [if_pos (by rw [h5, q_le (by omega) (by omega)]; omega)]
    · omega
  · refine OK_ref (k := 1) (by omega) hJ ?_ (fun M1 e16 _ => ?_)
    · unfold f_X5_whoWent
      rw [show f_X4_hasHouse M 1 a = nI 0 from by rw [p_hasH h0, if_neg c1], if_pos z00]; rfl
    · simp only [f_X6_whoWent]
      rw [if_pos (show f_X6_isHouse (ju M1 16 11 0 0) a = 0 from by rw [m_isHouse (J_R hJ e16) (wg_of hf), if_neg c1]; rfl)]; rfl
-- clear
theorem clr : ∀ x, x < 64 → ∀ y, y < 64 → f_J6_bitCount_0f7a4 (nI x &&& (nI y ^^^ -1)) - f_J6_bitCount_0f7a4 (nI y &&& (nI x ^^^ -1)) = nI (popc x) - nI (popc y) := by decide +kernel
theorem ok_clear (hJ : JJ M S) (a b : Int32) : OK (f_X5_clear M a b) (fun M1 => f_X6_clear M1 a b) := by
  obtain ⟨h0, h5, hB⟩ := J_C hJ; have hf := J_f hJ; have hH := hf.1; have hW := hf.2.1.2.1
  by_cases c1 : okv (vH (sv S)) a = true
  · by_cases c2 : okv (vH (sv S)) b = true
    · by_cases c3 : a = b
      · refine OK_refg (fun r => 1000000000 - r) (k := 1) (by omega) hJ ?_ (fun M1 e16 _ => ?_)
        · unfold f_X5_clear
          rw [show f_X4_hasHouse M 1 a = nI 1 from by rw [p_hasH h0, if_pos c1], if_neg z10]
          rw [show f_X4_hasHouse M 1 b = nI 1 from by rw [p_hasH h0, if_pos c2], if_neg z10]
          rw [if_pos c3]; rfl
        · simp only [f_X6_clear]
          rw [if_neg (show ¬ f_X6_isHouse (ju M1 16 11 0 0) a = 0 from by rw [m_isHouse (J_R hJ e16) (wg_of hf), if_pos c1]; decide), if_neg (show ¬ f_X6_isHouse (ju M1 16 11 0 0) b = 0 from by rw [m_isHouse (J_R hJ e16) (wg_of hf), if_pos c2]; decide), if_pos c3]; rfl
      · obtain ⟨h, hh, rfl⟩ := okv_ex (by omega) c1
        obtain ⟨j, hj, rfl⟩ := okv_ex (by omega) c2
        refine OK_q hJ (M1 := M) (r := nI (cn (fun w => owe (sv S) 0 w h) (vW (sv S))) - nI (cn (fun w => owe (sv S) 0 w j) (vW (sv S)))) ?_ (frC_refl M) (fun hR hg => ?_)
        · unfold f_X5_clear
          rw [show f_X4_hasHouse M 1 (nI h) = nI 1 from by rw [p_hasH h0, if_pos c1], if_neg z10]
          rw [show f_X4_hasHouse M 1 (nI j) = nI 1 from by rw [p_hasH h0, if_pos c2], if_neg z10]
          rw [if_neg c3, show (0 : Int32) = nI 0 from rfl, p_owersBehind hB hf.2.1 hh (by omega), q_jb, p_owersBehind hB hf.2.1 hj (by omega), q_jb]
          have l1 := bs_lt (fun w => owe (sv S) 0 w h) (vW (sv S))
          have l2 := bs_lt (fun w => owe (sv S) 0 w j) (vW (sv S))
          have l3 : 2 ^ vW (sv S) ≤ 2 ^ 6 := Nat.pow_le_pow_right (by decide) hW
          rw [clr _ (by omega) _ (by omega), popc_bs _ _ (by omega), popc_bs _ _ (by omega)]
        · show ∃ M2, f_X6_clear M (nI h) (nI j) = _ ∧ _
          unfold f_X6_clear
          have hc1 : RM ((ju M 16 11 0 0) 16) (sv S) := RM_ct hR
          have hc2 : frK M (ju M 16 11 0 0) := frK_ct M
          generalize ju M 16 11 0 0 = N at hc1 hc2 ⊢
          have hf := hg
          refine ⟨N, ?_, hc1, hc2⟩
          rw [show f_X6_isHouse N (nI h) = nI 1 from by rw [m_isHouse hc1 hf, if_pos c1], if_neg z10]
          rw [show f_X6_isHouse N (nI j) = nI 1 from by rw [m_isHouse hc1 hf, if_pos c2], if_neg z10]
          rw [if_neg c3, m_owersOf hc1 hf hh, q_jb, m_onesOf (by omega), q_jb, m_owersOf hc1 hf hj, q_jb, m_onesOf (by omega), q_jb]
    · refine OK_refg (fun r => 1000000000 - r) (k := 1) (by omega) hJ ?_ (fun M1 e16 _ => ?_)
      · unfold f_X5_clear
        rw [show f_X4_hasHouse M 1 a = nI 1 from by rw [p_hasH h0, if_pos c1], if_neg z10]
        rw [show f_X4_hasHouse M 1 b = nI 0 from by rw [p_hasH h0, if_neg c2], if_pos z00]; rfl
      · simp only [f_X6_clear]
        rw [if_neg (show ¬ f_X6_isHouse (ju M1 16 11 0 0) a = 0 from by rw [m_isHouse (J_R hJ e16) (wg_of hf), if_pos c1]; decide), if_pos (show f_X6_isHouse (ju M1 16 11 0 0) b = 0 from by rw [m_isHouse (J_R hJ e16) (wg_of hf), if_neg c2]; rfl)]; rfl
  · refine OK_refg (fun r => 1000000000 - r) (k := 1) (by omega) hJ ?_ (fun M1 e16 _ => ?_)
    · unfold f_X5_clear
      rw [show f_X4_hasHouse M 1 a = nI 0 from by rw [p_hasH h0, if_neg c1], if_pos z00]; rfl
    · simp only [f_X6_clear]
      rw [if_pos (show f_X6_isHouse (ju M1 16 11 0 0) a = 0 from by rw [m_isHouse (J_R hJ e16) (wg_of hf), if_neg c1]; rfl)]; rfl
end Asks
