/-! nearest, allSeen, blind, street, forgiven -/
theorem ff_smz (f : Nat → Nat) (n : Nat) (z : Int32) : ff (fun i z => z + nI (f i)) n 0 z = z + nI (sm f n) := by
  obtain ⟨b, rfl⟩ := q_all z
  rw [ff_sm, nI_add]
theorem sm_add (f g : Nat → Nat) : ∀ n, sm (fun i => f i + g i) n = sm f n + sm g n
  | 0 => rfl
  | n + 1 => by
    show sm (fun i => f i + g i) n + (f n + g n) = (sm f n + f n) + (sm g n + g n)
    rw [sm_add f g n]; omega
theorem sm_0 : ∀ n, sm (fun _ => 0) n = 0
  | 0 => rfl
  | n + 1 => by show sm (fun _ => 0) n + 0 = 0; rw [sm_0 n]
theorem sm_swap (f : Nat → Nat → Nat) (W : Nat) : ∀ H, sm (fun h => sm (fun w => f w h) W) H = sm (fun w => sm (fun h => f w h) H) W
  | 0 => (sm_0 W).symm
  | H + 1 => by
    show sm (fun h => sm (fun w => f w h) W) H + sm (fun w => f w H) W = sm (fun w => sm (fun h => f w h) H + f w H) W
    rw [sm_swap f W H, sm_add]
theorem add0 (z : Int32) : z + 0 = z := Int32.add_zero z
def OK0 {R : Type} (M : jm) (a : Option R) (b : jm → Option (R × jm)) : Prop := ∃ r M2 S', a = some r ∧ b M = some (r, M2) ∧ JJ M2 S'
section Asks
variable {M : jm} {S : St} {σ : vl}
theorem OK0_q {R : Type} {a : Option R} {b : jm → Option (R × jm)} {r : R} (hJ : JJ M S) (ha : a = some r) (hb : RM (M 16) (sv S) → wg (sv S) → ∃ M2, b M = some (r, M2) ∧ RM (M2 16) (sv S) ∧ frK M M2) : OK0 M a b := by
  obtain ⟨jc, jr, jw⟩ := hJ
  obtain ⟨M2, e2, hR, hF⟩ := hb jr.1 (wg_of jw.1)
  exact ⟨r, M2, S, ha, e2, JC_fr (fun o a _ _ _ => hF.1 o a) jc, JR_sc hR hF.2 jr, jw⟩
-- nearest
def nrX (σ : vl) (w i : Nat) (a : Int32 × Int32) : Int32 × Int32 := if σ (20 + w) i = 0 then a else if a.2 ≤ nI (stp (σ 6 w) (σ 3 i)) then a else (nI i, nI (stp (σ 6 w) (σ 3 i)))
def nrM (σ : vl) (w i : Nat) (a : Int32 × Int32) : Int32 × Int32 := if a.2 ≤ (if σ (20 + w) i = 0 then nI 99 else nI (stp (σ 6 w) (σ 3 i))) then a else (nI i, if σ (20 + w) i = 0 then nI 99 else nI (stp (σ 6 w) (σ 3 i)))
theorem nr_eq (hf : wg σ) {w : Nat} (hw : w < vW σ) : (ff (nrX σ w) (vH σ) 0 (-nI 9, nI 49)).1 = (ff (nrM σ w) (vH σ) 0 (-nI 9, nI 99)).1 := by
  refine (ff_rel (f := nrX σ w) (g := nrM σ w) (fun _ (a b : Int32 × Int32) => a.1 = b.1 ∧ ((a.2 = nI 49 ∧ b.2 = nI 99) ∨ ∃ l, l ≤ 12 ∧ a.2 = nI l ∧ b.2 = nI l)) (vH σ) 0 (-nI 9, nI 49) (-nI 9, nI 99) ⟨rfl, Or.inl ⟨rfl, rfl⟩⟩ ?_).1
  rintro j _ hj ⟨a1, a2⟩ ⟨b1, b2⟩ ⟨h1, h2⟩
  have hs := stp_lt _ (hf.2.1.2.2.2.1 w hw).1 _ (hf.2.1.2.2.1 j (by omega)).2.2.1
  simp only at h1 h2
  subst h1
  unfold nrX nrM
  by_cases z : σ (20 + w) j = 0
  · simp only [z, if_true]
    rw [if_pos]
    · exact ⟨rfl, h2⟩
    · rcases h2 with ⟨_, rfl⟩ | ⟨l, hl, _, rfl⟩
      · decide
      · exact (q_le (by omega) (by omega)).mpr (by omega)
  · simp only [z, if_false]
    rcases h2 with ⟨rfl, rfl⟩ | ⟨l, hl, rfl, rfl⟩
    · rw [if_neg (by rw [q_le (by omega) (by omega)]; omega), if_neg (by rw [q_le (by omega) (by omega)]; omega)]
      exact ⟨rfl, Or.inr ⟨_, hs, rfl, rfl⟩⟩
    · split
      · exact ⟨rfl, Or.inr ⟨l, hl, rfl, rfl⟩⟩
      · exact ⟨rfl, Or.inr ⟨_, hs, rfl, rfl⟩⟩
theorem mq_nearest (hR : RM (M 16) σ) (hf : wg σ) {w : Nat} (hw : w < vW σ) : ∃ M2, f_X6_nearest M (nI w) = some ((ff (nrM σ w) (vH σ) 0 (-nI 9, nI 99)).1, M2) ∧ RM (M2 16) σ ∧ frK M M2 := by
  have hH := hf.1; have hW := hf.2.1.2.1
  unfold f_X6_nearest
  have hc1 : RM ((ju M 16 11 0 0) 16) σ := RM_ct hR; have hc2 : frK M (ju M 16 11 0 0) := frK_ct M; generalize ju M 16 11 0 0 = N at hc1 hc2 ⊢
  refine ⟨N, ?_, hc1, hc2⟩
  rw [show f_X6_isWalker N (nI w) = nI 1 from by rw [m_isWalker hc1 hf, if_pos ((okv_nI (by omega) (by omega)).mpr hw)], if_neg z10]
  simp only [q_lit]
  rw [loop0 (L := fun k (a : Int32 × Int32) i => f_X6_nearest_l28 (nI w) k N a.1 a.2 i) (f := nrM σ w) (K := fun a => some (a.1, N)) (n := vH σ) (a := (-nI 9, nI 99))]
  · intro k a i hi
    have hd := hf.2.1.2.2.2.2 w i
    obtain ⟨g1, g2, g3⟩ := hc1.2.2.2.2.1 w hw
    obtain ⟨l1, l2, l3, l4⟩ := hc1.2.2.2.1 i hi
    simp only [f_X6_nearest_l28, f_X6_nearest_j73, f_X6_nearest_j87]
    rw [if_neg (by rw [hc1.1, q_le (by omega) (by omega)]; omega)]
    simp (disch := omega) only [q_lit, nI_add, pk_mul, q_gd, q_cl, hc1.2.2.2.2.2 w (by omega) i (by omega), q_pos, g1, l3, m_stepsOf _ (hf.2.1.2.2.2.1 w hw).1 _ (hf.2.1.2.2.1 i hi).2.2.1]
    unfold nrM
    by_cases z : σ (20 + w) i = 0
    · simp only [z, if_true]
      by_cases z2 : a.2 ≤ nI 99
      · rw [if_pos z2, if_pos z2, if_pos z2]
      · rw [if_neg z2, if_neg z2, if_neg z2]
    · simp only [z, if_false]
      by_cases z2 : a.2 ≤ nI (stp (σ 6 w) (σ 3 i))
      · rw [if_pos z2, if_pos z2, if_pos z2]
      · rw [if_neg z2, if_neg z2, if_neg z2]
  · intro k a
    simp only [f_X6_nearest_l28]
    rw [if_pos (by rw [hc1.1, q_le (by omega) (by omega)]; omega)]
  · omega
theorem ok_nearest (hJ : JJ M S) (a : Int32) : OK (f_X5_nearest M a) (fun M1 => f_X6_nearest M1 a) := by
  obtain ⟨h0, h5, hB⟩ := J_C hJ; have hf := J_f hJ; have hH := hf.1; have hW := hf.2.1.2.1
  by_cases c1 : okv (vW (sv S)) a = true
  · obtain ⟨w, hw, rfl⟩ := okv_ex (by omega) c1
    refine OK_q hJ (M1 := M) (r := (ff (nrM (sv S) w) (vH (sv S)) 0 (-nI 9, nI 99)).1) ?_ (frC_refl M) (fun hR hg => mq_nearest hR hg hw)
    unfold f_X5_nearest
    rw [show f_X4_hasWalker M 1 (nI w) = nI 1 from by rw [p_hasW h5, if_pos c1], if_neg z10]
    rw [← nr_eq (wg_of hf) hw]
    simp only [q_lit]
    rw [loop0 (L := fun k (a : Int32 × Int32) i => f_X5_nearest_l26 (nI w) k M a.1 a.2 i) (f := nrX (sv S) w) (K := fun a => some (a.1, M)) (n := vH (sv S)) (a := (-nI 9, nI 49))]
    · intro k a i hi
      have hd := hf.2.1.2.2.2.2 w i
      obtain ⟨g1, g2, g3⟩ := hB.2.2.1 w hw
      obtain ⟨l1, l2, l3, l4⟩ := hB.2.1 i hi
      simp only [f_X5_nearest_l26]
      rw [if_neg (by rw [h0, q_le (by omega) (by omega)]; omega)]
      simp (disch := omega) only [q_lit, nI_add, q_gd, q_cl, p_owes hB hf.2.1 (show w < 6 by omega) (show i < 8 by omega), q_jb, g1, l3, p_steps _ (hf.2.1.2.2.2.1 w hw).1 _ (hf.2.1.2.2.1 i hi).2.2.1]
      unfold nrX
      by_cases z : (sv S) (20 + w) i = 0
      · simp only [z, if_true]
      · simp only [z, if_false]
        rw [if_neg (by decide)]
        by_cases z2 : a.2 ≤ nI (stp ((sv S) 6 w) ((sv S) 3 i))
        · rw [if_pos z2, if_pos z2]
        · rw [if_neg z2, if_neg z2]
    · intro k a
      simp only [f_X5_nearest_l26]
      rw [if_pos (by rw [h0, q_le (by omega) (by omega)]; omega)]
    · omega
  · refine OK_ref (k := 1) (by omega) hJ ?_ (fun M1 e16 _ => ?_)
    · unfold f_X5_nearest
      rw [show f_X4_hasWalker M 1 a = nI 0 from by rw [p_hasW h5, if_neg c1], if_pos z00]; rfl
    · simp only [f_X6_nearest]
      rw [if_pos (show f_X6_isWalker (ju M1 16 11 0 0) a = 0 from by rw [m_isWalker (J_R hJ e16) (wg_of hf), if_neg c1]; rfl)]; rfl
-- allSeen
def asf (σ : vl) (h i : Nat) (z : Int32) : Int32 := if nI (rch (σ 1 h) (σ 2 h)) < nI (stp i (σ 3 h)) then z else z + nI 1
theorem mq_allSeen (hR : RM (M 16) σ) (hf : wg σ) {h : Nat} (hh : h < vH σ) : ∃ M2, f_X6_allSeen M (nI h) = some (ff (asf σ h) 49 0 (nI 0), M2) ∧ RM (M2 16) σ ∧ frK M M2 := by
  have hH := hf.1; have hW := hf.2.1.2.1
  unfold f_X6_allSeen
  have hc1 : RM ((ju M 16 11 0 0) 16) σ := RM_ct hR; have hc2 : frK M (ju M 16 11 0 0) := frK_ct M; generalize ju M 16 11 0 0 = N at hc1 hc2 ⊢
  refine ⟨N, ?_, hc1, hc2⟩
  rw [show f_X6_isHouse N (nI h) = nI 1 from by rw [m_isHouse hc1 hf, if_pos ((okv_nI (by omega) (by omega)).mpr hh)], if_neg z10]
  simp only [q_lit]
  rw [loop0 (L := fun k a i => f_X6_allSeen_l23 (nI h) k N a i) (f := asf σ h) (K := fun a => some (a, N)) (n := 49)]
  · intro k a i hi
    obtain ⟨l1, l2, l3, l4⟩ := hc1.2.2.2.1 h hh
    simp only [f_X6_allSeen_l23]
    rw [if_neg (by rw [show (49 : Int32) = nI 49 from rfl, q_le (by omega) (by omega)]; omega), m_reachOf hc1 hf hh, q_jb, add0]
    simp (disch := omega) only [q_lit, nI_add, q_gd, q_cl, l3, m_stepsOf _ hi _ (hf.2.1.2.2.1 h hh).2.2.1]
    unfold asf
    split <;> rfl
  · intro k a
    simp only [f_X6_allSeen_l23]
    rw [if_pos (by rw [show (49 : Int32) = nI 49 from rfl, q_le (by omega) (by omega)]; omega)]
  · omega
theorem ok_allSeen (hJ : JJ M S) (a : Int32) : OK (f_X5_allSeen M a) (fun M1 => f_X6_allSeen M1 a) := by
  obtain ⟨h0, h5, hB⟩ := J_C hJ; have hf := J_f hJ; have hH := hf.1; have hW := hf.2.1.2.1
  by_cases c1 : okv (vH (sv S)) a = true
  · obtain ⟨h, hh, rfl⟩ := okv_ex (by omega) c1
    obtain ⟨l1, l2, l3, l4⟩ := hB.2.1 h hh
    obtain ⟨k1, k2, k3, k4⟩ := hf.2.1.2.2.1 h hh
    refine OK_q hJ (M1 := M) (r := ff (asf (sv S) h) 49 0 (nI 0)) ?_ (frC_refl M) (fun hR hg => mq_allSeen hR hg hh)
    unfold f_X5_allSeen
    rw [show f_X4_hasHouse M 1 (nI h) = nI 1 from by rw [p_hasH h0, if_pos c1], if_neg z10]
    rw [q_gd (by omega) (by omega), q_gd (by omega) (by omega), q_cl (by omega), l1, l2, p_reach _ k1 _ k2]
    simp only [q_lit]
    rw [loop0 (L := fun k a i => f_X5_allSeen_l44 (nI h) (nI (rch ((sv S) 1 h) ((sv S) 2 h))) k M a i) (f := asf (sv S) h) (K := fun a => some (a, M)) (n := 49)]
    · intro k a i hi
      simp only [f_X5_allSeen_l44]
      rw [if_neg (by rw [show (49 : Int32) = nI 49 from rfl, q_le (by omega) (by omega)]; omega)]
      simp (disch := omega) only [q_lit, nI_add, q_gd, q_cl, l3, p_steps _ hi _ k3]
      unfold asf
      split <;> rfl
    · intro k a
      simp only [f_X5_allSeen_l44]
      rw [if_pos (by rw [show (49 : Int32) = nI 49 from rfl, q_le (by omega) (by omega)]; omega)]
    · omega
  · refine OK_ref (k := 1) (by omega) hJ ?_ (fun M1 e16 _ => ?_)
    · unfold f_X5_allSeen
      rw [show f_X4_hasHouse M 1 a = nI 0 from by rw [p_hasH h0, if_neg c1], if_pos z00]; rfl
    · simp only [f_X6_allSeen]
      rw [if_pos (show f_X6_isHouse (ju M1 16 11 0 0) a = 0 from by rw [m_isHouse (J_R hJ e16) (wg_of hf), if_neg c1]; rfl)]; rfl
-- blind
theorem ok_blind (hJ : JJ M S) : OK0 M (f_X5_blind M) (fun M1 => f_X6_blind M1) := by
  obtain ⟨h0, h5, hB⟩ := J_C hJ; have hf := J_f hJ; have hH := hf.1; have hW := hf.2.1.2.1
  refine OK0_q hJ (r := nI (bs (fun w => decide (bs (see (sv S) w ((sv S) 6 w)) (vH (sv S)) = 0)) (vW (sv S)))) ?_ (fun hR hg => ?_)
  · unfold f_X5_blind
    simp only [q_lit]
    rw [loop0 (L := fun k a i => f_X5_blind_l4 M k a i) (f := fun w z => if decide (bs (see (sv S) w ((sv S) 6 w)) (vH (sv S)) = 0) then z ||| bi w else z) (K := fun a => some a) (n := vW (sv S))]
    · rw [ff_bs (fun w => decide (bs (see (sv S) w ((sv S) 6 w)) (vH (sv S)) = 0)) _ (by omega)]
    · intro k a i hi
      have hb := bs_lt8 (p := see (sv S) i ((sv S) 6 i)) (n := vH (sv S)) (by omega)
      simp only [f_X5_blind_l4]
      rw [if_neg (by rw [h5, q_le (by omega) (by omega)]; omega), q_gd (by omega) (by omega), q_cl (by omega), (hB.2.2.1 i hi).1, p_seesFrom h0 hB hf.2.1 hi (hf.2.1.2.2.2.1 i hi).1, q_jb]
      simp (disch := omega) only [q_lit, nI_add, q_eq]
      by_cases z : bs (see (sv S) i ((sv S) 6 i)) (vH (sv S)) = 0
      · rw [if_pos z]; simp [z]; rfl
      · rw [if_neg z]; simp [z]
    · intro k a
      simp only [f_X5_blind_l4]
      rw [if_pos (by rw [h5, q_le (by omega) (by omega)]; omega)]
    · omega
  · show ∃ M2, f_X6_blind M = _ ∧ _
    unfold f_X6_blind
    have hc1 : RM ((ju M 16 11 0 0) 16) (sv S) := RM_ct hR
    have hc2 : frK M (ju M 16 11 0 0) := frK_ct M
    generalize ju M 16 11 0 0 = N at hc1 hc2 ⊢
    refine ⟨N, ?_, hc1, hc2⟩
    simp only [q_lit]
    rw [loop0 (L := fun k a i => f_X6_blind_l9 k N a i) (f := fun w z => if decide (bs (see (sv S) w ((sv S) 6 w)) (vH (sv S)) = 0) then z ||| bi w else z) (K := fun a => some (a, N)) (n := vW (sv S))]
    · rw [ff_bs (fun w => decide (bs (see (sv S) w ((sv S) 6 w)) (vH (sv S)) = 0)) _ (by omega)]
    · intro k a i hi
      have hb := bs_lt8 (p := see (sv S) i ((sv S) 6 i)) (n := vH (sv S)) (by omega)
      simp only [f_X6_blind_l9]
      rw [if_neg (by rw [hc1.2.1, q_le (by omega) (by omega)]; omega), q_gd (by omega) (by omega), q_cl (by omega), (hc1.2.2.2.2.1 i hi).1, m_seenFrom hc1 hg hi (hf.2.1.2.2.2.1 i hi).1, q_jb]
      simp (disch := omega) only [q_lit, nI_add, q_eq, q_or0]
      by_cases z : bs (see (sv S) i ((sv S) 6 i)) (vH (sv S)) = 0
      · rw [if_pos z]; simp [z]; rfl
      · rw [if_neg z]; simp [z]
    · intro k a
      simp only [f_X6_blind_l9]
      rw [if_pos (by rw [hc1.2.1, q_le (by omega) (by omega)]; omega)]
    · omega
end Asks
