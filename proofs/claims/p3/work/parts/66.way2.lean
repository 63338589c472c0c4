section Asks
variable {M M1 M2 : jm} {S : St} {σ : vl}
theorem m_way74 {c : Nat} (hc : c < 49) (v3 v5 : Int32) (x y : Int32) : ∃ r, f_X6_way_l74 (nI c) v3 v5 10000 M x y (nI 0) = some (r, M) := by
  refine loopE (fun k (a : Int32 × Int32) i => f_X6_way_l74 (nI c) v3 v5 k M a.1 a.2 i) (fun _ _ => True) (fun o => ∃ r, o = some (r, M)) 128 (fun k a i hi _ => ?_) (fun k a _ => ?_) 128 0 10000 (x, y) (by omega) (by omega) trivial
  · show ∃ a' : Int32 × Int32, f_X6_way_l74 (nI c) v3 v5 (k + 1) M a.1 a.2 (nI i) = f_X6_way_l74 (nI c) v3 v5 k M a'.1 a'.2 (nI (i + 1)) ∧ True
    have ei : (128 : Int32) * nI c + nI i = nI (128 * c + i) := by rw [show (128 : Int32) = nI 128 from rfl, pk_mul, nI_add]
    rw [f_X6_way_l74, if_neg (by rw [show (128 : Int32) = nI 128 from rfl, q_le (by omega) (by omega)]; omega), ei, q_gd (by omega) (by omega), m_onesOf0 i (by omega), q_jb, i_inc]
    obtain ⟨u, hu⟩ : ∃ u, u = M 16 30 (Int32.toNatClampNeg (nI (128 * c + i))) := ⟨_, rfl⟩
    rw [← hu]
    by_cases c1 : u < 0
    · rw [if_pos c1]; exact ⟨(a.1, a.2), rfl, trivial⟩
    rw [if_neg c1]
    by_cases c2 : v5 < u
    · rw [if_pos c2]; exact ⟨(a.1, a.2), rfl, trivial⟩
    rw [if_neg c2]
    by_cases c3 : nI (popc i) < a.1
    · rw [if_pos c3]; exact ⟨(nI (popc i), u), rfl, trivial⟩
    rw [if_neg c3]
    by_cases c4 : nI (popc i) = a.1
    · rw [if_pos c4]
      by_cases c5 : a.2 ≤ u
      · rw [if_pos c5]; exact ⟨(a.1, a.2), rfl, trivial⟩
      · rw [if_neg c5]; exact ⟨(nI (popc i), u), rfl, trivial⟩
    · rw [if_neg c4]; exact ⟨(a.1, a.2), rfl, trivial⟩
  · show ∃ r, f_X6_way_l74 (nI c) v3 v5 (k + 1) M a.1 a.2 (nI 128) = some (r, M)
    rw [f_X6_way_l74, if_pos (by decide)]
    split
    · exact ⟨_, rfl⟩
    · exact ⟨_, rfl⟩
theorem ot_way (hJ : JJ M S) (a b c : Int32) : OT (f_X5_way M a b c) (fun M1 => f_X6_way M1 a b c) := by
  obtain ⟨h0, h5, hB⟩ := J_C hJ; have hf := J_f hJ; have hH := hf.1; have hW := hf.2.1.2.1
  have hH := hf.1; have hW := hf.2.1.2.1
  by_cases c1 : okv (vW (sv S)) a = true
  · by_cases c2 : okv 49 b = true
    · obtain ⟨w, hw, rfl⟩ := okv_ex (by omega) c1
      obtain ⟨d, hd, rfl⟩ := okv_ex (by omega) c2
      by_cases c3 : okv 2 c = true
      · have hc : c = 0 ∨ c = 1 := by
          obtain ⟨j, hj, rfl⟩ := okv_ex (by omega) c3
          rcases (show j = 0 ∨ j = 1 by omega) with rfl | rfl
          · exact Or.inl rfl
          · exact Or.inr rfl
        obtain ⟨A, x1, x2⟩ := x_findE h0 hB hf hw hd
        have hx : ∃ r, f_X5_way M (nI w) (nI d) c = some (r, A) := by
          unfold f_X5_way f_X5_way_j40
          rw [show f_X4_hasWalker M 1 (nI w) = nI 1 from by rw [p_hasW h5, if_pos c1], if_neg z10]
          rw [p_isCell', if_pos c2, if_neg z10, x1, q_jb]
          rcases hc with rfl | rfl
          · rw [if_pos rfl, if_pos rfl]; exact ⟨_, rfl⟩
          · rw [if_neg (by decide), if_pos rfl, if_neg (by decide)]; exact ⟨_, rfl⟩
        obtain ⟨r, ex⟩ := hx
        refine OT_q hJ ex (fun o _ h14 _ => x2 o h14) (fun hR hg => ?_)
        obtain ⟨B, g1, g2, g3⟩ := m_layWays (M := ju A 16 11 0 0) (RM_ct hR) hg hw
        obtain ⟨r', g4⟩ := m_way74 (M := B) hd c (f_X6_stepsOf (B 16 6 (Int32.toNatClampNeg (nI w))) (nI d) + 12) 8 0
        refine ⟨r', B, ?_, RM_fe (fun f hf => by rw [g3 f (by omega) (by omega) (by omega), ju_f (by omega)]) hR, fun o ho => by rw [g2 o ho, ju_ne ho], fun f hf => by unfold kp at hf; rw [g3 f (by omega) (by omega) (by omega), ju_f (by omega)]⟩
        show f_X6_way A (nI w) (nI d) c = _
        unfold f_X6_way
        rw [m_isWalker (RM_ct hR) hg, if_pos c1, if_neg z10, m_isCell, if_pos c2, if_neg z10]
        unfold f_X6_way_j25
        rw [wb_0 2 (by omega) (by decide), if_pos c3, if_pos n0, g1, q_jb, q_gd (by omega) (by omega)]
        exact g4
      · have nn : ∀ j, j < 2 → ¬ c = nI j := fun j hj => okv_ne (by omega) c3 hj
        refine OK_t ?_
        refine OK_ref (k := 2) (by omega) hJ ?_ (fun M1 e16 _ => ?_)
        · unfold f_X5_way
          rw [show f_X4_hasWalker M 1 (nI w) = nI 1 from by rw [p_hasW h5, if_pos c1], if_neg z10]
          rw [p_isCell', if_pos c2, if_neg z10, if_neg (show ¬ c = (0 : Int32) from nn 0 (by omega)), if_neg (show ¬ c = (1 : Int32) from nn 1 (by omega))]; rfl
        · show f_X6_way M1 (nI w) (nI d) c = _
          unfold f_X6_way
          rw [m_isWalker (J_R hJ e16) (wg_of hf), if_pos c1, if_neg z10, m_isCell, if_pos c2, if_neg z10]
          unfold f_X6_way_j25
          rw [wb_0 2 (by omega) (by decide), if_neg c3, if_neg n2]; rfl
    · refine OK_t ?_
      refine OK_ref (k := 1) (by omega) hJ ?_ (fun M1 e16 _ => ?_)
      · unfold f_X5_way
        rw [show f_X4_hasWalker M 1 a = nI 1 from by rw [p_hasW h5, if_pos c1], if_neg z10]
        rw [p_isCell', if_neg c2, if_pos z00]; rfl
      · show f_X6_way M1 a b c = _
        unfold f_X6_way
        rw [m_isWalker (J_R hJ e16) (wg_of hf), if_pos c1, if_neg z10, m_isCell, if_neg c2, if_pos z00]
        unfold f_X6_way_j24 f_X6_way_j25
        rw [wb_no (by decide), if_neg n1]; rfl
  · refine OK_t ?_
    refine OK_ref (k := 1) (by omega) hJ ?_ (fun M1 e16 _ => ?_)
    · unfold f_X5_way
      rw [show f_X4_hasWalker M 1 a = nI 0 from by rw [p_hasW h5, if_neg c1], if_pos z00]; rfl
    · show f_X6_way M1 a b c = _
      unfold f_X6_way
      rw [m_isWalker (J_R hJ e16) (wg_of hf), if_neg c1, if_pos z00]
      unfold f_X6_way_j24 f_X6_way_j25
      rw [wb_no (by decide), if_neg n1]; rfl
end Asks
