/-! the reference's round of doors -/
section Mp
variable {M : jm} {p : Nat → Nat} {H : Nat}
def vld (H e : Nat) : Prop := e < H ∨ e = 7
theorem m_l22 (hH : H ≤ 7) (hp : ∀ h, p h < 49) (h0 : M 16 0 0 = nI H) (h3 : ∀ e, vld H e → M 16 3 e = nI (p e)) {r e : Nat} (hr : r < 128) (he : e < 8) (hT : ∀ r', r' < r → ∀ h, h < H → M 16 33 (8 * r' + h) = nI (sp p H r' (p h))) (K2 K11 : jm → Int32 → Option jm) : ∃ v, f_X6_layPaying_l22 K2 K11 (nI r) (nI e) 10000 M (-1) (nI 0) = K11 (ju M 16 33 (8 * r + e) v) (nI (e + 1)) ∧ (vld H e → v = nI (sp p H r (p e))) := by
  have ei : (8 : Int32) * nI r + nI e = nI (8 * r + e) := by rw [show (8 : Int32) = nI 8 from rfl, pk_mul, nI_add]
  refine loopE (fun k (v : Int32) i => f_X6_layPaying_l22 K2 K11 (nI r) (nI e) k M v i) (fun i (v : Int32) => vld H e → (bw (fun h => bt (nI r) h) (gd2 p H r (p e)) i = none ∧ v = -1) ∨ ∃ j, bw (fun h => bt (nI r) h) (gd2 p H r (p e)) i = some j ∧ v = nI (gd2 p H r (p e) j)) (fun o => ∃ v, o = K11 (ju M 16 33 (8 * r + e) v) (nI (e + 1)) ∧ (vld H e → v = nI (sp p H r (p e)))) H (fun k v i hi hq => ?_) (fun k v hq => ?_) H 0 10000 (-1) (by omega) (by omega) (fun _ => Or.inl ⟨rfl, rfl⟩)
  · show ∃ v', f_X6_layPaying_l22 K2 K11 (nI r) (nI e) (k + 1) M v (nI i) = f_X6_layPaying_l22 K2 K11 (nI r) (nI e) k M v' (nI (i + 1)) ∧ (vld H e → (bw (fun h => bt (nI r) h) (gd2 p H r (p e)) (i + 1) = none ∧ v' = -1) ∨ ∃ j, bw (fun h => bt (nI r) h) (gd2 p H r (p e)) (i + 1) = some j ∧ v' = nI (gd2 p H r (p e) j))
    rw [f_X6_layPaying_l22, h0, if_neg (by rw [q_le (by omega) (by omega)]; omega), m_hasBit (nI r) (by omega), i_inc]
    by_cases cbt : bt (nI r) i = true
    · obtain ⟨b1, -⟩ := rb1 r hr i (by omega) cbt
      have e1 : nI r - (1 : Int32) <<< (nI i &&& 31) = nI (r - 2 ^ i) := by
        rw [show (1 : Int32) <<< (nI i &&& 31) = nI (2 ^ i) from bi_eq i (by omega), pk_sub b1]
      have hs : r - 2 ^ i ≤ r := Nat.sub_le _ _
      have hpos := Nat.one_le_two_pow (n := i)
      have e2 : (8 : Int32) * nI (r - 2 ^ i) + nI i = nI (8 * (r - 2 ^ i) + i) := by rw [show (8 : Int32) = nI 8 from rfl, pk_mul, nI_add]
      obtain ⟨u, hu⟩ : ∃ u, u = f_X6_stepsOf (M 16 3 e) (M 16 3 i) + M 16 33 (8 * (r - 2 ^ i) + i) := ⟨_, rfl⟩
      have hu2 : vld H e → u = nI (gd2 p H r (p e) i) := by
        intro hv
        rw [hu, h3 e hv, h3 i (Or.inl hi), m_stepsOf _ (hp e) _ (hp i), hT (r - 2 ^ i) (by omega) i hi, nI_add]; rfl
      have hgi := gd2_le (H := H) hp (h := i) hr (hp e)
      rw [if_pos cbt, if_neg z10, q_gd (by omega) (by omega), q_gd (by omega) (by omega), e1, e2, q_gd (by omega) (by omega), q_cl (by omega), q_cl (by omega), q_cl (by omega), ← hu]
      by_cases c1 : v < 0
      · rw [if_pos c1]
        refine ⟨u, rfl, fun hv => Or.inr ⟨i, ?_, hu2 hv⟩⟩
        rcases hq hv with ⟨q1, q2⟩ | ⟨j, q1, q2⟩
        · exact bw_t0 cbt q1
        · have hgj := gd2_le (H := H) hp (h := j) hr (hp e)
          rw [q2] at c1
          exact absurd c1 (r_lo' (by omega))
      · rw [if_neg c1]
        by_cases c2 : v ≤ u
        · rw [if_pos c2]
          refine ⟨v, rfl, fun hv => ?_⟩
          rcases hq hv with ⟨q1, q2⟩ | ⟨j, q1, q2⟩
          · exact absurd (by rw [q2]; decide) c1
          · have hgj := gd2_le (H := H) hp (h := j) hr (hp e)
            rw [q2, hu2 hv, q_le (by omega) (by omega)] at c2
            exact Or.inr ⟨j, bw_t2 q1 c2, q2⟩
        · rw [if_neg c2]
          refine ⟨u, rfl, fun hv => ?_⟩
          rcases hq hv with ⟨q1, q2⟩ | ⟨j, q1, q2⟩
          · exact absurd (by rw [q2]; decide) c1
          · have hgj := gd2_le (H := H) hp (h := j) hr (hp e)
            rw [q2, hu2 hv, q_le (by omega) (by omega)] at c2
            exact Or.inr ⟨i, bw_t1 cbt q1 (by omega), hu2 hv⟩
    · rw [if_neg cbt, if_pos z00]
      refine ⟨v, rfl, fun hv => ?_⟩
      rw [bw_f (by simpa using cbt)]
      exact hq hv
  · show ∃ v', f_X6_layPaying_l22 K2 K11 (nI r) (nI e) (k + 1) M v (nI H) = K11 (ju M 16 33 (8 * r + e) v') (nI (e + 1)) ∧ (vld H e → v' = nI (sp p H r (p e)))
    rw [f_X6_layPaying_l22, h0, if_pos ((q_le (by omega) (by omega)).mpr (Nat.le_refl _)), ei, q_gd (by omega) (by omega), q_gd (by omega) (by omega), q_cl (by omega), i_inc]
    by_cases c1 : 0 ≤ v
    · rw [if_pos c1]
      refine ⟨v, rfl, fun hv => ?_⟩
      rw [sp_eq hH]
      unfold door
      rcases hq hv with ⟨q1, q2⟩ | ⟨j, q1, q2⟩
      · rw [q2] at c1; exact absurd c1 (by decide)
      · rw [q1, q2]; rfl
    · rw [if_neg c1]
      refine ⟨0, rfl, fun hv => ?_⟩
      rw [sp_eq hH]
      unfold door
      rcases hq hv with ⟨q1, q2⟩ | ⟨j, q1, q2⟩
      · rw [q1]; rfl
      · have hgj := gd2_le (H := H) hp (h := j) hr (hp e)
        rw [q2] at c1
        exact absurd (r_lo (by omega)) c1
def TR (p : Nat → Nat) (H : Nat) (M : jm) : Prop := ∀ r, r < 128 → ∀ e, e < 8 → vld H e → M 16 33 (8 * r + e) = nI (sp p H r (p e))
theorem m_layPaying (hH : H ≤ 7) (hp : ∀ h, p h < 49) (h0 : M 16 0 0 = nI H) (h3 : ∀ e, vld H e → M 16 3 e = nI (p e)) : ∃ M', f_X6_layPaying M = some M' ∧ (∀ o, o ≠ 16 → M' o = M o) ∧ (∀ f, f ≠ 33 → M' 16 f = M 16 f) ∧ TR p H M' := by
  unfold f_X6_layPaying
  refine loopE (fun k c i => f_X6_layPaying_l2 k c i) (fun i (c : jm) => (∀ o, o ≠ 16 → c o = M o) ∧ (∀ f, f ≠ 33 → c 16 f = M 16 f) ∧ ∀ r, r < i → ∀ e, e < 8 → vld H e → c 16 33 (8 * r + e) = nI (sp p H r (p e))) (fun o => ∃ M', o = some M' ∧ (∀ o, o ≠ 16 → M' o = M o) ∧ (∀ f, f ≠ 33 → M' 16 f = M 16 f) ∧ TR p H M') 128 (fun k c i hi hq => ?_) (fun k c hq => ?_) 128 0 10000 M (by omega) (by omega) ⟨fun _ _ => rfl, fun _ _ => rfl, fun r hr => absurd hr (Nat.not_lt_zero r)⟩
  · show ∃ c', f_X6_layPaying_l2 (k + 1) c (nI i) = f_X6_layPaying_l2 k c' (nI (i + 1)) ∧ (∀ o, o ≠ 16 → c' o = M o) ∧ (∀ f, f ≠ 33 → c' 16 f = M 16 f) ∧ ∀ r, r < i + 1 → ∀ e, e < 8 → vld H e → c' 16 33 (8 * r + e) = nI (sp p H r (p e))
    obtain ⟨q1, q2, q3⟩ := hq
    rw [f_X6_layPaying_l2, if_neg (by rw [show (128 : Int32) = nI 128 from rfl, q_le (by omega) (by omega)]; omega)]
    refine loopE (fun kk c' e => f_X6_layPaying_l11 (f_X6_layPaying_l2 k) (nI i) kk c' e) (fun e (c' : jm) => (∀ o, o ≠ 16 → c' o = M o) ∧ (∀ f, f ≠ 33 → c' 16 f = M 16 f) ∧ (∀ r, r < i → ∀ e, e < 8 → vld H e → c' 16 33 (8 * r + e) = nI (sp p H r (p e))) ∧ ∀ e', e' < e → vld H e' → c' 16 33 (8 * i + e') = nI (sp p H i (p e'))) (fun o => ∃ c', o = f_X6_layPaying_l2 k c' (nI (i + 1)) ∧ (∀ o, o ≠ 16 → c' o = M o) ∧ (∀ f, f ≠ 33 → c' 16 f = M 16 f) ∧ ∀ r, r < i + 1 → ∀ e, e < 8 → vld H e → c' 16 33 (8 * r + e) = nI (sp p H r (p e))) 8 (fun kk c' e he hq' => ?_) (fun kk c' hq' => ?_) 8 0 10000 c (by omega) (by omega) ⟨q1, q2, q3, fun e' he' => absurd he' (Nat.not_lt_zero e')⟩
    · show ∃ c2, f_X6_layPaying_l11 (f_X6_layPaying_l2 k) (nI i) (kk + 1) c' (nI e) = f_X6_layPaying_l11 (f_X6_layPaying_l2 k) (nI i) kk c2 (nI (e + 1)) ∧ (∀ o, o ≠ 16 → c2 o = M o) ∧ (∀ f, f ≠ 33 → c2 16 f = M 16 f) ∧ (∀ r, r < i → ∀ e, e < 8 → vld H e → c2 16 33 (8 * r + e) = nI (sp p H r (p e))) ∧ ∀ e', e' < e + 1 → vld H e' → c2 16 33 (8 * i + e') = nI (sp p H i (p e'))
      obtain ⟨u1, u2, u3, u4⟩ := hq'
      rw [f_X6_layPaying_l11, if_neg (by rw [show (8 : Int32) = nI 8 from rfl, q_le (by omega) (by omega)]; omega)]
      obtain ⟨v, g1, g2⟩ := m_l22 (M := c') hH hp (by rw [u2 0 (by omega)]; exact h0) (fun e he => by rw [u2 3 (by omega)]; exact h3 e he) hi he (fun r' hr' h hh => u3 r' hr' h (by omega) (Or.inl hh)) (f_X6_layPaying_l2 k) (f_X6_layPaying_l11 (f_X6_layPaying_l2 k) (nI i) kk)
      refine ⟨_, g1, fun o ho => by rw [ju_ne ho, u1 o ho], fun f hf => by rw [ju_f hf, u2 f hf], fun r hr e' he' hv => ?_, fun e' he' hv => ?_⟩
      · rw [ju_o, if_neg (by omega)]; exact u3 r hr e' he' hv
      · rw [ju_o]
        by_cases z : e' = e
        · rw [z, if_pos ⟨rfl, rfl⟩]; rw [z] at hv; exact g2 hv
        · rw [if_neg (by omega)]; exact u4 e' (by omega) hv
    · show ∃ c2, f_X6_layPaying_l11 (f_X6_layPaying_l2 k) (nI i) (kk + 1) c' (nI 8) = f_X6_layPaying_l2 k c2 (nI (i + 1)) ∧ (∀ o, o ≠ 16 → c2 o = M o) ∧ (∀ f, f ≠ 33 → c2 16 f = M 16 f) ∧ ∀ r, r < i + 1 → ∀ e, e < 8 → vld H e → c2 16 33 (8 * r + e) = nI (sp p H r (p e))
      obtain ⟨u1, u2, u3, u4⟩ := hq'
      rw [f_X6_layPaying_l11, if_pos (by decide), i_inc]
      refine ⟨c', rfl, u1, u2, fun r hr e he hv => ?_⟩
      by_cases z : r = i
      · rw [z]; exact u4 e he hv
      · exact u3 r (by omega) e he hv
  · show ∃ M', f_X6_layPaying_l2 (k + 1) c (nI 128) = some M' ∧ (∀ o, o ≠ 16 → M' o = M o) ∧ (∀ f, f ≠ 33 → M' 16 f = M 16 f) ∧ TR p H M'
    obtain ⟨q1, q2, q3⟩ := hq
    rw [f_X6_layPaying_l2, if_pos (by decide)]
    exact ⟨c, rfl, q1, q2, fun r hr e he hv => q3 r hr e he hv⟩
theorem m_nextOn (hH : H ≤ 7) (hp : ∀ h, p h < 49) (h3 : ∀ e, vld H e → M 16 3 e = nI (p e)) (hT : TR p H M) {r e j : Nat} (hr : r < 128) (he : e < 8) (hv : vld H e) (hd : door p H r (p e) = some j) : f_X6_nextOn M (nI r) (nI e) = some (nI j) := by
  obtain ⟨d1, d2, d3⟩ := door_some hd
  have hspv : sp p H r (p e) = gd2 p H r (p e) j := by rw [sp_eq hH, hd]; rfl
  have er : (8 : Int32) * nI r + nI e = nI (8 * r + e) := by rw [show (8 : Int32) = nI 8 from rfl, pk_mul, nI_add]
  have hgj := gd2_le (H := H) hp (h := j) hr (hp e)
  -- one look at a house whose bit is set
  have look : ∀ k i, i ≤ j → bt (nI r) i = true → f_X6_nextOn_l2 M (nI r) (nI e) (k + 1) (nI i) = if gd2 p H r (p e) i = gd2 p H r (p e) j then some (nI i) else f_X6_nextOn_l2 M (nI r) (nI e) k (nI (i + 1)) := by
    intro k i hi cbt
    obtain ⟨b1, -⟩ := rb1 r hr i (by omega) cbt
    have e1 : nI r - (1 : Int32) <<< (nI i &&& 31) = nI (r - 2 ^ i) := by
      rw [show (1 : Int32) <<< (nI i &&& 31) = nI (2 ^ i) from bi_eq i (by omega), pk_sub b1]
    have hs : r - 2 ^ i ≤ r := Nat.sub_le _ _
    have e2 : (8 : Int32) * nI (r - 2 ^ i) + nI i = nI (8 * (r - 2 ^ i) + i) := by rw [show (8 : Int32) = nI 8 from rfl, pk_mul, nI_add]
    have hgi := gd2_le (H := H) hp (h := i) hr (hp e)
    have hu : f_X6_stepsOf (M 16 3 e) (M 16 3 i) + M 16 33 (8 * (r - 2 ^ i) + i) = nI (gd2 p H r (p e) i) := by
      rw [h3 e hv, h3 i (Or.inl (by omega)), m_stepsOf _ (hp e) _ (hp i), hT (r - 2 ^ i) (by omega) i (by omega) (Or.inl (by omega)), nI_add]; rfl
    rw [f_X6_nextOn_l2, m_hasBit (nI r) (by omega), if_pos cbt, if_neg z10, q_gd (by omega) (by omega), q_gd (by omega) (by omega), e1, e2, q_gd (by omega) (by omega), er, q_gd (by omega) (by omega), q_cl (by omega), q_cl (by omega), q_cl (by omega), q_cl (by omega), hu, hT r hr e he hv, hspv, i_inc]
    by_cases z : gd2 p H r (p e) i = gd2 p H r (p e) j
    · rw [if_pos (by rw [z]), if_pos z]
    · rw [if_neg (fun y => z ((q_eq (by omega) (by omega)).mp y)), if_neg z]
  unfold f_X6_nextOn
  refine loopE (fun k (_ : Unit) i => f_X6_nextOn_l2 M (nI r) (nI e) k i) (fun _ _ => True) (fun o => o = some (nI j)) j (fun k a i hi _ => ?_) (fun k a _ => ?_) j 0 10000 () (by omega) (by omega) trivial
  · refine ⟨(), ?_, trivial⟩
    show f_X6_nextOn_l2 M (nI r) (nI e) (k + 1) (nI i) = f_X6_nextOn_l2 M (nI r) (nI e) k (nI (i + 1))
    by_cases cbt : bt (nI r) i = true
    · rw [look k i (by omega) cbt, if_neg]
      have := d3 i hi cbt
      omega
    · rw [f_X6_nextOn_l2, m_hasBit (nI r) (by omega), if_neg cbt, if_pos z00, i_inc]
  · show f_X6_nextOn_l2 M (nI r) (nI e) (k + 1) (nI j) = some (nI j)
    rw [look k j (Nat.le_refl j) d2, if_pos rfl]
theorem m_round (hH : H ≤ 7) (hp : ∀ h, p h < 49) (h3 : ∀ e, vld H e → M 16 3 e = nI (p e)) (hT : TR p H M) {n : Nat} (hn : n < 7) : ∀ d i r e k, i + d = n + 1 → d < k → r < 128 → e < 8 → vld H e → d ≤ cb r H → f_X6_payAll_l108 (nI n) k M (nI r) (nI e) (nI i) = some (if d = 0 then nI e else oj (dr p H (d - 1) r (p e)), M) := by
  intro d
  induction d with
  | zero =>
    intro i r e k hi hk hr he hv hcb
    obtain ⟨k, rfl⟩ : ∃ j, k = j + 1 := ⟨k - 1, by omega⟩
    rw [f_X6_payAll_l108, if_pos (by rw [q_lt (by omega) (by omega)]; omega), if_pos rfl]
  | succ d ih =>
    intro i r e k hi hk hr he hv hcb
    obtain ⟨k, rfl⟩ : ∃ j, k = j + 1 := ⟨k - 1, by omega⟩
    cases q : door p H r (p e) with
    | none => have := door_none q; omega
    | some j =>
      obtain ⟨d1, d2, -⟩ := door_some q
      have hcb2 := cb_dn hH hr d1 d2
      obtain ⟨b1, -⟩ := rb1 r hr j (by omega) d2
      have e1 : nI r - (1 : Int32) <<< (nI j &&& 31) = nI (r - 2 ^ j) := by
        rw [show (1 : Int32) <<< (nI j &&& 31) = nI (2 ^ j) from bi_eq j (by omega), pk_sub b1]
      rw [f_X6_payAll_l108, if_neg (by rw [q_lt (by omega) (by omega)]; omega), m_nextOn hH hp h3 hT hr he hv q, q_jb, e1, i_inc, ih (i + 1) (r - 2 ^ j) j k (by omega) (by omega) (Nat.lt_of_le_of_lt (Nat.sub_le _ _) hr) (by omega) (Or.inl d1) (by omega), if_neg (show ¬ d + 1 = 0 by omega), show d + 1 - 1 = d by omega]
      by_cases z : d = 0
      · rw [if_pos z, z]
        show _ = some (oj (door p H r (p e)), M)
        rw [q]; rfl
      · rw [if_neg z]
        obtain ⟨d', rfl⟩ : ∃ d', d = d' + 1 := ⟨d - 1, by omega⟩
        rw [dr_s q]; rfl
end Mp
section Asks
variable {M M1 M2 : jm} {S : St} {σ : vl}
theorem RM_7 (hR : RM (M 16) σ) (hH : vH σ ≤ 7) (x : Int32) : RM (ju M 16 3 7 x 16) σ := by
  obtain ⟨r1, r2, r3, r4, r5, r6⟩ := hR
  refine ⟨by rw [ju_g (by omega)]; exact r1, by rw [ju_g (by omega)]; exact r2, by rw [ju_g (by omega)]; exact r3, fun h hh => ?_, fun w hw => ?_, fun w hw h hh => ?_⟩
  · rw [ju_g (by omega), ju_g (by omega), ju_g (show 4 ≠ 3 by omega), ju_o, if_neg (by omega)]; exact r4 h hh
  · rw [ju_g (by omega), ju_g (by omega), ju_g (by omega)]; exact r5 w hw
  · rw [ju_g (by omega)]; exact r6 w hw h hh
theorem ok_payAll (hJ : JJ M S) (a b : Int32) : OK (f_X5_payAll M a b) (fun M1 => f_X6_payAll M1 a b) := by
  obtain ⟨h0, h5, hB⟩ := J_C hJ; have hf := J_f hJ; have hH := hf.1; have hW := hf.2.1.2.1
  have hH := hf.1; have hW := hf.2.1.2.1
  by_cases c1 : okv (vW (sv S)) a = true
  · obtain ⟨w, hw, rfl⟩ := okv_ex (by omega) c1
    by_cases c2 : (-1 : Int32) ≤ b
    · obtain ⟨p, hpd⟩ : ∃ p : Nat → Nat, p = fun h => if h < vH (sv S) then sv S 3 h else sv S 6 w := ⟨_, rfl⟩
      obtain ⟨A, hA⟩ : ∃ A, A = bs (owe (sv S) 0 w) (vH (sv S)) := ⟨_, rfl⟩
      have hwl := hf.2.1.2.2.2.1 w hw
      have hp : ∀ h, p h < 49 := by
        intro h
        rw [hpd]
        show (if h < vH (sv S) then sv S 3 h else sv S 6 w) < 49
        by_cases z : h < vH (sv S)
        · rw [if_pos z]; exact (hf.2.1.2.2.1 h z).2.2.1
        · rw [if_neg z]; exact hwl.1
      have p7 : p 7 = sv S 6 w := by rw [hpd]; exact if_neg (by omega)
      have ph : ∀ h, h < vH (sv S) → p h = sv S 3 h := fun h hh => by rw [hpd]; exact if_pos hh
      have hA7 : A < 128 := by
        have h1 := bs_lt (owe (sv S) 0 w) (vH (sv S))
        have h2 : 2 ^ vH (sv S) ≤ 2 ^ 7 := Nat.pow_le_pow_right (by omega) hH
        rw [hA]; omega
      have hcb : cb A (vH (sv S)) = cn (owe (sv S) 0 w) (vH (sv S)) := by
        unfold cb
        refine cn_congr _ (fun i hi => ?_)
        rw [hA, bs_bt _ (by omega) _ (by omega), decide_eq_true hi, Bool.true_and]
      have ow : f_X4_owesBehind M 1 (nI w) 0 = some (nI A) := by rw [hA]; exact p_owesBehind h0 hB hf.2.1 hw (n := 0) (by omega)
      have m3 : ∀ h, h < vH (sv S) → M 1 3 h = nI (p h) := fun h hh => by rw [ph h hh]; exact (hB.2.1 h hh).2.2.1
      obtain ⟨B, x1, x2, x3, x4⟩ := x_plan (p := p) hH hp h0 m3 hA7 ow
      have hgA : gdr A A := by
        unfold gdr
        have : ∀ x : Int32, x &&& (x ^^^ -1) = 0 := fun x => by
          apply b_ext
          intro i hi
          rw [b_and, b_xor, bt_m1 i hi, b_0]
          cases bt x i <;> rfl
        exact this _
      have B1 : B 1 = M 1 := x2 1 (by omega)
      have b0 : B 1 0 0 = nI (vH (sv S)) := by rw [B1]; exact h0
      have b3 : ∀ h, h < vH (sv S) → B 1 3 h = nI (p h) := fun h hh => by rw [B1]; exact m3 h hh
      have b6 : B 1 6 w = nI (p 7) := by rw [B1, p7]; exact (hB.2.2.1 w hw).1
      have hbB : RB (B 1) (sv S) (vH (sv S)) := by rw [B1]; exact hB
      -- the reference
      have ref : ∀ M1 : jm, RM (M1 16) (sv S) → wg (sv S) → ∃ C : jm, (∀ t, 0 ≤ t → f_X6_payAll_j28 (ju M1 16 11 0 0) (nI w) b t = (if 0 ≤ b then (jb (f_X6_onesOf (nI A)) fun r5 => (if b < r5 then (f_X6_payAll_l108 b 10000 C (nI A) 7 0) else (some ((-9), C)))) else (jgd ((8 * nI A) + 7) 1024 (jb (f_X6_priceOf C (nI w)) fun r8 => (some (((3 * (C 16 33 (Int32.toNatClampNeg ((8 * nI A) + 7)))) + r8), C)))))) ∧ RM (C 16) (sv S) ∧ frK M1 C ∧ TR p (vH (sv S)) C ∧ (∀ e, vld (vH (sv S)) e → C 16 3 e = nI (p e)) := by
        intro M1 hR hg
        have hRc : RM (ju M1 16 11 0 0 16) (sv S) := RM_ct hR
        have e6 : ju M1 16 11 0 0 16 6 w = nI (sv S 6 w) := (hRc.2.2.2.2.1 w hw).1
        have hR7 : RM (ju (ju M1 16 11 0 0) 16 3 7 (nI (sv S 6 w)) 16) (sv S) := RM_7 hRc hH _
        have h37 : ∀ e, vld (vH (sv S)) e → ju (ju M1 16 11 0 0) 16 3 7 (nI (sv S 6 w)) 16 3 e = nI (p e) := by
          intro e he
          rcases he with he | he
          · rw [(hR7.2.2.2.1 e he).2.2.1, ph e he]
          · rw [he, ju_self, p7]
        obtain ⟨C, g1, g2, g3, g4⟩ := m_layPaying (M := ju (ju M1 16 11 0 0) 16 3 7 (nI (sv S 6 w))) hH hp hR7.1 h37
        have hRC : RM (C 16) (sv S) := RM_fe (fun f hf => g3 f (by omega)) hR7
        refine ⟨C, fun t ht => ?_, hRC, ⟨fun o ho => by rw [g2 o ho, ju_ne ho, ju_ne ho], fun f hf => by unfold kp at hf; rw [g3 f (by omega), ju_f (by omega), ju_f (by omega)]⟩, g4, fun e he => by rw [g3 3 (by omega)]; exact h37 e he⟩
        have e7 : Int32.toNatClampNeg 7 = 7 := rfl
        have g7 : ∀ {α : Type} (x : Option α), jgd 7 8 x = x := fun x => q_gd (i := 7) (n := 8) (by omega) (by omega)
        unfold f_X6_payAll_j28
        rw [if_pos ht, q_gd (by omega) (by omega), g7, e7, q_cl (by omega), e6, g1, q_jb, m_owesBits hRC hg hw, q_jb, ← hA]
      have e87 : (8 : Int32) * nI A + 7 = nI (8 * A + 7) := by rw [show (8 : Int32) = nI 8 from rfl, pk_mul]; exact nI_add (8 * A) 7
      have hx0 : ∀ X : Option (Int32 × jm), f_X5_payAll M (nI w) b = X ↔ (if b = (-1) then (jb (f_X4_priceBehind B 1 (nI w) 0) fun r4 => (jgd (nI w) 6 (jb (f_X2_fewest B 1 (nI (p 7)) (nI A)) fun r5 => (some ((r4 + (3 * r5)), B))))) else (jgd (nI w) 6 (jb (f_X2_stop B 1 (nI (p 7)) b) fun r3 => (some (r3, B))))) = X := by
        intro X
        unfold f_X5_payAll
        rw [show f_X4_hasWalker M 1 (nI w) = nI 1 from by rw [p_hasW h5, if_pos c1], if_neg z10]
        rw [if_pos c2, x1, q_jb, q_cl (by omega), b6, x3]
      by_cases c3 : b = -1
      · have hx : f_X5_payAll M (nI w) b = some (nI (price (sv S) 0 w) + 3 * nI (sp p (vH (sv S)) A (p 7)), B) := by
          rw [hx0, if_pos c3, show f_X4_priceBehind B 1 (nI w) 0 = some (nI (price (sv S) 0 w)) from p_priceBehind (n := 0) b0 hbB hf.2.1 hw (by omega), q_jb, q_gd (by omega) (by omega), x_fewest hH hp b0 b3 x4 (by omega) hA7 hgA (hp 7), q_jb]
        refine OK_q hJ hx (fun o _ _ h15 => x2 o h15) (fun hR hg => ?_)
        obtain ⟨C, g1, g2, g3, g4, g5⟩ := ref B hR hg
        refine ⟨C, ?_, g2, g3⟩
        show f_X6_payAll B (nI w) b = _
        unfold f_X6_payAll
        rw [m_isWalker (RM_ct hR) hg, if_pos c1, if_neg z10, if_pos c2, g1 0 n0, if_neg (by rw [c3]; decide), e87, q_gd (by omega) (by omega), m_priceOf g2 hg hw, q_jb, q_cl (by omega), g4 A hA7 7 (by omega) (Or.inr rfl), Int32.add_comm]
      · have hb0 : ∃ n, n < 2 ^ 31 ∧ b = nI n := by
          obtain ⟨n, h1, h2⟩ := nI_of (x := b) (fun z => c3 (by
            apply Int32.toInt_inj.mp
            rw [Int32.lt_iff_toInt_lt] at z
            rw [Int32.le_iff_toInt_le] at c2
            have e0 : (0 : Int32).toInt = 0 := rfl
            have e1 : (-1 : Int32).toInt = -1 := rfl
            omega))
          exact ⟨n, h1, h2⟩
        obtain ⟨n, hn, rfl⟩ := hb0
        have hcbl : cb A (vH (sv S)) ≤ 7 := Nat.le_trans (cn_le _ _) hH
        have hst : f_X2_stop B 1 (nI (p 7)) (nI n) = some (oj (dr p (vH (sv S)) n A (p 7))) := by
          unfold f_X2_stop
          rw [x3, show (0 : Int32) = nI 0 from rfl, x_stopL hH hp b0 b3 x4 hn 7 0 A (p 7) 10000 (by omega) (by omega) hA7 (Nat.le_refl _) hgA (hp 7) hcbl (Nat.zero_le _)]; rfl
        have hx : f_X5_payAll M (nI w) (nI n) = some (oj (dr p (vH (sv S)) n A (p 7)), B) := by
          rw [hx0, if_neg c3, q_gd (by omega) (by omega), hst, q_jb]
        refine OK_q hJ hx (fun o _ _ h15 => x2 o h15) (fun hR hg => ?_)
        obtain ⟨C, g1, g2, g3, g4, g5⟩ := ref B hR hg
        refine ⟨C, ?_, g2, g3⟩
        show f_X6_payAll B (nI w) (nI n) = _
        unfold f_X6_payAll
        rw [m_isWalker (RM_ct hR) hg, if_pos c1, if_neg z10, if_pos c2, g1 0 n0, if_pos (r_lo hn), show f_X6_onesOf (nI A) = some (nI (cb A (vH (sv S)))) by rw [hcb, hA]; exact m_onesOf (by omega), q_jb]
        by_cases c4 : n < cb A (vH (sv S))
        · have := m_round (M := C) hH hp g5 g4 (n := n) (by omega) (n + 1) 0 A 7 10000 (by omega) (by omega) hA7 (by omega) (Or.inr rfl) (by omega)
          rw [if_pos (by rw [q_lt hn (by omega)]; exact c4)]
          refine this.trans ?_
          rw [if_neg (show ¬ n + 1 = 0 by omega), show n + 1 - 1 = n by omega]
        · rw [if_neg (by rw [q_lt hn (by omega)]; exact c4), dr_none hH n A (p 7) hA7 (by omega)]; rfl
    · refine OK_ref (k := 4) (by omega) hJ ?_ (fun M1 e16 _ => ?_)
      · unfold f_X5_payAll
        rw [show f_X4_hasWalker M 1 (nI w) = nI 1 from by rw [p_hasW h5, if_pos c1], if_neg z10]
        rw [if_neg c2]; rfl
      · show f_X6_payAll M1 (nI w) b = _
        unfold f_X6_payAll
        rw [m_isWalker (J_R hJ e16) (wg_of hf), if_pos c1, if_neg z10, if_neg c2]
        unfold f_X6_payAll_j28
        rw [if_neg n4]; rfl
  · refine OK_ref (k := 1) (by omega) hJ ?_ (fun M1 e16 _ => ?_)
    · unfold f_X5_payAll
      rw [show f_X4_hasWalker M 1 a = nI 0 from by rw [p_hasW h5, if_neg c1], if_pos z00]; rfl
    · show f_X6_payAll M1 a b = _
      unfold f_X6_payAll
      rw [m_isWalker (J_R hJ e16) (wg_of hf), if_neg c1, if_pos z00]
      unfold f_X6_payAll_j28
      rw [if_neg n1]; rfl
end Asks
