/-! the law's own loop: its beginning and its steps -/
def S0 : St := mkS (fun _ _ => 0) 0 (fun _ _ _ => 0) 0 (fun _ _ => 0) 0 (fun _ => 0) 0 (fun _ => 0) (fun _ => 0)
theorem jM0_0 {o k i : Nat} (h : ¬ (1 ≤ o ∧ o ≤ 11 ∧ k = 9)) : jM0 o k i = 0 := if_neg h
theorem jM0_9 {o i : Nat} (h : 1 ≤ o ∧ o ≤ 11) : jM0 o 9 i = -1 := if_pos ⟨h.1, h.2, rfl⟩
theorem wf_00 : wf (fun _ _ => 0) := ⟨Nat.zero_le 7, ⟨Nat.zero_le 8, Nat.zero_le 6, fun h hh => absurd hh (Nat.not_lt_zero h), fun w hw => absurd hw (Nat.not_lt_zero w), fun _ _ => Nat.zero_le 100⟩, fun _ _ _ => rfl, Nat.zero_le 999⟩
theorem JJ_start : JJ jM0 S0 := by
  refine ⟨⟨⟨?_, ?_, ?_, fun h hh => absurd hh (Nat.not_lt_zero h), fun w hw => absurd hw (Nat.not_lt_zero w), fun w hw h hh => ?_⟩, ?_, ⟨0, by omega, ?_, fun i hi => absurd hi (Nat.not_lt_zero i)⟩, ?_, fun h => absurd h (by decide), ?_, fun i hi => absurd hi (Nat.not_lt_zero i), ?_, fun i hi => absurd hi (Nat.not_lt_zero i), fun k hk => ?_⟩, ⟨⟨?_, ?_, ?_, fun h hh => absurd hh (Nat.not_lt_zero h), fun w hw => absurd hw (Nat.not_lt_zero w), fun w hw h hh => ?_⟩, ?_, fun i hi => absurd hi (Nat.not_lt_zero i), ?_, fun h => absurd h (by decide), ?_, fun i hi => absurd hi (Nat.not_lt_zero i), ?_, fun i hi => absurd hi (Nat.not_lt_zero i), fun k hk => ?_⟩, ⟨wf_00, Nat.zero_le 8, fun i hi => absurd hi (Nat.not_lt_zero i), Nat.zero_le 1, fun _ => wf_00, Nat.zero_le 96, fun i hi => absurd hi (Nat.not_lt_zero i), Nat.zero_le 12, fun i hi => absurd hi (Nat.not_lt_zero i)⟩⟩
  · exact jM0_0 (by omega)
  · exact jM0_0 (by omega)
  · exact jM0_0 (by omega)
  · exact jM0_9 (by omega)
  · exact jM0_0 (by omega)
  · exact jM0_0 (by omega)
  · exact jM0_0 (by omega)
  · exact jM0_0 (by omega)
  · exact jM0_0 (by omega)
  · exact jM0_0 (by omega)
  · exact jM0_0 (by omega)
  · exact jM0_0 (by omega)
  · exact jM0_0 (by omega)
  · exact jM0_0 (by omega)
  · exact jM0_0 (by omega)
  · exact jM0_0 (by omega)
  · exact jM0_0 (by omega)
  · exact jM0_0 (by omega)
  · exact jM0_0 (by omega)
section Steps
variable {M : jm} {S : St}
theorem ite_1 {c : Prop} [Decidable c] {a b : Option Int32} (h1 : c → a = some 1) (h2 : ¬ c → b = some 1) : (if c then a else b) = some 1 := by
  by_cases h : c
  · rw [if_pos h]; exact h1 h
  · rw [if_neg h]; exact h2 h
theorem s_ok {R : Type} [DecidableEq R] {a : Option (R × jm)} {b : jm → Option (R × jm)} {K : jm → Option Int32} (h : OK a b) (hK : ∀ M' S', JJ M' S' → K M' = some 1) : (jb2 a fun r N => jb2 (b N) fun r' N' => if r = r' then K N' else some 0) = some 1 := by
  obtain ⟨r, M1, M2, S', e1, e2, hJ'⟩ := h
  rw [e1, q_jb2, e2, q_jb2, if_pos rfl]
  exact hK M2 S' hJ'
theorem s_ok0 {R : Type} [DecidableEq R] {a : Option R} {b : jm → Option (R × jm)} {K : jm → Option Int32} (h : OK0 M a b) (hK : ∀ M' S', JJ M' S' → K M' = some 1) : (jb a fun r => jb2 (b M) fun r' N' => if r = r' then K N' else some 0) = some 1 := by
  obtain ⟨r, M2, S', e1, e2, hJ'⟩ := h
  rw [e1, q_jb, e2, q_jb2, if_pos rfl]
  exact hK M2 S' hJ'
theorem s_okL {a : Option (Int64 × jm)} {b : jm → Option (Int64 × jm)} {K : jm → Option Int32} (h : OK a b) (hK : ∀ M' S', JJ M' S' → K M' = some 1) : (jb2 a fun r N => jb2 (b N) fun r' N' => if lg_cmp r r' = 0 then K N' else some 0) = some 1 := by
  obtain ⟨r, M1, M2, S', e1, e2, hJ'⟩ := h
  rw [e1, q_jb2, e2, q_jb2, if_pos (by unfold lg_cmp; simp)]
  exact hK M2 S' hJ'
theorem s_t {R R' : Type} {a : Option (R × jm)} {b : jm → Option (R' × jm)} {K : jm → Option Int32} (h : OT a b) (hK : ∀ M' S', JJ M' S' → K M' = some 1) : (jb2 a fun _ N => jb2 (b N) fun _ N' => K N') = some 1 := by
  obtain ⟨r, r', M1, M2, S', e1, e2, hJ'⟩ := h
  rw [e1, q_jb2, e2, q_jb2]
  exact hK M2 S' hJ'
theorem s_t0 {R R' : Type} {a : Option R} {b : jm → Option (R' × jm)} {K : jm → Option Int32} (h : OT0 M a b) (hK : ∀ M' S', JJ M' S' → K M' = some 1) : (jb a fun _ => jb2 (b M) fun _ N' => K N') = some 1 := by
  obtain ⟨r, r', M2, S', e1, e2, hJ'⟩ := h
  rw [e1, q_jb, e2, q_jb2]
  exact hK M2 S' hJ'
theorem OK_t0 {R : Type} {a : Option R} {b : jm → Option (R × jm)} (h : OK0 M a b) : OT0 M a b := by
  obtain ⟨r, M2, S', h1, h2, h3⟩ := h
  exact ⟨r, r, M2, S', h1, h2, h3⟩
theorem nI_lim {L i : Nat} (hL : L < 2 ^ 20) (hi : i < 2 ^ 20) : Int32.ofNat L - 6 < nI i ↔ L < i + 6 := by
  rw [show Int32.ofNat L = nI L from rfl, show (6 : Int32) = nI 6 from rfl, Int32.lt_iff_toInt_lt, pk_sub_toInt (by omega) (by omega), nI_toInt (by omega)]
  omega
theorem okv_00 (v : Int32) : ¬ okv 0 v = true := by
  rw [okv_iff]
  rintro ⟨h1, h2⟩
  rw [Int32.le_iff_toInt_le] at h1
  rw [Int32.lt_iff_toInt_lt] at h2
  omega
/-- where no walker is -/
theorem ok_what0 (hJ : JJ M S) (h : vW (sv S) = 0) (a b c : Int32) : OK (f_X5_whatKind M a b c) (fun M1 => f_X6_whatKind M1 a b c) := by
  obtain ⟨h0, h5, hB⟩ := J_C hJ; have hf := J_f hJ; have hH := hf.1; have hW := hf.2.1.2.1
  have c1 : ¬ okv (vW (sv S)) a = true := by rw [h]; exact okv_00 a
  refine OK_ref (k := 1) (by omega) hJ ?_ (fun M1 e16 _ => ?_)
  · unfold f_X5_whatKind
    rw [show f_X4_hasWalker M 1 a = nI 0 from by rw [p_hasW h5, if_neg c1], if_pos z00]; rfl
  · show f_X6_whatKind M1 a b c = _
    unfold f_X6_whatKind
    rw [m_wb1 (J_R hJ e16) (wg_of hf) c1, wb_no (by decide), if_neg n1]; rfl
theorem ok_way0 (hJ : JJ M S) (h : vW (sv S) = 0) (a b c : Int32) : OK (f_X5_way M a b c) (fun M1 => f_X6_way M1 a b c) := by
  obtain ⟨h0, h5, hB⟩ := J_C hJ; have hf := J_f hJ; have hH := hf.1; have hW := hf.2.1.2.1
  have c1 : ¬ okv (vW (sv S)) a = true := by rw [h]; exact okv_00 a
  refine OK_ref (k := 1) (by omega) hJ ?_ (fun M1 e16 _ => ?_)
  · unfold f_X5_way
    rw [show f_X4_hasWalker M 1 a = nI 0 from by rw [p_hasW h5, if_neg c1], if_pos z00]; rfl
  · show f_X6_way M1 a b c = _
    unfold f_X6_way
    rw [m_isWalker (J_R hJ e16) (wg_of hf), if_neg c1, if_pos z00]
    unfold f_X6_way_j24 f_X6_way_j25
    rw [wb_no (by decide), if_neg n1]; rfl
end Steps
