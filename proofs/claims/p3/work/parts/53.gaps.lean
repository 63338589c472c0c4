/-! gaps -/
theorem sm_eq_iff {f g : Nat → Nat} : ∀ n, (∀ i, i < n → f i ≤ g i) → (sm f n = sm g n ↔ ∀ i, i < n → f i = g i)
  | 0, _ => ⟨fun _ i hi => by omega, fun _ => rfl⟩
  | n + 1, h => by
    have h1 := sm_eq_iff n (fun i hi => h i (by omega))
    have h2 := h n (by omega)
    have h3 : sm f n ≤ sm g n := by
      have : ∀ m, m ≤ n → sm f m ≤ sm g m := by
        intro m
        induction m with
        | zero => intro _; exact Nat.le_refl 0
        | succ m ih =>
          intro hm
          have := ih (by omega)
          have := h m (by omega)
          show sm f m + f m ≤ sm g m + g m
          omega
      exact this n (Nat.le_refl n)
    constructor
    · intro e i hi
      have e : sm f n + f n = sm g n + g n := e
      by_cases q : i = n
      · subst q; omega
      · exact h1.mp (by omega) i (by omega)
    · intro e
      show sm f n + f n = sm g n + g n
      rw [h1.mpr (fun i hi => e i (by omega)), e n (by omega)]
theorem cn_sm (p : Nat → Bool) : ∀ n, cn p n = sm (fun i => if p i then 1 else 0) n
  | 0 => rfl
  | n + 1 => by show cn p n + _ = sm _ n + _; rw [cn_sm p n]
theorem cn_eq_iff {p q : Nat → Bool} (n : Nat) (h : ∀ i, i < n → p i = true → q i = true) : cn p n = cn q n ↔ ∀ i, i < n → p i = q i := by
  rw [cn_sm, cn_sm, sm_eq_iff n (fun i hi => ?_)]
  · refine ⟨fun e i hi => ?_, fun e i hi => by rw [e i hi]⟩
    have := e i hi
    cases h1 : p i <;> cases h2 : q i <;> simp [h1, h2] at this ⊢
  · have := h i hi
    cases h1 : p i <;> cases h2 : q i <;> simp [h1, h2] at this ⊢
theorem cn_mono {p q : Nat → Bool} (n : Nat) (h : ∀ i, i < n → p i = true → q i = true) : cn p n ≤ cn q n := by
  induction n with
  | zero => exact Nat.le_refl 0
  | succ n ih =>
    have h1 := ih (fun i hi => h i (by omega))
    have h2 := h n (by omega)
    show cn p n + _ ≤ cn q n + _
    cases a : p n <;> cases b : q n <;> simp [a, b] at h2 ⊢ <;> omega
section Gaps
variable {σ : vl}
theorem owe_mono {n w h : Nat} (q : owe σ n w h = true) : owe σ (n + 1) w h = true := by
  unfold owe at q ⊢
  simp only [decide_eq_true_eq] at q ⊢
  unfold dk
  rw [if_neg q]
  omega
def nw (σ : vl) (n : Nat) : Prop := ∃ w, w < vW σ ∧ ∃ h, h < vH σ ∧ owe σ n w h = false ∧ owe σ (n + 1) w h = true
theorem debts_nw (n : Nat) : debts σ (n + 1) = debts σ n ↔ ¬ nw σ n := by
  unfold debts
  rw [eq_comm, sm_eq_iff _ (fun w _ => cn_mono _ (fun h _ q => owe_mono q))]
  constructor
  · rintro e ⟨w, hw, h, hh, q1, q2⟩
    have := (cn_eq_iff _ (fun h _ q => owe_mono q)).mp (e w hw) h hh
    rw [q1, q2] at this; cases this
  · intro e w hw
    refine (cn_eq_iff _ (fun h _ q => owe_mono q)).mpr (fun h hh => ?_)
    cases q1 : owe σ n w h
    · cases q2 : owe σ (n + 1) w h
      · rfl
      · exact absurd ⟨w, hw, h, hh, q1, q2⟩ e
    · rw [owe_mono q1]
theorem owe_fs {w h n : Nat} (hb : wb σ (vH σ)) (hn : n + 1 ≤ 61) : (owe σ n w h = false ∧ owe σ (n + 1) w h = true) ↔ (σ (20 + w) h = 0 ∧ fs σ w h 61 = n + 1) := by
  unfold owe
  simp only [decide_eq_false_iff_not, decide_eq_true_eq, ne_eq, Decidable.not_not]
  by_cases z : σ (20 + w) h = 0
  · have hl := fs_le σ w h n
    have hl1 := fs_le σ w h (n + 1)
    rw [dk_zero z, dk_zero z]
    have a1 : (if fs σ w h n = 0 then 0 else min 100 (n - fs σ w h n + 1)) = 0 ↔ fs σ w h n = 0 := by
      split
      · simp [*]
      · rename_i q; constructor
        · intro e; omega
        · intro e; exact absurd e q
    have a2 : (if fs σ w h (n + 1) = 0 then 0 else min 100 (n + 1 - fs σ w h (n + 1) + 1)) = 0 ↔ fs σ w h (n + 1) = 0 := by
      split
      · simp [*]
      · rename_i q; constructor
        · intro e; omega
        · intro e; exact absurd e q
    rw [a1, a2]
    constructor
    · rintro ⟨q1, q2⟩
      have e : fs σ w h (n + 1) = n + 1 := by
        have q3 := q2
        unfold fs at q3 ⊢
        rw [if_neg (by omega)] at q3 ⊢
        split at q3
        · rename_i s; rw [if_pos s]
        · exact absurd rfl q3
      have := fs_mono q2 (61 - (n + 1))
      rw [show n + 1 + (61 - (n + 1)) = 61 by omega] at this
      exact ⟨z, by omega⟩
    · rintro ⟨-, q⟩
      have q2 := fs_at (σ := σ) (w := w) (h := h) (s := n + 1) (by omega) 61 q
      refine ⟨?_, by omega⟩
      rcases Nat.eq_zero_or_pos (fs σ w h n) with s | s
      · exact s
      · have := fs_mono (σ := σ) (w := w) (h := h) (n := n) (by omega) 1
        omega
  · constructor
    · rintro ⟨q, -⟩
      rw [dk_pos z (hb.2.2.2.2 w h)] at q
      omega
    · rintro ⟨q, -⟩; exact absurd q z
def gset (σ : vl) (w i m : Nat) : Nat := if σ (20 + w) i = 0 ∧ fs σ w i 61 ≠ 0 then m ||| 2 ^ fs σ w i 61 else m
def gmask (σ : vl) : Nat := ff (fun w m => ff (gset σ w) (vH σ) 0 m) (vW σ) 0 0
theorem gset_bit (w i m k : Nat) : (gset σ w i m).testBit k = (m.testBit k || decide (σ (20 + w) i = 0 ∧ fs σ w i 61 ≠ 0 ∧ fs σ w i 61 = k)) := by
  unfold gset
  split
  · rename_i c
    rw [Nat.testBit_or, Nat.testBit_two_pow]
    simp [c.1, c.2]
  · rename_i c
    have : ¬ (σ (20 + w) i = 0 ∧ fs σ w i 61 ≠ 0 ∧ fs σ w i 61 = k) := fun z => c ⟨z.1, z.2.1⟩
    simp only [this, decide_false, Bool.or_false]
theorem gmask_bit (k : Nat) : (gmask σ).testBit k = true ↔ ∃ w, w < vW σ ∧ ∃ h, h < vH σ ∧ σ (20 + w) h = 0 ∧ fs σ w h 61 ≠ 0 ∧ fs σ w h 61 = k := by
  have key : ∀ m0 W, (ff (fun w m => ff (gset σ w) (vH σ) 0 m) W 0 m0).testBit k = true ↔ m0.testBit k = true ∨ ∃ w, w < W ∧ ∃ h, h < vH σ ∧ σ (20 + w) h = 0 ∧ fs σ w h 61 ≠ 0 ∧ fs σ w h 61 = k := by
    intro m0 W
    induction W with
    | zero => exact ⟨Or.inl, fun z => z.elim id (fun ⟨w, hw, _⟩ => by omega)⟩
    | succ W ih =>
      have inner : ∀ m H, (ff (gset σ W) H 0 m).testBit k = true ↔ m.testBit k = true ∨ ∃ h, h < H ∧ σ (20 + W) h = 0 ∧ fs σ W h 61 ≠ 0 ∧ fs σ W h 61 = k := by
        intro m H
        induction H with
        | zero => exact ⟨Or.inl, fun z => z.elim id (fun ⟨h, hh, _⟩ => by omega)⟩
        | succ H ih2 =>
          rw [ff_succ, gset_bit, Nat.zero_add, Bool.or_eq_true, ih2, decide_eq_true_eq]
          constructor
          · rintro ((a | ⟨h, hh, q⟩) | q)
            · exact Or.inl a
            · exact Or.inr ⟨h, by omega, q⟩
            · exact Or.inr ⟨H, by omega, q⟩
          · rintro (a | ⟨h, hh, q⟩)
            · exact Or.inl (Or.inl a)
            · by_cases e : h = H
              · subst e; exact Or.inr q
              · exact Or.inl (Or.inr ⟨h, by omega, q⟩)
      rw [ff_succ, Nat.zero_add, inner, ih]
      constructor
      · rintro ((a | ⟨w, hw, q⟩) | q)
        · exact Or.inl a
        · exact Or.inr ⟨w, by omega, q⟩
        · exact Or.inr ⟨W, by omega, q⟩
      · rintro (a | ⟨w, hw, q⟩)
        · exact Or.inl (Or.inl a)
        · by_cases e : w = W
          · subst e; exact Or.inr q
          · exact Or.inl (Or.inr ⟨w, by omega, q⟩)
  unfold gmask
  rw [key]
  constructor
  · rintro (a | q)
    · rw [Nat.zero_testBit] at a; cases a
    · exact q
  · exact Or.inr
theorem gmask_lt : gmask σ < 2 ^ 62 := by
  apply Nat.lt_pow_two_of_testBit
  intro i hi
  cases q : (gmask σ).testBit i
  · rfl
  · obtain ⟨w, _, h, _, _, _, e⟩ := (gmask_bit i).mp q
    have := fs_le σ w h 61
    omega
theorem gmask_nw {n : Nat} (hb : wb σ (vH σ)) (hn : n ≤ 60) : (gmask σ).testBit (n + 1) = true ↔ nw σ n := by
  rw [gmask_bit]
  constructor
  · rintro ⟨w, hw, h, hh, a, b, c⟩
    exact ⟨w, hw, h, hh, (owe_fs hb (by omega)).mpr ⟨a, c⟩⟩
  · rintro ⟨w, hw, h, hh, q⟩
    obtain ⟨a, c⟩ := (owe_fs hb (by omega)).mp q
    exact ⟨w, hw, h, hh, a, by omega, c⟩
end Gaps
section Asks
variable {M : jm} {S : St} {σ : vl}
theorem p_growing (h0 : M 1 0 0 = nI (vH σ)) (hB : RB (M 1) σ (vH σ)) (hf : wf σ) : f_X5_eveningsOfNewDebts M = some (lN (gmask σ)) := by
  have hH := hf.1; have hW := hf.2.1.2.1
  unfold f_X5_eveningsOfNewDebts
  rw [show (0 : Int32) = nI 0 from rfl, show (0 : Int64) = lN 0 from rfl, loop0 (L := fun k (m : Nat) i => f_X5_eveningsOfNewDebts_l4 M k (lN m) i) (f := fun w m => ff (gset σ w) (vH σ) 0 m) (K := fun m => some (lN m)) (n := vW σ)]
  · rfl
  · intro k m w hw
    simp only [f_X5_eveningsOfNewDebts_l4]
    rw [if_neg (by rw [hB.1, q_le (by omega) (by omega)]; omega), show (0 : Int32) = nI 0 from rfl, loop0 (L := fun k2 (m : Nat) i => f_X5_eveningsOfNewDebts_l18 M (f_X5_eveningsOfNewDebts_l4 M k) (nI w) k2 (lN m) i) (f := gset σ w) (K := fun m => f_X5_eveningsOfNewDebts_l4 M k (lN m) (nI (w + 1))) (n := vH σ)]
    · intro k2 m i hi
      have hl := fs_le σ w i 61
      simp only [f_X5_eveningsOfNewDebts_l18]
      rw [if_neg (by rw [h0, q_le (by omega) (by omega)]; omega), p_owes hB hf.2.1 (by omega) (by omega), q_jb, show nI i + 1 = nI (i + 1) from nI_add i 1]
      unfold gset
      by_cases z : σ (20 + w) i = 0
      · rw [if_pos z, if_pos z00, show (61 : Int32) = nI 61 from rfl, p_firstSighting hB hf.2.1 hw hi (by omega), q_jb]
        by_cases z2 : fs σ w i 61 = 0
        · rw [if_pos z2, if_pos (by decide), if_neg (fun q => q.2 z2)]
        · rw [if_neg z2, if_neg (by rw [show (0 : Int32) = nI 0 from rfl, q_le (by omega) (by omega)]; omega), if_pos ⟨z, z2⟩, show (1 : Int64) = lN 1 from rfl, wb_shl 1 (by omega), fb_orL, Nat.one_mul]
      · rw [if_neg z, if_neg z10, if_neg (fun q => z q.1)]
    · intro k2 m
      simp only [f_X5_eveningsOfNewDebts_l18]
      rw [if_pos (by rw [h0, q_le (by omega) (by omega)]; omega), show nI w + 1 = nI (w + 1) from nI_add w 1]
    · omega
  · intro k m
    simp only [f_X5_eveningsOfNewDebts_l4]
    rw [if_pos (by rw [hB.1, q_le (by omega) (by omega)]; omega)]
  · omega
theorem g_tst {m k : Nat} (hm : m < 2 ^ 62) (hk : k < 62) : lg_cmp ((lN m >>> (Int32.toInt64 (nI k) &&& 63)) &&& 1) 0 = 0 ↔ m.testBit k = false := by
  have hD : ((lN k).toBitVec.smod 64).toNat = k := by
    have : ∀ k, k < 62 → ((lN k).toBitVec.smod 64).toNat = k := by decide +kernel
    exact this k hk
  have h1 : m / 2 ^ k ≤ m := Nat.div_le_self _ _
  rw [wb_c k (by omega), pf_shr hD hm, wb_a1 (by omega), lg_cmp_eq, show (0 : Int64) = lN 0 from rfl, pk_lEQ (by omega) (by omega), Nat.testBit_eq_decide_div_mod_eq]
  simp only [decide_eq_false_iff_not]
  omega
theorem gaps_eq {N : jm} (hb : wg σ) : ∀ d n k k2 A, n + d = 61 → d < k → d + 1 < k2 → RM (A 16) (evN σ n) → KM (A 16 21) σ → frT N A → ∃ r M2, f_X5_gaps_l7 M (lN (gmask σ)) k (nI n) = some r ∧ f_X6_gaps_l14 k2 A (-9) (nI n) = some (r, M2) ∧ RM (M2 16) σ ∧ frT N M2 := by
  intro d
  induction d with
  | zero =>
    intro n k k2 A hn hk hk2 p1 p2 p3
    obtain ⟨k, rfl⟩ : ∃ j, k = j + 1 := ⟨k - 1, by omega⟩
    obtain ⟨k2, rfl⟩ : ∃ j, k2 = j + 1 := ⟨k2 - 1, by omega⟩
    obtain ⟨B, b1, b2, b3⟩ := m_again p2 hb
    refine ⟨-9, B, ?_, ?_, b2, frT_trans p3 (frT_of b3)⟩
    · rw [f_X5_gaps_l7, if_pos (by rw [show (60 : Int32) = nI 60 from rfl, q_lt (by omega) (by omega)]; omega)]
    · rw [f_X6_gaps_l14, if_pos (by rw [show (60 : Int32) = nI 60 from rfl, q_lt (by omega) (by omega)]; omega), b1, q_jb]
  | succ d ih =>
    intro n k k2 A hn hk hk2 p1 p2 p3
    obtain ⟨k, rfl⟩ : ∃ j, k = j + 1 := ⟨k - 1, by omega⟩
    obtain ⟨k2, rfl⟩ : ∃ j, k2 = j + 2 := ⟨k2 - 2, by omega⟩
    obtain ⟨B, b1, b2, b3⟩ := m_evening p1 hb
    have hd1 := m_allDebts p1 (wg_ev hb)
    have hd2 := m_allDebts b2 (wg_ev hb)
    rw [debts_ev] at hd1 hd2
    have kB : KM (B 16 21) σ := by rw [fr3_at b3 (by omega)]; exact p2
    have fB : frT N B := frT_trans p3 (frT_of (frA_of b3))
    have hle : ∀ m, debts σ m ≤ 7 * 6 := fun m => by
      have h1 := sm_le (f := fun w => cn (owe σ m w) (vH σ)) (c := 7) (vW σ) (fun w _ => Nat.le_trans (cn_le _ _) hb.1)
      have h2 := hb.2.1.2.1
      unfold debts
      omega
    have hx : f_X5_gaps_l7 M (lN (gmask σ)) (k + 1) (nI n) = if debts σ (n + 1) = debts σ n then some (nI n) else f_X5_gaps_l7 M (lN (gmask σ)) k (nI (n + 1)) := by
      rw [f_X5_gaps_l7, if_neg (by rw [show (60 : Int32) = nI 60 from rfl, q_lt (by omega) (by omega)]; omega), show nI n + 1 = nI (n + 1) from nI_add n 1]
      by_cases z : nw σ n
      · rw [if_neg (by rw [g_tst gmask_lt (by omega), (gmask_nw hb.2.1 (by omega)).mpr z]; simp), if_neg (fun q => (debts_nw n).mp q z)]
      · rw [if_pos (by
          rw [g_tst gmask_lt (by omega)]
          cases q : (gmask σ).testBit (n + 1)
          · rfl
          · exact absurd ((gmask_nw hb.2.1 (by omega)).mp q) z), if_pos ((debts_nw n).mpr z)]
    have hy : f_X6_gaps_l14 (k2 + 2) A (-9) (nI n) = if debts σ (n + 1) = debts σ n then f_X6_gaps_l14 (k2 + 1) B (nI n) (nI (n + 1)) else f_X6_gaps_l14 (k2 + 1) B (-9) (nI (n + 1)) := by
      rw [f_X6_gaps_l14, if_neg (by rw [show (60 : Int32) = nI 60 from rfl, q_lt (by omega) (by omega)]; omega), if_neg (by decide), hd1, q_jb, b1, q_jb, hd2, q_jb, show nI n + 1 = nI (n + 1) from nI_add n 1]
      have he : nI (debts σ (n + 1)) = nI (debts σ n) ↔ debts σ (n + 1) = debts σ n := q_eq (Nat.lt_of_le_of_lt (hle _) (by omega)) (Nat.lt_of_le_of_lt (hle _) (by omega))
      by_cases z : nw σ n
      · rw [if_neg (fun q => (debts_nw n).mp (he.mp q) z), if_neg (fun q => (debts_nw n).mp q z)]
      · rw [if_pos (he.mpr ((debts_nw n).mpr z)), if_pos ((debts_nw n).mpr z)]
    rw [hx, hy]
    by_cases z : nw σ n
    · rw [if_neg (fun q => (debts_nw n).mp q z), if_neg (fun q => (debts_nw n).mp q z)]
      exact ih (n + 1) k (k2 + 1) B (by omega) (by omega) (by omega) b2 kB fB
    · rw [if_pos ((debts_nw n).mpr z), if_pos ((debts_nw n).mpr z)]
      obtain ⟨C, c1, c2, c3⟩ := m_again kB hb
      refine ⟨nI n, C, rfl, ?_, c2, frT_trans fB (frT_of c3)⟩
      rw [f_X6_gaps_l14, c1, if_pos (show (0 : Int32) ≤ nI n from r_lo (by omega)), q_jb]
      split <;> rfl
theorem ok_gaps (hJ : JJ M S) : OK0 M (f_X5_gaps M) (fun M1 => f_X6_gaps M1) := by
  obtain ⟨h0, h5, hB⟩ := J_C hJ; have hf := J_f hJ; have hH := hf.1; have hW := hf.2.1.2.1
  obtain ⟨A, a1, a2, a3, a4⟩ := m_think (M := ju M 16 11 0 0) (RM_ct hJ.2.1.1)
  obtain ⟨r, B, b1, b2, b3, b4⟩ := gaps_eq (M := M) (N := ju M 16 11 0 0) (wg_of hf) 61 0 10000 10000 A (by omega) (by omega) (by omega) (by rw [evN_0]; exact a2) a3 a4
  refine OK0_q hJ (r := r) ?_ (fun hR hg => ⟨B, ?_, b3, frK_trans (frK_ct M) (frK_of b4)⟩)
  · unfold f_X5_gaps
    rw [p_growing h0 hB hf, q_jb]
    exact b1
  · show f_X6_gaps M = _
    unfold f_X6_gaps
    rw [a1, q_jb]
    exact b2
end Asks
