/-! street, forgiven; what lies ahead -/
section Ev
variable {σ : vl}
theorem mb_ev {n w h : Nat} (hw : w < vW σ) (hh : h < vH σ) : mb (evN σ n) w h 0 = mb σ w h n := by
  unfold mb
  rw [dk_ev hw hh, Nat.add_zero, evN_lo σ n 1 h (by omega), evN_lo σ n 2 h (by omega)]
theorem price_ev {n w : Nat} (hw : w < vW σ) : price (evN σ n) 0 w = price σ n w := by
  unfold price
  rw [evN_H]
  exact sm_congr _ (fun h hh => mb_ev hw hh)
theorem prices_ev {n : Nat} : prices (evN σ n) 0 = prices σ n := by
  unfold prices
  rw [evN_W]
  exact sm_congr _ (fun w hw => price_ev hw)
theorem owe_ev {n w h : Nat} (hw : w < vW σ) (hh : h < vH σ) : owe (evN σ n) 0 w h = owe σ n w h := by
  unfold owe
  rw [dk_ev hw hh, Nat.add_zero]
theorem debts_ev {n : Nat} : debts (evN σ n) 0 = debts σ n := by
  unfold debts
  rw [evN_W, evN_H]
  exact sm_congr _ (fun w hw => cn_congr _ (fun h hh => owe_ev hw hh))
end Ev
section Asks
variable {M : jm} {S : St} {σ : vl}
theorem fr3_at {M N : jm} (h : fr3 M N) {f : Nat} (h2 : 10 < f) : N 16 f = M 16 f := h.2 f (by omega) (by omega) (by omega)
theorem m_ahead (hR : RM (M 16) σ) (hf : wg σ) {n : Nat} (hn : n < 9000) : ∃ M1 M2 M3, f_X6_think M = some M1 ∧ f_X6_goEvenings M1 (nI n) = some M2 ∧ RM (M2 16) (evN σ n) ∧ f_X6_again M2 = some M3 ∧ RM (M3 16) σ ∧ frT M M3 ∧ KM (M3 16 21) σ := by
  obtain ⟨M1, e1, r1, k1, f1⟩ := m_think hR
  obtain ⟨M2, e2, r2, f2⟩ := m_goEvenings r1 hf hn
  have k2 : KM (M2 16 21) σ := by rw [fr3_at f2 (by omega)]; exact k1
  obtain ⟨M3, e3, r3, f3⟩ := m_again k2 hf
  exact ⟨M1, M2, M3, e1, e2, r2, e3, r3, frT_trans f1 (frT_of (frA_trans (frA_of f2) f3)), by rw [frA_21 f3]; exact k2⟩
-- prices
theorem ok_prices (hJ : JJ M S) (a : Int32) : OK (f_X5_prices M a) (fun M1 => f_X6_prices M1 a) := by
  obtain ⟨h0, h5, hB⟩ := J_C hJ; have hf := J_f hJ; have hH := hf.1; have hW := hf.2.1.2.1
  rcases rng a 60 (by decide) (show (60 : Int32) = nI 60 from rfl) with ⟨q1, q2⟩ | ⟨q1, q2, q3, q4⟩ | ⟨n, hn, rfl⟩
  · refine OK_ref (k := 4) (by omega) hJ ?_ (fun M1 e16 _ => ?_)
    · unfold f_X5_prices
      rw [if_neg q2]; rfl
    · simp only [f_X6_prices]
      rw [wn_lo q2, if_neg n4]; rfl
  · refine OK_ref (k := 6) (by omega) hJ ?_ (fun M1 e16 _ => ?_)
    · unfold f_X5_prices
      rw [if_pos q1, if_neg q4]; rfl
    · simp only [f_X6_prices]
      rw [wn_hi q1 q4, if_neg n6]; rfl
  · refine OK_q hJ (M1 := M) (r := nI (prices (sv S) n)) ?_ (frC_refl M) (fun hR hg => ?_)
    · unfold f_X5_prices
      rw [if_pos (r_lo (by omega)), if_pos (r_hi (c := 60) hn (by decide) rfl), p_pricesBehind h0 hB hf.2.1 (by omega), q_jb]
    · show ∃ M2, f_X6_prices M (nI n) = _ ∧ _
      unfold f_X6_prices
      have hc1 : RM ((ju M 16 11 0 0) 16) (sv S) := RM_ct hR
      have hc2 : frK M (ju M 16 11 0 0) := frK_ct M
      generalize ju M 16 11 0 0 = N at hc1 hc2 ⊢
      obtain ⟨M1, M2, M3, e1, e2, r2, e3, r3, f3, _⟩ := m_ahead hc1 hg (n := n) (by omega)
      refine ⟨M3, ?_, r3, frK_trans hc2 (frK_of f3)⟩
      rw [wn_ok (c := 60) hn (by decide) rfl, if_pos n0, e1, q_jb, e2, q_jb, m_allPrices r2 (wg_ev hg), q_jb, e3, q_jb, prices_ev]
-- a walker n evenings on
theorem ok_walkerIn (hJ : JJ M S) (a b c : Int32) : OK (f_X5_walkerIn M a b c) (fun M1 => f_X6_walkerIn M1 a b c) := by
  obtain ⟨h0, h5, hB⟩ := J_C hJ; have hf := J_f hJ; have hH := hf.1; have hW := hf.2.1.2.1
  by_cases c1 : okv (vW (sv S)) a = true
  · rcases rng b 60 (by decide) (show (60 : Int32) = nI 60 from rfl) with ⟨q1, q2⟩ | ⟨q1, q2, q3, q4⟩ | ⟨n, hn, rfl⟩
    · refine OK_ref (k := 4) (by omega) hJ ?_ (fun M1 e16 _ => ?_)
      · unfold f_X5_walkerIn
        rw [show f_X4_hasWalker M 1 a = nI 1 from by rw [p_hasW h5, if_pos c1], if_neg z10]
        rw [if_neg q2]; rfl
      · simp only [f_X6_walkerIn, f_X6_walkerIn_j24]
        rw [if_neg (show ¬ f_X6_isWalker (ju M1 16 11 0 0) a = 0 from by rw [m_isWalker (J_R hJ e16) (wg_of hf), if_pos c1]; decide), wn_lo q2, wb_no (by decide), if_neg n4]; rfl
    · refine OK_ref (k := 6) (by omega) hJ ?_ (fun M1 e16 _ => ?_)
      · unfold f_X5_walkerIn
        rw [show f_X4_hasWalker M 1 a = nI 1 from by rw [p_hasW h5, if_pos c1], if_neg z10]
        rw [if_pos q1, if_neg q4]; rfl
      · simp only [f_X6_walkerIn, f_X6_walkerIn_j24]
        rw [if_neg (show ¬ f_X6_isWalker (ju M1 16 11 0 0) a = 0 from by rw [m_isWalker (J_R hJ e16) (wg_of hf), if_pos c1]; decide), wn_hi q1 q4, wb_no (by decide), if_neg n6]; rfl
    · by_cases c3 : okv 3 c = true
      · obtain ⟨w, hw, rfl⟩ := okv_ex (by omega) c1
        obtain ⟨j, hj, rfl⟩ := okv_ex (by omega) c3
        have fin : ∀ r : Int32, f_X5_walkerIn M (nI w) (nI n) (nI j) = some (r, M) → (∀ M2 M3, RM (M2 16) (evN (sv S) n) → f_X6_again M2 = some M3 → (if nI j = 0 then (jgd (nI w) 6 (jb (f_X6_again M2) fun M_10 => (some ((M2 16 6 (Int32.toNatClampNeg (nI w))), M_10)))) else (if nI j = 1 then (jb (f_X6_owesBits M2 (nI w)) fun r8 => (jb (f_X6_again M2) fun M_9 => (some (r8, M_9)))) else (jb (f_X6_priceOf M2 (nI w)) fun r6 => (jb (f_X6_again M2) fun M_7 => (some (r6, M_7)))))) = some (r, M3)) → OK (f_X5_walkerIn M (nI w) (nI n) (nI j)) (fun M1 => f_X6_walkerIn M1 (nI w) (nI n) (nI j)) := by
          intro r ha hb
          refine OK_q hJ (M1 := M) (r := r) ha (frC_refl M) (fun hR hg => ?_)
          show ∃ M2, f_X6_walkerIn M (nI w) (nI n) (nI j) = some (r, M2) ∧ _
          unfold f_X6_walkerIn f_X6_walkerIn_j24
          have hc1 : RM ((ju M 16 11 0 0) 16) (sv S) := RM_ct hR
          have hc2 : frK M (ju M 16 11 0 0) := frK_ct M
          generalize ju M 16 11 0 0 = N at hc1 hc2 ⊢
          obtain ⟨M1, M2, M3, e1, e2, r2, e3, r3, f3, _⟩ := m_ahead hc1 hg (n := n) (by omega)
          refine ⟨M3, ?_, r3, frK_trans hc2 (frK_of f3)⟩
          rw [show f_X6_isWalker N (nI w) = nI 1 by rw [m_isWalker hc1 hg, if_pos c1], if_neg z10, wn_ok (c := 60) hn (by decide) rfl, wb_0 (c := 2) 3 (by decide) rfl, if_pos c3, if_pos n0, e1, q_jb, e2, q_jb]
          exact hb M2 M3 r2 e3
        have A : f_X4_hasWalker M 1 (nI w) = nI 1 := by rw [p_hasW h5, if_pos c1]
        have hj' : j = 0 ∨ j = 1 ∨ j = 2 := by omega
        have gd : ∀ {α : Type} (x : Option α), jgd (nI w) 6 x = x := fun x => q_gd (by omega) (by omega)
        have hw' : ∀ m, w < vW (evN (sv S) m) := fun m => by rw [evN_W]; exact hw
        have hg := wg_of hf
        rcases hj' with rfl | rfl | rfl
        · refine fin (nI (pl (sv S) w n)) ?_ (fun M2 M3 r2 e3 => ?_)
          · unfold f_X5_walkerIn; rw [A, if_neg z10, if_pos (r_lo (by omega)), if_pos (r_hi (c := 60) hn (by decide) rfl), if_pos (by decide), p_placeBehind hB hf.2.1 hw (by omega), q_jb]
          · rw [if_pos (by decide), gd, e3, q_jb, q_cl (by omega), (r2.2.2.2.2.1 w (hw' n)).1, evN_at hw]
        · refine fin (nI (bs (owe (sv S) n w) (vH (sv S)))) ?_ (fun M2 M3 r2 e3 => ?_)
          · unfold f_X5_walkerIn; rw [A, if_neg z10, if_pos (r_lo (by omega)), if_pos (r_hi (c := 60) hn (by decide) rfl), if_neg (by decide), if_pos (by decide), p_owesBehind h0 hB hf.2.1 hw (by omega), q_jb]
          · rw [if_neg (by decide), if_pos (by decide), m_owesBits r2 (wg_ev hg) (hw' n), q_jb, e3, q_jb, evN_H, bs_congr _ (fun h hh => owe_ev hw hh)]
        · refine fin (nI (price (sv S) n w)) ?_ (fun M2 M3 r2 e3 => ?_)
          · unfold f_X5_walkerIn; rw [A, if_neg z10, if_pos (r_lo (by omega)), if_pos (r_hi (c := 60) hn (by decide) rfl), if_neg (by decide), if_neg (by decide), if_pos (by decide), p_priceBehind h0 hB hf.2.1 hw (by omega), q_jb]
          · rw [if_neg (by decide), if_neg (by decide), m_priceOf r2 (wg_ev hg) (hw' n), q_jb, e3, q_jb, price_ev hw]
      · have nn : ∀ j, j < 3 → ¬ c = nI j := fun j hj => okv_ne (by omega) c3 hj
        refine OK_ref (k := 2) (by omega) hJ ?_ (fun M1 e16 _ => ?_)
        · unfold f_X5_walkerIn
          rw [show f_X4_hasWalker M 1 a = nI 1 from by rw [p_hasW h5, if_pos c1], if_neg z10]
          rw [if_pos (r_lo (by omega)), if_pos (r_hi (c := 60) hn (by decide) rfl), if_neg (show ¬ c = (0 : Int32) from nn 0 (by omega)), if_neg (show ¬ c = (1 : Int32) from nn 1 (by omega)), if_neg (show ¬ c = (2 : Int32) from nn 2 (by omega))]; rfl
        · simp only [f_X6_walkerIn, f_X6_walkerIn_j24]
          rw [if_neg (show ¬ f_X6_isWalker (ju M1 16 11 0 0) a = 0 from by rw [m_isWalker (J_R hJ e16) (wg_of hf), if_pos c1]; decide), wn_ok (c := 60) hn (by decide) rfl, wb_0 (c := 2) 3 (by decide) rfl, if_neg c3, if_neg n2]; rfl
  · refine OK_ref (k := 1) (by omega) hJ ?_ (fun M1 e16 _ => ?_)
    · unfold f_X5_walkerIn
      rw [show f_X4_hasWalker M 1 a = nI 0 from by rw [p_hasW h5, if_neg c1], if_pos z00]; rfl
    · simp only [f_X6_walkerIn, f_X6_walkerIn_j24]
      rw [if_pos (show f_X6_isWalker (ju M1 16 11 0 0) a = 0 from by rw [m_isWalker (J_R hJ e16) (wg_of hf), if_neg c1]; rfl), wb_no (by decide), if_neg n1]; rfl
end Asks
