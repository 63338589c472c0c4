/-! the law answers 1 -/
section Law
variable {xs : Nat → Int32} {L : Nat}
set_option maxRecDepth 100000 in
set_option maxHeartbeats 4000000 in
theorem law_step {k i : Nat} {M : jm} {S : St} (hJ : JJ M S) (hL : L ≤ 3072) (hi : i + 6 ≤ L) (hK : ∀ M' S', JJ M' S' → f_L_law_l18 xs L k M' (nI (i + 6)) = some 1) : f_L_law_l18 xs L (k + 1) M (nI i) = some 1 := by
  have g0 : ∀ {α : Type} (a : Option α), jgd (nI i) L a = a := fun a => by
    exact q_gd (by omega) (by omega)
  have g1 : ∀ {α : Type} (a : Option α), jgd (nI i + 1) L a = a := fun a => by
    rw [show nI i + 1 = nI (i + 1) from nI_add i 1]
    exact q_gd (by omega) (by omega)
  have g2 : ∀ {α : Type} (a : Option α), jgd (nI i + 2) L a = a := fun a => by
    rw [show nI i + 2 = nI (i + 2) from nI_add i 2]
    exact q_gd (by omega) (by omega)
  have g3 : ∀ {α : Type} (a : Option α), jgd (nI i + 3) L a = a := fun a => by
    rw [show nI i + 3 = nI (i + 3) from nI_add i 3]
    exact q_gd (by omega) (by omega)
  have g4 : ∀ {α : Type} (a : Option α), jgd (nI i + 4) L a = a := fun a => by
    rw [show nI i + 4 = nI (i + 4) from nI_add i 4]
    exact q_gd (by omega) (by omega)
  have g5 : ∀ {α : Type} (a : Option α), jgd (nI i + 5) L a = a := fun a => by
    rw [show nI i + 5 = nI (i + 5) from nI_add i 5]
    exact q_gd (by omega) (by omega)
  have e6 : nI i + 6 = nI (i + 6) := nI_add i 6
  unfold f_L_law_l18
  rw [if_neg (fun z => by have := (nI_lim (by omega) (by omega)).mp z; omega), g0]
  simp only [g1, g2, g3, g4, g5, e6]
  refine ite_1 (fun _ => s_t (OK_t (ok_feed hJ _)) (fun M' S' hJ' => hK M' S' hJ')) (fun _ => ?_)
  refine ite_1 (fun _ => s_t (OK_t (ok_village hJ)) (fun M' S' hJ' => hK M' S' hJ')) (fun _ => ?_)
  refine ite_1 (fun _ => s_t (OK_t (ok_houseOf hJ _ _)) (fun M' S' hJ' => hK M' S' hJ')) (fun _ => ?_)
  refine ite_1 (fun _ => s_t (OK_t (ok_walkerOf hJ _ _)) (fun M' S' hJ' => hK M' S' hJ')) (fun _ => ?_)
  refine ite_1 (fun _ => s_t (OK_t (ok_age hJ _ _)) (fun M' S' hJ' => hK M' S' hJ')) (fun _ => ?_)
  refine ite_1 (fun _ => s_t (OK_t (ok_house hJ _ _ _)) (fun M' S' hJ' => hK M' S' hJ')) (fun _ => ?_)
  refine ite_1 (fun _ => s_t (OK_t (ok_walker hJ _ _ _)) (fun M' S' hJ' => hK M' S' hJ')) (fun _ => ?_)
  refine ite_1 (fun _ => s_t (OK_t (ok_lights hJ _)) (fun M' S' hJ' => hK M' S' hJ')) (fun _ => ?_)
  refine ite_1 (fun _ => s_t (OK_t (ok_goals hJ _ _)) (fun M' S' hJ' => hK M' S' hJ')) (fun _ => ?_)
  refine ite_1 (fun _ => s_t (OK_t (ok_visits hJ _ _)) (fun M' S' hJ' => hK M' S' hJ')) (fun _ => ?_)
  refine ite_1 (fun _ => s_t (OK_t (ok_trades hJ _ _ _)) (fun M' S' hJ' => hK M' S' hJ')) (fun _ => ?_)
  refine ite_1 (fun _ => s_t (OK_t (ok_evenings hJ _)) (fun M' S' hJ' => hK M' S' hJ')) (fun _ => ?_)
  refine ite_1 (fun _ => s_t (OK_t (ok_back hJ)) (fun M' S' hJ' => hK M' S' hJ')) (fun _ => ?_)
  refine ite_1 (fun _ => s_t (OK_t (ok_walkerIn hJ _ _ _)) (fun M' S' hJ' => hK M' S' hJ')) (fun _ => ?_)
  refine ite_1 (fun _ => s_t (OK_t (ok_prices hJ _)) (fun M' S' hJ' => hK M' S' hJ')) (fun _ => ?_)
  refine ite_1 (fun _ => s_t (OK_t (ok_owed hJ _ _)) (fun M' S' hJ' => hK M' S' hJ')) (fun _ => ?_)
  refine ite_1 (fun _ => s_t (OK_t (ok_home hJ _)) (fun M' S' hJ' => hK M' S' hJ')) (fun _ => ?_)
  refine ite_1 (fun _ => s_t (OK_t (ok_richest hJ _)) (fun M' S' hJ' => hK M' S' hJ')) (fun _ => ?_)
  refine ite_1 (fun _ => s_t (ot_way hJ _ _ _) (fun M' S' hJ' => hK M' S' hJ')) (fun _ => ?_)
  refine ite_1 (fun _ => s_t (OK_t (ok_payAll hJ _ _)) (fun M' S' hJ' => hK M' S' hJ')) (fun _ => ?_)
  refine ite_1 (fun _ => s_t (OK_t (ok_clear hJ _ _)) (fun M' S' hJ' => hK M' S' hJ')) (fun _ => ?_)
  refine ite_1 (fun _ => s_t (OK_t (ok_burn hJ _ _)) (fun M' S' hJ' => hK M' S' hJ')) (fun _ => ?_)
  refine ite_1 (fun _ => s_t (OK_t (ok_shut hJ _)) (fun M' S' hJ' => hK M' S' hJ')) (fun _ => ?_)
  refine ite_1 (fun _ => s_t (OK_t (ok_trade hJ _ _)) (fun M' S' hJ' => hK M' S' hJ')) (fun _ => ?_)
  refine ite_1 (fun _ => s_t (OK_t (ok_whoWent hJ _)) (fun M' S' hJ' => hK M' S' hJ')) (fun _ => ?_)
  refine ite_1 (fun _ => s_t (OK_t (ok_spread hJ _)) (fun M' S' hJ' => hK M' S' hJ')) (fun _ => ?_)
  refine ite_1 (fun _ => s_t (ot_whatKind hJ _ _ _) (fun M' S' hJ' => hK M' S' hJ')) (fun _ => ?_)
  refine ite_1 (fun _ => s_t (OK_t (ok_two hJ _ _ _)) (fun M' S' hJ' => hK M' S' hJ')) (fun _ => ?_)
  refine ite_1 (fun _ => s_t (OK_t (ok_mist hJ _ _ _ _ _)) (fun M' S' hJ' => hK M' S' hJ')) (fun _ => ?_)
  refine ite_1 (fun _ => s_t (OK_t (ok_oldest hJ _)) (fun M' S' hJ' => hK M' S' hJ')) (fun _ => ?_)
  refine ite_1 (fun _ => s_t (OK_t (ok_mean hJ _)) (fun M' S' hJ' => hK M' S' hJ')) (fun _ => ?_)
  refine ite_1 (fun _ => s_t0 (OK_t0 (ok_forgiven hJ)) (fun M' S' hJ' => hK M' S' hJ')) (fun _ => ?_)
  refine ite_1 (fun _ => s_t (OK_t (ok_nearest hJ _)) (fun M' S' hJ' => hK M' S' hJ')) (fun _ => ?_)
  refine ite_1 (fun _ => s_t (OK_t (ok_allSeen hJ _)) (fun M' S' hJ' => hK M' S' hJ')) (fun _ => ?_)
  refine ite_1 (fun _ => s_t0 (OK_t0 (ok_gaps hJ)) (fun M' S' hJ' => hK M' S' hJ')) (fun _ => ?_)
  refine ite_1 (fun _ => s_t0 (OK_t0 (ok_blind hJ)) (fun M' S' hJ' => hK M' S' hJ')) (fun _ => ?_)
  refine ite_1 (fun _ => s_t (OK_t (ok_moved hJ _ _ _)) (fun M' S' hJ' => hK M' S' hJ')) (fun _ => ?_)
  refine ite_1 (fun _ => s_t (OK_t (ok_street hJ _)) (fun M' S' hJ' => hK M' S' hJ')) (fun _ => ?_)
  refine ite_1 (fun _ => s_t (OK_t (ok_row hJ _)) (fun M' S' hJ' => hK M' S' hJ')) (fun _ => ?_)
  refine ite_1 (fun _ => s_t (OK_t (ok_judge hJ)) (fun M' S' hJ' => hK M' S' hJ')) (fun _ => ?_)
  refine ite_1 (fun _ => s_t (OK_t (ok_empties hJ)) (fun M' S' hJ' => hK M' S' hJ')) (fun _ => ?_)
  refine ite_1 (fun _ => s_t (OK_t (ok_lots hJ _ _ _)) (fun M' S' hJ' => hK M' S' hJ')) (fun _ => ?_)
  refine ite_1 (fun _ => s_t (OK_t (ok_image hJ)) (fun M' S' hJ' => hK M' S' hJ')) (fun _ => ?_)
  refine ite_1 (fun _ => s_t (OK_t (ok_restore hJ)) (fun M' S' hJ' => hK M' S' hJ')) (fun _ => ?_)
  refine ite_1 (fun _ => s_ok0 (ok_count hJ _) (fun M' S' hJ' => hK M' S' hJ')) (fun _ => ?_)
  exact hK M S hJ
theorem law_all (hL : L ≤ 3072) : ∀ k i M S, JJ M S → L < i + 6 * k + 6 → i ≤ L + 6 → f_L_law_l18 xs L (k + 1) M (nI i) = some 1 := by
  intro k
  induction k with
  | zero =>
    intro i M S hJ h1 h2
    rw [f_L_law_l18, if_pos ((nI_lim (by omega) (by omega)).mpr (by omega))]
  | succ k ih =>
    intro i M S hJ h1 h2
    by_cases z : L < i + 6
    · rw [f_L_law_l18, if_pos ((nI_lim (by omega) (by omega)).mpr z)]
    · exact law_step hJ hL (by omega) (fun M' S' hJ' => ih (i + 6) M' S' hJ' (by omega) (by omega))
theorem jlaw_ok (xs : Nat → Int32) (L : Nat) (hL : L ≤ 3072) : f_L_law_l18 xs L 10000 jM0 0 = some 1 := law_all hL 9999 0 jM0 S0 JJ_start (by omega) (by omega)
end Law
