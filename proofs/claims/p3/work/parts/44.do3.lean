/-! house, walker -/
section Do
variable {M M1 M2 : jm} {S : St} {σ : vl}
theorem m_hC77 (hR : RM (M 16) σ) (hf : wg σ) (hH : vH σ < 7) {N : jm} (hN : ∀ f, f = 0 ∨ f = 9 → N 16 f = M 16 f) : f_X6_houseComes_l77 1 10000 N 0 = some (1, ju N 16 0 0 (nI (vH σ + 1))) := by
  have e0 : N 16 0 0 = nI (vH σ) := by rw [hN 0 (by omega)]; exact hR.1
  have key := loopE (L := fun k (M : jm) i => f_X6_houseComes_l77 1 k M i) (P := fun _ A => A = N) (Z := fun r => r = some (1, ju N 16 0 0 (nI (vH σ + 1)))) (n := 6) ?_ ?_ 6 0 10000 N (by omega) (by omega) rfl
  · exact key
  · rintro k A i hi rfl
    refine ⟨A, ?_, rfl⟩
    simp only [f_X6_houseComes_l77]
    have ez : A 16 9 (7 * i + vH σ) = nI 0 := by rw [hN 9 (by omega), hR.2.2.2.2.2 i hi (vH σ) hH, hf.2.2 i (vH σ) (by omega)]
    have ej : ju A 16 9 (7 * i + vH σ) 0 = A := by
      have := ju_id (M := A) (o := 16) (k := 9) (i := 7 * i + vH σ)
      rw [ez] at this; exact this
    rw [if_neg (by rw [show (6 : Int32) = nI 6 from rfl, q_le (by omega) (by omega)]; omega), e0, idx7, q_gd (by omega) (by omega), q_cl (by omega), ej, show nI i + 1 = nI (i + 1) from nI_add i 1]
  · rintro k A rfl
    simp only [f_X6_houseComes_l77]
    rw [if_pos (by rw [show (6 : Int32) = nI 6 from rfl, q_le (by omega) (by omega)]; omega), e0, show nI (vH σ) + 1 = nI (vH σ + 1) from nI_add _ 1]; rfl
theorem m_houseComes (hR : RM (M 16) σ) (hf : wg σ) {k f c : Nat} (hk : k < 2 ^ 31) (hc : c < 2 ^ 31) : ∃ M', f_X6_houseComes M (nI k) (nI f) (nI c) = some (if k < 6 ∧ c < 49 ∧ vH σ < 7 then nI 1 else nI 0, M') ∧ (∀ o, o ≠ 16 → M' o = M o) ∧ (∀ f, 4 < f → M' 16 f = M 16 f) ∧ RM (M' 16) (if k < 6 ∧ c < 49 ∧ vH σ < 7 then addH σ k f c else σ) := by
  have hH := hf.1
  have no : ∀ M : jm, f_X6_houseComes_j27 M (nI k) (nI f) (nI c) 0 = some (nI 0, M) := fun M => by
    unfold f_X6_houseComes_j27
    rw [if_pos rfl]; rfl
  unfold f_X6_houseComes f_X6_houseComes_j26
  by_cases q : k < 6 ∧ c < 49 ∧ vH σ < 7
  · obtain ⟨q1, q2, q3⟩ := q
    rw [if_pos (show k < 6 ∧ c < 49 ∧ vH σ < 7 from ⟨q1, q2, q3⟩), if_pos (show k < 6 ∧ c < 49 ∧ vH σ < 7 from ⟨q1, q2, q3⟩)]
    have e0 : ∀ A : jm, A 16 0 = M 16 0 → A 16 0 0 = nI (vH σ) := fun A h => by rw [h]; exact hR.1
    refine ⟨ju (ju (ju (ju (ju M 16 1 (vH σ) (nI k)) 16 2 (vH σ) (nI f)) 16 3 (vH σ) (nI c)) 16 4 (vH σ) 1) 16 0 0 (nI (vH σ + 1)), ?_, ?_, ?_, ?_⟩
    · rw [if_neg (by rw [show (6 : Int32) = nI 6 from rfl, q_le (by omega) (by omega)]; omega), m_isCell, if_pos ((okv_nI (by omega) (by omega)).mpr q2), if_neg z10, if_neg (by rw [hR.1, show (7 : Int32) = nI 7 from rfl, q_le (by omega) (by omega)]; omega)]
      unfold f_X6_houseComes_j27
      have d1 : ∀ x, ju M 16 1 (vH σ) x 16 0 0 = nI (vH σ) := fun x => by rw [ju_g (by omega)]; exact hR.1
      have d2 : ∀ x y, ju (ju M 16 1 (vH σ) x) 16 2 (vH σ) y 16 0 0 = nI (vH σ) := fun x y => by rw [ju_g (by omega)]; exact d1 x
      have d3 : ∀ x y z, ju (ju (ju M 16 1 (vH σ) x) 16 2 (vH σ) y) 16 3 (vH σ) z 16 0 0 = nI (vH σ) := fun x y z => by rw [ju_g (by omega)]; exact d2 x y
      rw [if_neg (by decide), hR.1, q_cl (by omega), q_gd (by omega) (by omega), d1, q_cl (by omega), q_gd (by omega) (by omega), d2, q_cl (by omega), q_gd (by omega) (by omega), d3, q_cl (by omega), q_gd (by omega) (by omega)]
      exact m_hC77 hR hf q3 (fun g hg => by rw [ju_f (by omega), ju_f (by omega), ju_f (by omega), ju_f (by omega)])
    · intro o ho; rw [ju_ne ho, ju_ne ho, ju_ne ho, ju_ne ho, ju_ne ho]
    · intro g hg; rw [ju_f (by omega), ju_f (by omega), ju_f (by omega), ju_f (by omega), ju_f (by omega)]
    · obtain ⟨r1, r2, r3, r4, r5, r6⟩ := hR
      refine ⟨by rw [ju_self, addH_H], by rw [ju_g (by omega), ju_g (by omega), ju_g (by omega), ju_g (by omega), ju_g (by omega), addH_W]; exact r2, by rw [ju_g (by omega), ju_g (by omega), ju_g (by omega), ju_g (by omega), ju_g (by omega), addH_lo (by omega) (by omega)]; exact r3, fun h hh => ?_, fun w hw => ?_, fun w hw h hh => ?_⟩
      · rw [addH_H] at hh
        by_cases e : h = vH σ
        · subst e
          rw [addH_1, addH_2, addH_3, addH_4]
          refine ⟨?_, ?_, ?_, ?_⟩
          · rw [ju_g (by omega), ju_g (by omega), ju_g (by omega), ju_g (by omega), ju_self]
          · rw [ju_g (by omega), ju_g (by omega), ju_g (by omega), ju_self]
          · rw [ju_g (by omega), ju_g (by omega), ju_self]
          · rw [ju_g (by omega), ju_self]; rfl
        · obtain ⟨s1, s2, s3, s4⟩ := r4 h (by omega)
          rw [addH_lo (by omega) (by omega), addH_lo (by omega) (by omega), addH_lo (by omega) (by omega), addH_lo (by omega) (by omega)]
          refine ⟨?_, ?_, ?_, ?_⟩
          · rw [ju_g (by omega), ju_g (by omega), ju_g (by omega), ju_g (by omega), ju_o, if_neg (fun z => e z.2)]; exact s1
          · rw [ju_g (by omega), ju_g (by omega), ju_g (by omega), ju_o, if_neg (fun z => e z.2), ju_g (by omega)]; exact s2
          · rw [ju_g (by omega), ju_g (by omega), ju_o, if_neg (fun z => e z.2), ju_g (by omega), ju_g (by omega)]; exact s3
          · rw [ju_g (by omega), ju_o, if_neg (fun z => e z.2), ju_g (by omega), ju_g (by omega), ju_g (by omega)]; exact s4
      · rw [addH_W] at hw
        have g : ∀ F, 4 < F → ju (ju (ju (ju (ju M 16 1 (vH σ) (nI k)) 16 2 (vH σ) (nI f)) 16 3 (vH σ) (nI c)) 16 4 (vH σ) 1) 16 0 0 (nI (vH σ + 1)) 16 F w = M 16 F w := fun F hF => by rw [ju_g (by omega), ju_g (by omega), ju_g (by omega), ju_g (by omega), ju_g (by omega)]
        rw [g 6 (by omega), g 7 (by omega), g 8 (by omega), addH_lo (by omega) (by omega), addH_lo (by omega) (by omega), addH_lo (by omega) (by omega)]; exact r5 w hw
      · rw [ju_g (by omega), ju_g (by omega), ju_g (by omega), ju_g (by omega), ju_g (by omega), addH_lo (by omega) (by omega)]; exact r6 w hw h hh
  · rw [if_neg q, if_neg q]
    refine ⟨M, ?_, fun _ _ => rfl, fun _ _ => rfl, hR⟩
    by_cases q1 : k < 6
    · rw [if_neg (by rw [show (6 : Int32) = nI 6 from rfl, q_le (by omega) (by omega)]; omega), m_isCell]
      by_cases q2 : c < 49
      · rw [if_pos ((okv_nI (by omega) (by omega)).mpr q2), if_neg z10, if_pos (by rw [hR.1, show (7 : Int32) = nI 7 from rfl, q_le (by omega) (by omega)]; omega), no]
      · rw [if_neg (fun z => q2 ((okv_nI (by omega) (by omega)).mp z)), if_pos z00, no]
    · rw [if_pos (by rw [show (6 : Int32) = nI 6 from rfl, q_le (by omega) (by omega)]; omega), no]
theorem m_wC73 (hR : RM (M 16) σ) (hf : wg σ) (hW : vW σ < 6) {N : jm} (hN : ∀ f, f = 5 ∨ f = 9 → N 16 f = M 16 f) : f_X6_walkerComes_l73 1 10000 N 0 = some (1, ju N 16 5 0 (nI (vW σ + 1))) := by
  have e0 : N 16 5 0 = nI (vW σ) := by rw [hN 5 (by omega)]; exact hR.2.1
  have key := loopE (L := fun k (M : jm) i => f_X6_walkerComes_l73 1 k M i) (P := fun _ A => A = N) (Z := fun r => r = some (1, ju N 16 5 0 (nI (vW σ + 1)))) (n := 7) ?_ ?_ 7 0 10000 N (by omega) (by omega) rfl
  · exact key
  · rintro k A i hi rfl
    refine ⟨A, ?_, rfl⟩
    simp only [f_X6_walkerComes_l73]
    have ez : A 16 9 (7 * vW σ + i) = nI 0 := by rw [hN 9 (by omega), hR.2.2.2.2.2 (vW σ) hW i hi, hf.2.2 (vW σ) i (by omega)]
    have ej : ju A 16 9 (7 * vW σ + i) 0 = A := by
      have := ju_id (M := A) (o := 16) (k := 9) (i := 7 * vW σ + i)
      rw [ez] at this; exact this
    rw [if_neg (by rw [show (7 : Int32) = nI 7 from rfl, q_le (by omega) (by omega)]; omega), e0, show (7 : Int32) * nI (vW σ) + nI i = nI (7 * vW σ + i) from idx7 _ _, q_gd (by omega) (by omega), q_cl (by omega), ej, show nI i + 1 = nI (i + 1) from nI_add i 1]
  · rintro k A rfl
    simp only [f_X6_walkerComes_l73]
    rw [if_pos (by rw [show (7 : Int32) = nI 7 from rfl, q_le (by omega) (by omega)]; omega), e0, show nI (vW σ) + 1 = nI (vW σ + 1) from nI_add _ 1]; rfl
theorem m_walkerComes (hR : RM (M 16) σ) (hf : wg σ) {a g s : Nat} (ha : a < 2 ^ 31) (hg : g < 2 ^ 31) (hs : s < 2 ^ 31) : ∃ M', f_X6_walkerComes M (nI a) (nI g) (nI s) = some (if a < 49 ∧ g < 49 ∧ s ≤ 2 ∧ vW σ < 6 then nI 1 else nI 0, M') ∧ (∀ o, o ≠ 16 → M' o = M o) ∧ (∀ f, 8 < f → M' 16 f = M 16 f) ∧ RM (M' 16) (if a < 49 ∧ g < 49 ∧ s ≤ 2 ∧ vW σ < 6 then addW σ a g s else σ) := by
  have hW := hf.2.1.2.1
  have no : ∀ M : jm, f_X6_walkerComes_j33 M (nI a) (nI g) (nI s) 0 = some (nI 0, M) := fun M => by
    unfold f_X6_walkerComes_j33
    rw [if_pos rfl]; rfl
  unfold f_X6_walkerComes f_X6_walkerComes_j32
  by_cases q : a < 49 ∧ g < 49 ∧ s ≤ 2 ∧ vW σ < 6
  · obtain ⟨q1, q2, q3, q4⟩ := q
    have qq : a < 49 ∧ g < 49 ∧ s ≤ 2 ∧ vW σ < 6 := ⟨q1, q2, q3, q4⟩
    rw [if_pos qq, if_pos qq]
    refine ⟨ju (ju (ju (ju M 16 6 (vW σ) (nI a)) 16 7 (vW σ) (nI g)) 16 8 (vW σ) (nI s)) 16 5 0 (nI (vW σ + 1)), ?_, ?_, ?_, ?_⟩
    · rw [m_isCell, if_pos ((okv_nI (by omega) (by omega)).mpr q1), if_neg z10, m_isCell, if_pos ((okv_nI (by omega) (by omega)).mpr q2), if_neg z10, if_neg (by rw [show (2 : Int32) = nI 2 from rfl, q_lt (by omega) (by omega)]; omega), if_neg (by rw [hR.2.1, show (6 : Int32) = nI 6 from rfl, q_le (by omega) (by omega)]; omega)]
      unfold f_X6_walkerComes_j33
      have d1 : ∀ x, ju M 16 6 (vW σ) x 16 5 0 = nI (vW σ) := fun x => by rw [ju_g (by omega)]; exact hR.2.1
      have d2 : ∀ x y, ju (ju M 16 6 (vW σ) x) 16 7 (vW σ) y 16 5 0 = nI (vW σ) := fun x y => by rw [ju_g (by omega)]; exact d1 x
      rw [if_neg (by decide), hR.2.1, q_cl (by omega), q_gd (by omega) (by omega), d1, q_cl (by omega), q_gd (by omega) (by omega), d2, q_cl (by omega), q_gd (by omega) (by omega)]
      exact m_wC73 hR hf q4 (fun g hg => by rw [ju_f (by omega), ju_f (by omega), ju_f (by omega)])
    · intro o ho; rw [ju_ne ho, ju_ne ho, ju_ne ho, ju_ne ho]
    · intro g hg; rw [ju_f (by omega), ju_f (by omega), ju_f (by omega), ju_f (by omega)]
    · obtain ⟨r1, r2, r3, r4, r5, r6⟩ := hR
      refine ⟨by rw [ju_g (by omega), ju_g (by omega), ju_g (by omega), ju_g (by omega), addW_H]; exact r1, by rw [ju_self, addW_W], by rw [ju_g (by omega), ju_g (by omega), ju_g (by omega), ju_g (by omega), addW_lo (by omega) (by omega)]; exact r3, fun h hh => ?_, fun w hw => ?_, fun w hw h hh => ?_⟩
      · rw [addW_H] at hh
        have gg : ∀ F, F < 5 → ju (ju (ju (ju M 16 6 (vW σ) (nI a)) 16 7 (vW σ) (nI g)) 16 8 (vW σ) (nI s)) 16 5 0 (nI (vW σ + 1)) 16 F h = M 16 F h := fun F hF => by rw [ju_g (by omega), ju_g (by omega), ju_g (by omega), ju_g (by omega)]
        rw [gg 1 (by omega), gg 2 (by omega), gg 3 (by omega), gg 4 (by omega), addW_lo (by omega) (by omega), addW_lo (by omega) (by omega), addW_lo (by omega) (by omega), addW_lo (by omega) (by omega)]; exact r4 h hh
      · rw [addW_W] at hw
        by_cases e : w = vW σ
        · subst e
          rw [addW_6, addW_7, addW_8]
          refine ⟨?_, ?_, ?_⟩
          · rw [ju_g (by omega), ju_g (by omega), ju_g (by omega), ju_self]
          · rw [ju_g (by omega), ju_g (by omega), ju_self]
          · rw [ju_g (by omega), ju_self]
        · obtain ⟨s1, s2, s3⟩ := r5 w (by omega)
          rw [addW_lo (by omega) (by omega), addW_lo (by omega) (by omega), addW_lo (by omega) (by omega)]
          refine ⟨?_, ?_, ?_⟩
          · rw [ju_g (by omega), ju_g (by omega), ju_g (by omega), ju_o, if_neg (fun z => e z.2)]; exact s1
          · rw [ju_g (by omega), ju_g (by omega), ju_o, if_neg (fun z => e z.2), ju_g (by omega)]; exact s2
          · rw [ju_g (by omega), ju_o, if_neg (fun z => e z.2), ju_g (by omega), ju_g (by omega)]; exact s3
      · rw [ju_g (by omega), ju_g (by omega), ju_g (by omega), ju_g (by omega), addW_lo (by omega) (by omega)]; exact r6 w hw h hh
  · rw [if_neg q, if_neg q]
    refine ⟨M, ?_, fun _ _ => rfl, fun _ _ => rfl, hR⟩
    rw [m_isCell]
    by_cases q1 : a < 49
    · rw [if_pos ((okv_nI (by omega) (by omega)).mpr q1), if_neg z10, m_isCell]
      by_cases q2 : g < 49
      · rw [if_pos ((okv_nI (by omega) (by omega)).mpr q2), if_neg z10]
        by_cases q3 : s ≤ 2
        · rw [if_neg (by rw [show (2 : Int32) = nI 2 from rfl, q_lt (by omega) (by omega)]; omega), if_pos (by rw [hR.2.1, show (6 : Int32) = nI 6 from rfl, q_le (by omega) (by omega)]; omega), no]
        · rw [if_pos (by rw [show (2 : Int32) = nI 2 from rfl, q_lt (by omega) (by omega)]; omega), no]
      · rw [if_neg (fun z => q2 ((okv_nI (by omega) (by omega)).mp z)), if_pos z00, no]
    · rw [if_neg (fun z => q1 ((okv_nI (by omega) (by omega)).mp z)), if_pos z00, no]
end Do
