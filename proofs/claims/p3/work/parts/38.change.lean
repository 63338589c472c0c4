/-! changes of what both sides hold -/
def setv (S : St) (τ : vl) : St := (fun k => if k = 0 then τ else S.1 k, S.2)
def setn (S : St) (j x : Nat) : St := (S.1, fun k i => if k = 0 ∧ i = j then x else S.2.1 k i, S.2.2)
def setl (S : St) (k i x : Nat) : St := (S.1, fun k' i' => if k' = k ∧ i' = i then x else S.2.1 k' i', S.2.2)
def setim (S : St) : St := (fun k => if k = 1 then S.1 0 else S.1 k, fun k i => if k = 0 ∧ i = 1 then 1 else S.2.1 k i, S.2.2)
def push (S : St) : St := (fun k => if k = 0 then S.1 0 else if k = 1 then S.1 1 else if k = 2 then S.1 0 else S.1 (k - 1), fun k i => if k = 0 ∧ i = 0 then min 8 (S.2.1 0 0 + 1) else S.2.1 k i, S.2.2)
def pop (S : St) : St := (fun k => if k = 0 then S.1 2 else if k = 1 then S.1 1 else S.1 (k + 1), fun k i => if k = 0 ∧ i = 0 then S.2.1 0 0 - 1 else S.2.1 k i, S.2.2)
section Ch
variable {M M' : jm} {S : St} {τ : vl}
theorem JC_v (hR : RW (M' 1) τ) (h : ∀ o, o ≠ 1 → o ≠ 2 → o ≠ 14 → o ≠ 15 → o ≠ 16 → M' o = M o) (hJ : JC M S) : JC M' (setv S τ) := by
  obtain ⟨j1, j2, ⟨nx, n1, n2, n3⟩, j4, j5, j6, j7, j8, j9, j10⟩ := hJ
  refine ⟨hR, ?_, ⟨nx, n1, ?_, fun i hi => ?_⟩, ?_, fun q => ?_, ?_, fun i hi => ?_, ?_, fun i hi => ?_, fun i hi => ?_⟩
  · rw [h 12 (by omega) (by omega) (by omega) (by omega) (by omega)]; exact j2
  · rw [h 12 (by omega) (by omega) (by omega) (by omega) (by omega)]; exact n2
  · rw [h _ (by omega) (by omega) (by omega) (by omega) (by omega)]
    have := n3 i hi
    unfold shs at this ⊢
    show RW _ (if 2 + i = 0 then τ else S.1 (2 + i))
    rw [if_neg (by omega)]; exact this
  · rw [h 0 (by omega) (by omega) (by omega) (by omega) (by omega)]; exact j4
  · rw [h 3 (by omega) (by omega) (by omega) (by omega) (by omega)]; exact j5 q
  · rw [h 13 (by omega) (by omega) (by omega) (by omega) (by omega)]; exact j6
  · rw [h 13 (by omega) (by omega) (by omega) (by omega) (by omega)]; exact j7 i hi
  · rw [h 0 (by omega) (by omega) (by omega) (by omega) (by omega)]; exact j8
  · rw [h 0 (by omega) (by omega) (by omega) (by omega) (by omega)]; exact j9 i hi
  · rw [h 0 (by omega) (by omega) (by omega) (by omega) (by omega)]; exact j10 i hi
theorem JR_v (hR : RM (M' 16) τ) (h : ∀ f, kp f → M' 16 f = M 16 f) (hJ : JR M S) : JR M' (setv S τ) := by
  obtain ⟨j1, j2, j3, j4, j5, j6, j7, j8, j9, j10⟩ := hJ
  unfold kp at h
  refine ⟨hR, by rw [h 29 (by omega)]; exact j2, fun i hi => ?_, by rw [h 23 (by omega)]; exact j4, fun q => by rw [h 22 (by omega)]; exact j5 q, by rw [h 14 (by omega)]; exact j6, fun i hi => by rw [h 13 (by omega)]; exact j7 i hi, by rw [h 36 (by omega)]; exact j8, fun i hi => by rw [h 35 (by omega)]; exact j9 i hi, fun i hi => by rw [h 12 (by omega)]; exact j10 i hi⟩
  rw [h 27 (by omega)]
  have := j3 i hi
  unfold shs at this ⊢
  show KM _ (if 2 + i = 0 then τ else S.1 (2 + i))
  rw [if_neg (by omega)]; exact this
theorem wS_v (hf : wf τ) (hw : wS S) : wS (setv S τ) := by
  obtain ⟨w1, w2, w3, w4⟩ := hw
  refine ⟨hf, w2, fun i hi => ?_, w4⟩
  have := w3 i hi
  unfold shs at this ⊢
  show wf (if 2 + i = 0 then τ else S.1 (2 + i))
  rw [if_neg (by omega)]; exact this
/-- a number of what both hold: 0 the kept ones' (only down), 2 the letters', 3 the row's -/
theorem JC_0 {x : Nat} (hx : x ≤ shn S) (hJ : JC M S) : x = 0 → JC (ju M 12 2 0 (nI x)) (setn S 0 x) := by
  rintro rfl
  obtain ⟨j1, j2, ⟨nx, n1, n2, n3⟩, j4, j5, j6, j7, j8, j9, j10⟩ := hJ
  refine ⟨by rw [ju_ne (by omega)]; exact j1, by rw [ju_self]; rfl, ⟨nx, n1, by rw [ju_g (by omega)]; exact n2, fun i hi => absurd hi (Nat.not_lt_zero i)⟩, by rw [ju_ne (by omega)]; exact j4, fun q => by rw [ju_ne (by omega)]; exact j5 q, by rw [ju_ne (by omega)]; exact j6, fun i hi => by rw [ju_ne (by omega)]; exact j7 i hi, by rw [ju_ne (by omega)]; exact j8, fun i hi => by rw [ju_ne (by omega)]; exact j9 i hi, fun i hi => by rw [ju_ne (by omega)]; exact j10 i hi⟩
theorem JR_0 (hJ : JR M S) : JR (ju M 16 29 0 (nI 0)) (setn S 0 0) := by
  obtain ⟨j1, j2, j3, j4, j5, j6, j7, j8, j9, j10⟩ := hJ
  exact ⟨RM_fe (fun f hf => ju_f (by omega)) j1, by rw [ju_self]; rfl, fun i hi => absurd hi (Nat.not_lt_zero i), by rw [ju_g (by omega)]; exact j4, fun q => by rw [ju_f (by omega)]; exact j5 q, by rw [ju_g (by omega)]; exact j6, fun i hi => by rw [ju_g (by omega)]; exact j7 i hi, by rw [ju_g (by omega)]; exact j8, fun i hi => by rw [ju_g (by omega)]; exact j9 i hi, fun i hi => by rw [ju_g (by omega)]; exact j10 i hi⟩
theorem wS_0 (hw : wS S) : wS (setn S 0 0) := by
  obtain ⟨w1, w2, w3, w4, w5, w6, w7, w8, w9⟩ := hw
  exact ⟨w1, by show 0 ≤ 8; omega, fun i hi => absurd hi (Nat.not_lt_zero i), w4, w5, w6, w7, w8, w9⟩
theorem JC_2 (hJ : JC M S) : JC (ju M 13 1 0 (nI 0)) (setn S 2 0) := by
  obtain ⟨j1, j2, ⟨nx, n1, n2, n3⟩, j4, j5, j6, j7, j8, j9, j10⟩ := hJ
  exact ⟨by rw [ju_ne (by omega)]; exact j1, by rw [ju_ne (by omega)]; exact j2, ⟨nx, n1, by rw [ju_ne (by omega)]; exact n2, fun i hi => by rw [ju_ne (by omega)]; exact n3 i hi⟩, by rw [ju_ne (by omega)]; exact j4, fun q => by rw [ju_ne (by omega)]; exact j5 q, by rw [ju_self]; rfl, fun i hi => absurd hi (Nat.not_lt_zero i), by rw [ju_ne (by omega)]; exact j8, fun i hi => by rw [ju_ne (by omega)]; exact j9 i hi, fun i hi => by rw [ju_ne (by omega)]; exact j10 i hi⟩
theorem JR_2 (hJ : JR M S) : JR (ju M 16 14 0 (nI 0)) (setn S 2 0) := by
  obtain ⟨j1, j2, j3, j4, j5, j6, j7, j8, j9, j10⟩ := hJ
  exact ⟨RM_fe (fun f hf => ju_f (by omega)) j1, by rw [ju_g (by omega)]; exact j2, fun i hi => by rw [ju_f (by omega)]; exact j3 i hi, by rw [ju_g (by omega)]; exact j4, fun q => by rw [ju_f (by omega)]; exact j5 q, by rw [ju_self]; rfl, fun i hi => absurd hi (Nat.not_lt_zero i), by rw [ju_g (by omega)]; exact j8, fun i hi => by rw [ju_g (by omega)]; exact j9 i hi, fun i hi => by rw [ju_g (by omega)]; exact j10 i hi⟩
theorem wS_2 (hw : wS S) : wS (setn S 2 0) := by
  obtain ⟨w1, w2, w3, w4, w5, w6, w7, w8, w9⟩ := hw
  exact ⟨w1, w2, w3, w4, w5, by show 0 ≤ 96; omega, fun i hi => absurd hi (Nat.not_lt_zero i), w8, w9⟩
theorem JC_3 (hJ : JC M S) : JC (ju M 0 9 0 (nI 0)) (setn S 3 0) := by
  obtain ⟨j1, j2, ⟨nx, n1, n2, n3⟩, j4, j5, j6, j7, j8, j9, j10⟩ := hJ
  exact ⟨by rw [ju_ne (by omega)]; exact j1, by rw [ju_ne (by omega)]; exact j2, ⟨nx, n1, by rw [ju_ne (by omega)]; exact n2, fun i hi => by rw [ju_ne (by omega)]; exact n3 i hi⟩, by rw [ju_g (by omega)]; exact j4, fun q => by rw [ju_ne (by omega)]; exact j5 q, by rw [ju_ne (by omega)]; exact j6, fun i hi => by rw [ju_ne (by omega)]; exact j7 i hi, by rw [ju_self]; rfl, fun i hi => absurd hi (Nat.not_lt_zero i), fun i hi => by rw [ju_g (by omega)]; exact j10 i hi⟩
theorem JR_3 (hJ : JR M S) : JR (ju M 16 36 0 (nI 0)) (setn S 3 0) := by
  obtain ⟨j1, j2, j3, j4, j5, j6, j7, j8, j9, j10⟩ := hJ
  exact ⟨RM_fe (fun f hf => ju_f (by omega)) j1, by rw [ju_g (by omega)]; exact j2, fun i hi => by rw [ju_f (by omega)]; exact j3 i hi, by rw [ju_g (by omega)]; exact j4, fun q => by rw [ju_f (by omega)]; exact j5 q, by rw [ju_g (by omega)]; exact j6, fun i hi => by rw [ju_g (by omega)]; exact j7 i hi, by rw [ju_self]; rfl, fun i hi => absurd hi (Nat.not_lt_zero i), fun i hi => by rw [ju_g (by omega)]; exact j10 i hi⟩
theorem wS_3 (hw : wS S) : wS (setn S 3 0) := by
  obtain ⟨w1, w2, w3, w4, w5, w6, w7, w8, w9⟩ := hw
  exact ⟨w1, w2, w3, w4, w5, w6, w7, by show 0 ≤ 12; omega, fun i hi => absurd hi (Nat.not_lt_zero i)⟩
/-- one letter more, one number more -/
theorem JC_L {x : Nat} (hx : sln S < 96) (hJ : JC M S) : JC (ju (ju M 13 0 (sln S) (nI x)) 13 1 0 (nI (sln S + 1))) (setn (setl S 1 (sln S) x) 2 (sln S + 1)) := by
  obtain ⟨j1, j2, ⟨nx, n1, n2, n3⟩, j4, j5, j6, j7, j8, j9, j10⟩ := hJ
  refine ⟨by rw [ju_ne (by omega), ju_ne (by omega)]; exact j1, by rw [ju_ne (by omega), ju_ne (by omega)]; exact j2, ⟨nx, n1, by rw [ju_ne (by omega), ju_ne (by omega)]; exact n2, fun i hi => by rw [ju_ne (by omega), ju_ne (by omega)]; exact n3 i hi⟩, by rw [ju_ne (by omega), ju_ne (by omega)]; exact j4, fun q => by rw [ju_ne (by omega), ju_ne (by omega)]; exact j5 q, by rw [ju_self]; rfl, fun i hi => ?_, by rw [ju_ne (by omega), ju_ne (by omega)]; exact j8, fun i hi => by rw [ju_ne (by omega), ju_ne (by omega)]; exact j9 i hi, fun i hi => by rw [ju_ne (by omega), ju_ne (by omega)]; exact j10 i hi⟩
  have hi' : i < sln S + 1 := hi
  rw [ju_g (by omega), ju_o]
  show _ = nI (if 1 = 1 ∧ i = sln S then x else S.2.1 1 i)
  by_cases e : i = sln S
  · rw [if_pos ⟨rfl, e⟩, if_pos ⟨rfl, e⟩]
  · rw [if_neg (fun z => e z.2), if_neg (fun z => e z.2)]; exact j7 i (by omega)
theorem JR_L {x : Nat} (hx : sln S < 96) (hJ : JR M S) : JR (ju (ju M 16 13 (sln S) (nI x)) 16 14 0 (nI (sln S + 1))) (setn (setl S 1 (sln S) x) 2 (sln S + 1)) := by
  obtain ⟨j1, j2, j3, j4, j5, j6, j7, j8, j9, j10⟩ := hJ
  refine ⟨RM_fe (fun f hf => by rw [ju_f (by omega), ju_f (by omega)]) j1, by rw [ju_g (by omega), ju_g (by omega)]; exact j2, fun i hi => by rw [ju_f (by omega), ju_f (by omega)]; exact j3 i hi, by rw [ju_g (by omega), ju_g (by omega)]; exact j4, fun q => by rw [ju_f (by omega), ju_f (by omega)]; exact j5 q, by rw [ju_self]; rfl, fun i hi => ?_, by rw [ju_g (by omega), ju_g (by omega)]; exact j8, fun i hi => by rw [ju_g (by omega), ju_g (by omega)]; exact j9 i hi, fun i hi => by rw [ju_g (by omega), ju_g (by omega)]; exact j10 i hi⟩
  have hi' : i < sln S + 1 := hi
  rw [ju_g (by omega), ju_o]
  show _ = nI (if 1 = 1 ∧ i = sln S then x else S.2.1 1 i)
  by_cases e : i = sln S
  · rw [if_pos ⟨rfl, e⟩, if_pos ⟨rfl, e⟩]
  · rw [if_neg (fun z => e z.2), if_neg (fun z => e z.2)]; exact j7 i (by omega)
theorem wS_L {x : Nat} (hx : sln S < 96) (hx2 : x < 256) (hw : wS S) : wS (setn (setl S 1 (sln S) x) 2 (sln S + 1)) := by
  obtain ⟨w1, w2, w3, w4, w5, w6, w7, w8, w9⟩ := hw
  refine ⟨w1, w2, w3, w4, w5, by show sln S + 1 ≤ 96; omega, fun i hi => ?_, w8, w9⟩
  have hi' : i < sln S + 1 := hi
  show (if 1 = 1 ∧ i = sln S then x else S.2.1 1 i) < 256
  by_cases e : i = sln S
  · rw [if_pos ⟨rfl, e⟩]; exact hx2
  · rw [if_neg (fun z => e z.2)]; exact w7 i (by omega)
theorem JC_N {x : Nat} (hx : srn S < 12) (hJ : JC M S) : JC (ju (ju M 0 8 (srn S) (nI x)) 0 9 0 (nI (srn S + 1))) (setn (setl S 2 (srn S) x) 3 (srn S + 1)) := by
  obtain ⟨j1, j2, ⟨nx, n1, n2, n3⟩, j4, j5, j6, j7, j8, j9, j10⟩ := hJ
  refine ⟨by rw [ju_ne (by omega), ju_ne (by omega)]; exact j1, by rw [ju_ne (by omega), ju_ne (by omega)]; exact j2, ⟨nx, n1, by rw [ju_ne (by omega), ju_ne (by omega)]; exact n2, fun i hi => by rw [ju_ne (by omega), ju_ne (by omega)]; exact n3 i hi⟩, by rw [ju_g (by omega), ju_g (by omega)]; exact j4, fun q => by rw [ju_ne (by omega), ju_ne (by omega)]; exact j5 q, by rw [ju_ne (by omega), ju_ne (by omega)]; exact j6, fun i hi => by rw [ju_ne (by omega), ju_ne (by omega)]; exact j7 i hi, by rw [ju_self]; rfl, fun i hi => ?_, fun i hi => by rw [ju_g (by omega), ju_g (by omega)]; exact j10 i hi⟩
  have hi' : i < srn S + 1 := hi
  rw [ju_g (by omega), ju_o]
  show _ = nI (if 2 = 2 ∧ i = srn S then x else S.2.1 2 i)
  by_cases e : i = srn S
  · rw [if_pos ⟨rfl, e⟩, if_pos ⟨rfl, e⟩]
  · rw [if_neg (fun z => e z.2), if_neg (fun z => e z.2)]; exact j9 i (by omega)
theorem JR_N {x : Nat} (hx : srn S < 12) (hJ : JR M S) : JR (ju (ju M 16 35 (srn S) (nI x)) 16 36 0 (nI (srn S + 1))) (setn (setl S 2 (srn S) x) 3 (srn S + 1)) := by
  obtain ⟨j1, j2, j3, j4, j5, j6, j7, j8, j9, j10⟩ := hJ
  refine ⟨RM_fe (fun f hf => by rw [ju_f (by omega), ju_f (by omega)]) j1, by rw [ju_g (by omega), ju_g (by omega)]; exact j2, fun i hi => by rw [ju_f (by omega), ju_f (by omega)]; exact j3 i hi, by rw [ju_g (by omega), ju_g (by omega)]; exact j4, fun q => by rw [ju_f (by omega), ju_f (by omega)]; exact j5 q, by rw [ju_g (by omega), ju_g (by omega)]; exact j6, fun i hi => by rw [ju_g (by omega), ju_g (by omega)]; exact j7 i hi, by rw [ju_self]; rfl, fun i hi => ?_, fun i hi => by rw [ju_g (by omega), ju_g (by omega)]; exact j10 i hi⟩
  have hi' : i < srn S + 1 := hi
  rw [ju_g (by omega), ju_o]
  show _ = nI (if 2 = 2 ∧ i = srn S then x else S.2.1 2 i)
  by_cases e : i = srn S
  · rw [if_pos ⟨rfl, e⟩, if_pos ⟨rfl, e⟩]
  · rw [if_neg (fun z => e z.2), if_neg (fun z => e z.2)]; exact j9 i (by omega)
theorem wS_N {x : Nat} (hx : srn S < 12) (hx2 : x ≤ 99) (hw : wS S) : wS (setn (setl S 2 (srn S) x) 3 (srn S + 1)) := by
  obtain ⟨w1, w2, w3, w4, w5, w6, w7, w8, w9⟩ := hw
  refine ⟨w1, w2, w3, w4, w5, w6, w7, by show srn S + 1 ≤ 12; omega, fun i hi => ?_⟩
  have hi' : i < srn S + 1 := hi
  show (if 2 = 2 ∧ i = srn S then x else S.2.1 2 i) ≤ 99
  by_cases e : i = srn S
  · rw [if_pos ⟨rfl, e⟩]; exact hx2
  · rw [if_neg (fun z => e z.2)]; exact w9 i (by omega)
end Ch
