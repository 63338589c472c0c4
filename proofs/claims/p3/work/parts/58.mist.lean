/-! mist -/
theorem pw_pos {t : Nat} (h : 0 < t) : ∀ n, 0 < t ^ n
  | 0 => by rw [Nat.pow_zero]; omega
  | n + 1 => by rw [Nat.pow_succ]; exact Nat.mul_pos (pw_pos h n) h
theorem sm_app (f : Nat → Nat) (a : Nat) : ∀ b, sm f (a + b) = sm f a + sm (fun i => f (a + i)) b
  | 0 => rfl
  | b + 1 => by
    show sm f (a + b) + f (a + b) = sm f a + (sm (fun i => f (a + i)) b + f (a + b))
    rw [sm_app f a b, Nat.add_assoc]
theorem sm_mulr (f : Nat → Nat) (c : Nat) : ∀ n, sm (fun i => f i * c) n = sm f n * c
  | 0 => by show 0 = 0 * c; rw [Nat.zero_mul]
  | n + 1 => by
    show sm (fun i => f i * c) n + f n * c = (sm f n + f n) * c
    rw [sm_mulr f c n, Nat.add_mul]
section Mist
variable {σ : vl}
/-- the odds of the mists m on k evenings -/
def od (t m : Nat) : Nat → Nat
  | 0 => 1
  | k + 1 => od t m k * if m.testBit k then 1 else t - 1
/-- whether he owes it then -/
def os (σ : vl) (w h m : Nat) : Nat → Bool
  | 0 => decide (σ (20 + w) h ≠ 0)
  | k + 1 => os σ w h m k || (!m.testBit k && see σ w (pl σ w (k + 1)) h)
def mvv (σ : vl) (m : Nat) : Nat → vl
  | 0 => σ
  | k + 1 => evM (m.testBit k) (mvv σ m k)
theorem od_hi {t n m : Nat} : ∀ k, k ≤ n → od t (2 ^ n + m) k = od t m k
  | 0, _ => rfl
  | k + 1, h => by
    unfold od
    rw [od_hi k (by omega), Nat.testBit_two_pow_add_gt (by omega)]
theorem os_hi {w h n m : Nat} : ∀ k, k ≤ n → os σ w h (2 ^ n + m) k = os σ w h m k
  | 0, _ => rfl
  | k + 1, q => by
    unfold os
    rw [os_hi k (by omega), Nat.testBit_two_pow_add_gt (by omega)]
/-- the sum over the mists by which he owes it not -/
def sN (σ : vl) (w h t n : Nat) : Nat := sm (fun m => if os σ w h m n then 0 else od t m n) (2 ^ n)
def sA (σ : vl) (w h t n k : Nat) : Nat := sm (fun m => if os σ w h m n then od t m n else 0) k
theorem sT_eq {t : Nat} (ht : 0 < t) : ∀ n, sm (fun m => od t m n) (2 ^ n) = t ^ n
  | 0 => rfl
  | n + 1 => by
    have e : 2 ^ (n + 1) = 2 ^ n + 2 ^ n := by rw [Nat.pow_succ]; omega
    rw [e, sm_app]
    have e1 : sm (fun m => od t m (n + 1)) (2 ^ n) = sm (fun m => od t m n * (t - 1)) (2 ^ n) := sm_congr _ (fun m hm => by
      show od t m n * (if m.testBit n then 1 else t - 1) = _
      rw [Nat.testBit_lt_two_pow hm, if_neg (by simp)])
    have e2 : sm (fun m => od t (2 ^ n + m) (n + 1)) (2 ^ n) = sm (fun m => od t m n) (2 ^ n) := sm_congr _ (fun m hm => by
      show od t (2 ^ n + m) n * (if (2 ^ n + m).testBit n then 1 else t - 1) = _
      rw [od_hi n (Nat.le_refl n), Nat.testBit_two_pow_add_eq, Nat.testBit_lt_two_pow hm, if_pos (by simp), Nat.mul_one])
    rw [e1, e2, sm_mulr, sT_eq ht n, Nat.pow_succ]
    have : t ^ n * (t - 1) + t ^ n = t ^ n * (t - 1 + 1) := by rw [Nat.mul_add, Nat.mul_one]
    rw [this, show t - 1 + 1 = t by omega]
theorem sN_succ {w h t n : Nat} (ht : 0 < t) : sN σ w h t (n + 1) = if see σ w (pl σ w (n + 1)) h then sN σ w h t n else sN σ w h t n * t := by
  have e : 2 ^ (n + 1) = 2 ^ n + 2 ^ n := by rw [Nat.pow_succ]; omega
  unfold sN
  rw [e, sm_app]
  have e2 : sm (fun m => if os σ w h (2 ^ n + m) (n + 1) then 0 else od t (2 ^ n + m) (n + 1)) (2 ^ n) = sm (fun m => if os σ w h m n then 0 else od t m n) (2 ^ n) := sm_congr _ (fun m hm => by
    show (if (os σ w h (2 ^ n + m) n || (!(2 ^ n + m).testBit n && see σ w (pl σ w (n + 1)) h)) then 0 else od t (2 ^ n + m) n * (if (2 ^ n + m).testBit n then 1 else t - 1)) = _
    rw [od_hi n (Nat.le_refl n), os_hi n (Nat.le_refl n), Nat.testBit_two_pow_add_eq, Nat.testBit_lt_two_pow hm]
    simp)
  rw [e2]
  by_cases q : see σ w (pl σ w (n + 1)) h = true
  · have e1 : sm (fun m => if os σ w h m (n + 1) then 0 else od t m (n + 1)) (2 ^ n) = sm (fun _ => 0) (2 ^ n) := sm_congr _ (fun m hm => by
      show (if (os σ w h m n || (!m.testBit n && see σ w (pl σ w (n + 1)) h)) then 0 else _) = _
      rw [Nat.testBit_lt_two_pow hm, q]
      simp)
    rw [e1, sm_0, Nat.zero_add, if_pos q]
  · have q' : see σ w (pl σ w (n + 1)) h = false := by simpa using q
    have e1 : sm (fun m => if os σ w h m (n + 1) then 0 else od t m (n + 1)) (2 ^ n) = sm (fun m => (if os σ w h m n then 0 else od t m n) * (t - 1)) (2 ^ n) := sm_congr _ (fun m hm => by
      show (if (os σ w h m n || (!m.testBit n && see σ w (pl σ w (n + 1)) h)) then 0 else od t m n * (if m.testBit n then 1 else t - 1)) = _
      rw [Nat.testBit_lt_two_pow hm, q']
      cases os σ w h m n <;> simp)
    rw [e1, sm_mulr, if_neg q]
    have : ∀ x : Nat, x * (t - 1) + x = x * t := fun x => by
      rw [show x * t = x * (t - 1 + 1) by rw [show t - 1 + 1 = t by omega], Nat.mul_add, Nat.mul_one]
    exact this _
theorem sgt_le (w h : Nat) : ∀ n, sgt σ w h n ≤ n := fun n => cn_le _ n
theorem sN_eq {w h t : Nat} (ht : 0 < t) : ∀ n, sN σ w h t n = if σ (20 + w) h = 0 then t ^ (n - sgt σ w h n) else 0
  | 0 => by
    unfold sN
    show 0 + (if decide (σ (20 + w) h ≠ 0) then 0 else 1) = if σ (20 + w) h = 0 then t ^ (0 - 0) else 0
    by_cases z : σ (20 + w) h = 0
    · rw [if_pos z]; simp [z]
    · rw [if_neg z]; simp [z]
  | n + 1 => by
    have hs := sgt_le (σ := σ) w h n
    rw [sN_succ ht, sN_eq ht n]
    have es : sgt σ w h (n + 1) = sgt σ w h n + if see σ w (pl σ w (n + 1)) h then 1 else 0 := rfl
    rw [es]
    by_cases q : see σ w (pl σ w (n + 1)) h = true
    · rw [if_pos q, if_pos q, show n + 1 - (sgt σ w h n + 1) = n - sgt σ w h n by omega]
    · rw [if_neg q, if_neg q]
      split
      · rw [show n + 1 - (sgt σ w h n + 0) = (n - sgt σ w h n) + 1 by omega, Nat.pow_succ]
      · rw [Nat.zero_mul]
theorem sA_eq {w h t n : Nat} (ht : 0 < t) : sA σ w h t n (2 ^ n) + sN σ w h t n = t ^ n := by
  rw [← sT_eq ht n]
  unfold sA sN
  rw [← sm_add]
  refine sm_congr _ (fun m _ => ?_)
  split
  · rw [Nat.add_zero]
  · rw [Nat.zero_add]
-- what the misty village holds
theorem wg_evM {b : Bool} (hf : wg σ) : wg (evM b σ) := by
  have e : vW (grow σ) = vW σ := grow_lo (by omega) (by omega)
  exact wg_stepW (wg_grow hf) (by rw [e]; exact Nat.le_refl _) (fun _ => rfl)
theorem mvv_ok (m : Nat) (hf : wg σ) : ∀ k, wg (mvv σ m k) ∧ (∀ F i, F < 20 → F ≠ 6 → F ≠ 10 → mvv σ m k F i = σ F i) ∧ (∀ w, w < vW σ → mvv σ m k 6 w = pl σ w k) ∧ (∀ w h, w < vW σ → h < vH σ → (mvv σ m k (20 + w) h = 0 ↔ os σ w h m k = false))
  | 0 => ⟨hf, fun _ _ _ _ _ => rfl, fun _ _ => rfl, fun w h _ _ => by
    show σ (20 + w) h = 0 ↔ decide (σ (20 + w) h ≠ 0) = false
    simp⟩
  | k + 1 => by
    obtain ⟨i1, i2, i3, i4⟩ := mvv_ok m hf k
    generalize hρ : mvv σ m k = ρ at i1 i2 i3 i4
    have eρ : mvv σ m (k + 1) = evM (m.testBit k) ρ := by rw [← hρ]; rfl
    rw [eρ]
    have gW : vW ρ = vW σ := i2 5 0 (by omega) (by omega) (by omega)
    have gH : vH ρ = vH σ := i2 0 0 (by omega) (by omega) (by omega)
    have hW : vW (grow ρ) = vW ρ := grow_lo (by omega) (by omega)
    have hH : vH (grow ρ) = vH ρ := grow_lo (by omega) (by omega)
    refine ⟨wg_evM i1, fun F i h1 h2 h3 => ?_, fun w hw => ?_, fun w h hw hh => ?_⟩
    · unfold evM
      rw [stepW_lo h1 h2, grow_lo h1 (by omega)]
      exact i2 F i h1 h2 h3
    · unfold evM
      rw [stepW_6, if_pos (by rw [gW]; exact hw), grow_lo (by omega) (by omega), grow_lo (by omega) (by omega), i3 w hw, i2 7 w (by omega) (by omega) (by omega)]
      rfl
    · have i4 := i4 w h hw hh
      unfold evM
      rw [stepW_20, grow_20, hH, grow_lo (by omega) (by omega), grow_lo (by omega) (by omega), i3 w hw, i2 7 w (by omega) (by omega) (by omega)]
      have es : see (grow ρ) w (twd (pl σ w k) (σ 7 w)) h = see σ w (pl σ w (k + 1)) h := by
        refine see_congr ?_ ?_ ?_ ?_ ?_ <;> (rw [grow_lo (by omega) (by omega), i2 _ _ (by omega) (by omega) (by omega)])
      rw [es]
      have eb : b0 (ρ (20 + w) h) = 0 ↔ ρ (20 + w) h = 0 := by
        unfold b0
        split
        · simp [*]
        · omega
      unfold os
      rw [gW, gH]
      by_cases z : ρ (20 + w) h = 0
      · rw [i4.mp z]
        have z0 := eb.mpr z
        rw [z0]
        cases m.testBit k
        · cases see σ w (pl σ w (k + 1)) h
          · simp
          · rw [if_pos ⟨Or.inl hw, hh, rfl, rfl, rfl⟩]; simp
        · simp
      · have o : os σ w h m k = true := by
          cases q : os σ w h m k
          · exact absurd (i4.mpr q) z
          · rfl
        rw [o, if_neg (fun y => z (eb.mp y.2.2.1))]
        simp only [Bool.true_or]
        exact ⟨fun y => absurd (eb.mp y) z, fun y => by cases y⟩
end Mist
theorem ff_pow (t : Nat) : ∀ n a, ff (fun _ p => p * t) n 0 a = a * t ^ n
  | 0, a => by show a = a * t ^ 0; rw [Nat.pow_zero, Nat.mul_one]
  | n + 1, a => by rw [ff_succ, ff_pow t n a, Nat.pow_succ, Nat.mul_assoc]
theorem bt_tb : ∀ m, m < 128 → ∀ k, k < 8 → bt (nI m) k = m.testBit k := by decide +kernel
theorem pow_le7 {t n : Nat} (ht : t ≤ 20) (h0 : 0 < t) (hn : n ≤ 7) : t ^ n ≤ 1280000000 :=
  Nat.le_trans (Nat.pow_le_pow_left ht n) (Nat.le_trans (Nat.pow_le_pow_right (by omega) hn) (by decide))
section Asks
variable {M : jm} {S : St} {σ : vl}
def mvl (σ : vl) (w h n t : Nat) (v : Int32) : Int64 := if σ (20 + w) h = 0 then lN (if v = 0 then t ^ sgt σ w h n - 1 else t ^ sgt σ w h n) else lN 1
theorem x_mist (hB : RB (M 1) σ (vH σ)) (hf : wf σ) {w h n t : Nat} (hw : w < vW σ) (hh : h < vH σ) (hn : n ≤ 7) (ht : 2 ≤ t) (ht2 : t ≤ 20) {v : Int32} (hv : v = nI 0 ∨ v = nI 1) : f_X5_mist_j83 M (nI w) (nI h) (nI n) (nI t) v = some (mvl σ w h n t v, M) := by
  have hH := hf.1; have hW := hf.2.1.2.1
  unfold f_X5_mist_j83 mvl
  rw [p_owes hB hf.2.1 (by omega) (by omega), q_jb]
  by_cases z : σ (20 + w) h = 0
  · have hs := sgt_le (σ := σ) w h n
    have hp := pw_pos (show 0 < t by omega) (sgt σ w h n)
    have hp2 := pow_le7 (n := sgt σ w h n) ht2 (by omega) (by omega)
    rw [if_pos z, if_pos z00, p_sightings hB hf.2.1 hw hh (by omega), q_jb, if_pos z, show (1 : Int64) = lN 1 from rfl, show (0 : Int32) = nI 0 from rfl, loop0 (L := fun k (p : Nat) i => f_X5_mist_l115 (nI t) v (nI (sgt σ w h n)) k M (lN p) i) (f := fun _ p => p * t) (K := fun p => if v = 0 then some (lN p - 1, M) else some (lN p, M)) (n := sgt σ w h n)]
    · rw [ff_pow, Nat.one_mul, show (1 : Int64) = lN 1 from rfl, lN_sub hp]
      rcases hv with rfl | rfl <;> rfl
    · intro k p i hi
      rw [f_X5_mist_l115, if_neg (by rw [q_le (by omega) (by omega)]; omega), nI_l (by omega), lN_mul, show nI i + 1 = nI (i + 1) from nI_add i 1]
    · intro k p
      rw [f_X5_mist_l115, if_pos (by rw [q_le (by omega) (by omega)]; omega)]
    · omega
  · rw [if_neg z, if_neg z10, if_neg z]; rfl
theorem gcd_next (x : Nat) : Nat.gcd x (x + 1) = 1 := by
  have h1 : Nat.gcd x (x + 1) ∣ 1 := (Nat.dvd_add_right (Nat.gcd_dvd_left x (x + 1))).mp (Nat.gcd_dvd_right x (x + 1))
  exact Nat.dvd_one.mp h1
theorem m_mistPart {w h n t : Nat} (hn : n ≤ 7) (ht : 2 ≤ t) (ht2 : t ≤ 20) {v : Int32} (hv : v = nI 0 ∨ v = nI 1) : f_X6_partOf (lN (sA σ w h t n (2 ^ n))) (lN (t ^ n)) v = some (mvl σ w h n t v) := by
  have hA := sA_eq (σ := σ) (w := w) (h := h) (t := t) (n := n) (by omega)
  rw [sN_eq (by omega)] at hA
  have hpos := pw_pos (show 0 < t by omega) n
  have hle := pow_le7 (n := n) ht2 (by omega) hn
  unfold mvl
  by_cases z : σ (20 + w) h = 0
  · rw [if_pos z] at hA ⊢
    have hs := sgt_le (σ := σ) w h n
    generalize sgt σ w h n = s at hA hs ⊢
    have hps := pw_pos (show 0 < t by omega) s
    have hpd := pw_pos (show 0 < t by omega) (n - s)
    have epow : t ^ n = t ^ (n - s) * t ^ s := by rw [← Nat.pow_add, show n - s + s = n by omega]
    have eA : sA σ w h t n (2 ^ n) = t ^ (n - s) * (t ^ s - 1) := by
      rw [Nat.mul_sub, Nat.mul_one, ← epow]; omega
    by_cases y : s = 0
    · subst y
      rw [eA, Nat.pow_zero, Nat.sub_self, Nat.mul_zero]
      unfold f_X6_partOf
      rw [if_pos (by rw [lg_cmp_eq]; rfl)]
      rcases hv with rfl | rfl <;> rfl
    · have h2 : 2 ≤ t ^ s := Nat.le_trans ht (by
        have := Nat.pow_le_pow_right (show 0 < t by omega) (show 1 ≤ s by omega)
        rwa [Nat.pow_one] at this)
      have hpA : 0 < sA σ w h t n (2 ^ n) := by rw [eA]; exact Nat.mul_pos hpd (by omega)
      rw [m_partOf (by omega) (by omega) hpA, eA, epow]
      have eg : Nat.gcd (t ^ (n - s) * (t ^ s - 1)) (t ^ (n - s) * t ^ s) = t ^ (n - s) := by
        rw [Nat.gcd_mul_left]
        have := gcd_next (t ^ s - 1)
        rw [show t ^ s - 1 + 1 = t ^ s by omega] at this
        rw [this, Nat.mul_one]
      rw [eg, Nat.mul_div_cancel_left _ hpd, Nat.mul_div_cancel_left _ hpd]
  · rw [if_neg z] at hA ⊢
    have eA : sA σ w h t n (2 ^ n) = t ^ n := by omega
    rw [eA, m_partOf (by omega) (by omega) hpos, Nat.gcd_self, Nat.div_self hpos]
    split <;> rfl
theorem mq_mist (hR : RM (M 16) σ) (hf : wg σ) {w h n t : Nat} (hw : w < vW σ) (hh : h < vH σ) (hn : n ≤ 7) (ht : 2 ≤ t) (ht2 : t ≤ 20) {v : Int32} (hv : v = nI 0 ∨ v = nI 1) : ∃ M2, f_X6_mist_l93 (nI w) (nI h) (nI n) (nI t) v 0 10000 M 1 0 = some (mvl σ w h n t v, M2) ∧ RM (M2 16) σ ∧ frT M M2 := by
  have hH := hf.1; have hW := hf.2.1.2.1
  have hpn : 2 ^ n ≤ 2 ^ 7 := Nat.pow_le_pow_right (by omega) hn
  rw [show (1 : Int64) = lN 1 from rfl, show (0 : Int32) = nI 0 from rfl, loop0 (L := fun k (p : Nat) i => f_X6_mist_l93 (nI w) (nI h) (nI n) (nI t) v 0 k M (lN p) i) (f := fun _ p => p * t) (K := fun p => jb (f_X6_think M) fun M_5 => (f_X6_mist_l120 (nI w) (nI h) (nI n) (nI t) v (lN p) 10000 M_5 0 0)) (n := n)]
  · rw [ff_pow, Nat.one_mul]
    obtain ⟨B, b1, b2, b3, b4⟩ := m_think hR
    rw [b1, q_jb]
    refine loopE (L := fun k (a : jm × Int64) i => f_X6_mist_l120 (nI w) (nI h) (nI n) (nI t) v (lN (t ^ n)) k a.1 a.2 i) (P := fun i a => RM (a.1 16) σ ∧ KM (a.1 16 21) σ ∧ frT M a.1 ∧ a.2 = lN (sA σ w h t n i)) (Z := fun r => ∃ M2, r = some (mvl σ w h n t v, M2) ∧ RM (M2 16) σ ∧ frT M M2) (n := 2 ^ n) ?_ ?_ (2 ^ n) 0 10000 (B, 0) (by omega) (by omega) ⟨b2, b3, b4, rfl⟩
    · rintro k ⟨C, u⟩ m hm ⟨p1, p2, p3, p4⟩
      simp only at p1 p2 p3 p4
      subst p4
      simp only [f_X6_mist_l120]
      rw [if_neg (by
        show ¬ bi n ≤ nI m
        rw [bi_eq n (by omega), q_le (by omega) (by omega)]; omega)]
      refine loopE (L := fun k2 (a : jm × Int64) i => f_X6_mist_l134 (f_X6_mist_l120 (nI w) (nI h) (nI n) (nI t) v (lN (t ^ n)) k) (nI w) (nI h) (nI n) (nI t) v (lN (sA σ w h t n m)) (lN (t ^ n)) (nI m) k2 a.1 a.2 i) (P := fun i a => RM (a.1 16) (mvv σ m i) ∧ KM (a.1 16 21) σ ∧ frT M a.1 ∧ a.2 = lN (od t m i)) (Z := fun r => ∃ a' : jm × Int64, r = f_X6_mist_l120 (nI w) (nI h) (nI n) (nI t) v (lN (t ^ n)) k a'.1 a'.2 (nI (m + 1)) ∧ RM (a'.1 16) σ ∧ KM (a'.1 16 21) σ ∧ frT M a'.1 ∧ a'.2 = lN (sA σ w h t n (m + 1))) (n := n) ?_ ?_ n 0 10000 (C, 1) (by omega) (by omega) ⟨p1, p2, p3, rfl⟩
      · rintro k2 ⟨D, x⟩ i hi ⟨q1, q2, q3, q4⟩
        simp only at q1 q2 q3 q4
        subst q4
        obtain ⟨g1, -⟩ := mvv_ok m hf i
        obtain ⟨E, e1, e2, e3⟩ := m_eveningBy q1 g1 (m.testBit i)
        have eb : f_X6_hasBit (nI m) (nI i) = if m.testBit i = true then 1 else 0 := by
          rw [m_hasBit _ (by omega), bt_tb m (by omega) i (by omega)]; rfl
        refine ⟨(E, lN (od t m (i + 1))), ?_, e2, by show KM (E 16 21) σ; rw [fr3_at e3 (by omega)]; exact q2, frT_trans q3 (frT_of (frA_of e3)), rfl⟩
        simp only [f_X6_mist_l134, f_X6_mist_j161]
        rw [if_neg (by rw [q_le (by omega) (by omega)]; omega), eb, e1, q_jb, q_jb, show nI i + 1 = nI (i + 1) from nI_add i 1]
        rw [show od t m (i + 1) = od t m i * if m.testBit i then 1 else t - 1 from rfl]
        cases m.testBit i
        · rw [if_pos (by rfl), show (1 : Int32) = nI 1 from rfl, pk_sub (by omega), nI_l (by omega), lN_mul]; rfl
        · rw [if_neg (by decide), show (1 : Int64) = lN 1 from rfl, lN_mul]; rfl
      · rintro k2 ⟨D, x⟩ ⟨q1, q2, q3, q4⟩
        simp only at q1 q2 q3 q4
        subst q4
        obtain ⟨g1, -, -, g4⟩ := mvv_ok m hf n
        obtain ⟨E, e1, e2, e3⟩ := m_again q2 hf
        have g4 := g4 w h hw hh
        have gd := g1.2.1.2.2.2.2 w h
        have v9 : D 16 9 (7 * w + h) = nI (mvv σ m n (20 + w) h) := q1.2.2.2.2.2 w (by omega) h (by omega)
        refine ⟨(E, lN (sA σ w h t n (m + 1))), ?_, e2, by show KM (E 16 21) σ; rw [frA_21 e3]; exact q2, frT_trans q3 (frT_of e3), rfl⟩
        have es : sA σ w h t n (m + 1) = sA σ w h t n m + if os σ w h m n then od t m n else 0 := rfl
        simp only [f_X6_mist_l134, f_X6_mist_j203]
        rw [if_pos (by rw [q_le (by omega) (by omega)]; omega), idx7, q_gd (by omega) (by omega), q_cl (by omega), e1, q_jb, q_jb, es, show nI m + 1 = nI (m + 1) from nI_add m 1]
        by_cases z : mvv σ m n (20 + w) h = 0
        · rw [if_pos (by rw [v9, z]; decide), g4.mp z, show (0 : Int64) = lN 0 from rfl, lN_add]; rfl
        · have o : os σ w h m n = true := by
            cases q : os σ w h m n
            · exact absurd (g4.mpr q) z
            · rfl
          rw [if_neg (by rw [v9, show (0 : Int32) = nI 0 from rfl, q_le (by omega) (by omega)]; omega), o, lN_add]; rfl
    · rintro k ⟨C, u⟩ ⟨p1, p2, p3, p4⟩
      simp only at p1 p2 p3 p4
      subst p4
      refine ⟨C, ?_, p1, p3⟩
      simp only [f_X6_mist_l120]
      rw [if_pos (by
        show bi n ≤ nI (2 ^ n)
        rw [bi_eq n (by omega), q_le (by omega) (by omega)]; omega), m_mistPart hn ht ht2 hv, q_jb]
  · intro k p i hi
    rw [f_X6_mist_l93, if_neg (by rw [q_le (by omega) (by omega)]; omega), nI_l (by omega), lN_mul, show nI i + 1 = nI (i + 1) from nI_add i 1]
  · intro k p
    rw [f_X6_mist_l93, if_pos (by rw [q_le (by omega) (by omega)]; omega)]
  · omega
theorem ok_mist (hJ : JJ M S) (a b c d e : Int32) : OK (f_X5_mist M a b c d e) (fun M1 => f_X6_mist M1 a b c d e) := by
  obtain ⟨h0, h5, hB⟩ := J_C hJ; have hf := J_f hJ; have hH := hf.1; have hW := hf.2.1.2.1
  have rf : ∀ k, k < 7 → k ≠ 0 → f_X5_mist M a b c d e = (jb2 (f_X5_refuseLong M (-nI k)) fun r M_2 => (some (r, M_2))) → (∀ M1 : jm, M1 16 = M 16 → ∃ x, f_X6_mist M1 a b c d e = f_X6_mist_j57 (ju M1 16 11 0 0) a b c d e x ∧ f_X6_wrongBit x e 1 = -nI k) → OK (f_X5_mist M a b c d e) (fun M1 => f_X6_mist M1 a b c d e) := by
    intro k hk hk0 ha hb
    refine OK_refg (fun r => 4000000000000000000 - r.toInt64) (k := k) hk hJ ?_ (fun M1 e16 _ => ?_)
    · rw [ha]
      unfold f_X5_refuseLong
      rw [x_refuse hk]; rfl
    · show f_X6_mist M1 a b c d e = _
      obtain ⟨x, h1, h2⟩ := hb M1 e16
      rw [h1]
      unfold f_X6_mist_j57
      rw [h2, if_neg (by
        rw [show (0 : Int32) = nI 0 from rfl]
        exact q_neg_le (by omega) (by omega) (by omega))]
  by_cases c1 : okv (vW (sv S)) a = true
  · by_cases c2 : okv (vH (sv S)) b = true
    · have rx : f_X5_mist M a b c d e = (if c < 0 then (jb2 (f_X5_refuseLong M (-4)) fun r4 M_4 => (some (r4, M_4))) else (if 2 ≤ d then (if 7 < c then (jb2 (f_X5_refuseLong M (-6)) fun r5 M_5 => (some (r5, M_5))) else (if d ≤ 20 then (if e = 0 then (f_X5_mist_j83 M a b c d e) else (if e = 1 then (f_X5_mist_j83 M a b c d e) else (jb2 (f_X5_refuseLong M (-2)) fun r10 M_10 => (some (r10, M_10))))) else (jb2 (f_X5_refuseLong M (-6)) fun r11 M_11 => (some (r11, M_11))))) else (jb2 (f_X5_refuseLong M (-4)) fun r12 M_12 => (some (r12, M_12))))) := by
        unfold f_X5_mist
        rw [show f_X4_hasWalker M 1 a = nI 1 from by rw [p_hasW h5, if_pos c1], if_neg z10]
        rw [show f_X4_hasHouse M 1 b = nI 1 from by rw [p_hasH h0, if_pos c2], if_neg z10]
      have ry : ∀ M1 : jm, RM (ju M1 16 11 0 0 16) (sv S) → f_X6_mist M1 a b c d e = (if c < 0 then (f_X6_mist_j33 (ju M1 16 11 0 0) a b c d e) else (if 2 ≤ d then (if 7 < c then (f_X6_mist_j53 (ju M1 16 11 0 0) a b c d e) else (if d ≤ 20 then (f_X6_mist_j57 (ju M1 16 11 0 0) a b c d e 0) else (f_X6_mist_j53 (ju M1 16 11 0 0) a b c d e))) else (f_X6_mist_j33 (ju M1 16 11 0 0) a b c d e))) := fun M1 hR => by
        unfold f_X6_mist
        rw [m_wrongBoth hR (wg_of hf), if_pos (show okv (vW (sv S)) a = true ∧ okv (vH (sv S)) b = true from ⟨c1, c2⟩), if_pos (show (0 : Int32) ≤ nI 0 from n0)]
      by_cases d1 : c < 0
      · exact rf 4 (by omega) (by omega) (by rw [rx, if_pos d1]; rfl) (fun M1 e16 => ⟨-4, by rw [ry M1 (J_R hJ e16), if_pos d1]; rfl, by rw [wb_no (by decide)]; rfl⟩)
      · by_cases d2 : (2 : Int32) ≤ d
        · by_cases d3 : (7 : Int32) < c
          · exact rf 6 (by omega) (by omega) (by rw [rx, if_neg d1, if_pos d2, if_pos d3]; rfl) (fun M1 e16 => ⟨-6, by rw [ry M1 (J_R hJ e16), if_neg d1, if_pos d2, if_pos d3]; rfl, by rw [wb_no (by decide)]; rfl⟩)
          · by_cases d4 : d ≤ 20
            · by_cases c5 : okv 2 e = true
              · have hv : e = nI 0 ∨ e = nI 1 := by
                  obtain ⟨j, hj, rfl⟩ := okv_ex (by omega) c5
                  rcases (show j = 0 ∨ j = 1 by omega) with rfl | rfl
                  · exact Or.inl rfl
                  · exact Or.inr rfl
                obtain ⟨w, hw, rfl⟩ := okv_ex (by omega) c1
                obtain ⟨h, hh, rfl⟩ := okv_ex (by omega) c2
                obtain ⟨n, hn, rfl⟩ : ∃ n, n ≤ 7 ∧ c = nI n := by
                  rcases rng c 7 (by omega) (c := (7 : Int32)) rfl with ⟨q, _⟩ | ⟨_, _, q, _⟩ | q
                  · exact absurd q d1
                  · exact absurd q d3
                  · exact q
                obtain ⟨t, ht, ht2, rfl⟩ : ∃ t, 2 ≤ t ∧ t ≤ 20 ∧ d = nI t := by
                  rcases rng d 20 (by omega) (c := (20 : Int32)) rfl with ⟨q, _⟩ | ⟨_, _, _, q⟩ | ⟨t, q, rfl⟩
                  · exact absurd d2 (fun z => by
                      rw [Int32.lt_iff_toInt_lt] at q
                      rw [Int32.le_iff_toInt_le] at z
                      have e0 : (0 : Int32).toInt = 0 := rfl
                      have e1 : (2 : Int32).toInt = 2 := rfl
                      omega)
                  · exact absurd d4 q
                  · refine ⟨t, ?_, q, rfl⟩
                    rw [show (2 : Int32) = nI 2 from rfl, q_le (by omega) (by omega)] at d2; exact d2
                refine OK_q hJ (M1 := M) (r := mvl (sv S) w h n t e) ?_ (frC_refl M) (fun hR hg => ?_)
                · rw [rx, if_neg d1, if_pos d2, if_neg d3, if_pos d4, x_mist hB hf hw hh hn ht ht2 hv]
                  rcases hv with rfl | rfl <;> rfl
                · show ∃ M2, f_X6_mist M _ _ _ _ _ = _ ∧ _
                  obtain ⟨C, g1, g2, g3⟩ := mq_mist (M := ju M 16 11 0 0) (RM_ct hR) hg hw hh hn ht ht2 hv
                  refine ⟨C, ?_, g2, frK_trans (frK_ct M) (frK_of g3)⟩
                  rw [ry M (RM_ct hR), if_neg d1, if_pos d2, if_neg d3, if_pos d4]
                  unfold f_X6_mist_j57
                  rw [wb_0 2 (by omega) (by decide), if_pos c5, if_pos n0]
                  exact g1
              · have nn : ∀ j, j < 2 → ¬ e = nI j := fun j hj => okv_ne (by omega) c5 hj
                exact rf 2 (by omega) (by omega) (by rw [rx, if_neg d1, if_pos d2, if_neg d3, if_pos d4, if_neg (show ¬ e = (0 : Int32) from nn 0 (by omega)), if_neg (show ¬ e = (1 : Int32) from nn 1 (by omega))]; rfl) (fun M1 e16 => ⟨0, by rw [ry M1 (J_R hJ e16), if_neg d1, if_pos d2, if_neg d3, if_pos d4], by rw [wb_0 2 (by omega) (by decide), if_neg c5]; rfl⟩)
            · exact rf 6 (by omega) (by omega) (by rw [rx, if_neg d1, if_pos d2, if_neg d3, if_neg d4]; rfl) (fun M1 e16 => ⟨-6, by rw [ry M1 (J_R hJ e16), if_neg d1, if_pos d2, if_neg d3, if_neg d4]; rfl, by rw [wb_no (by decide)]; rfl⟩)
        · exact rf 4 (by omega) (by omega) (by rw [rx, if_neg d1, if_neg d2]; rfl) (fun M1 e16 => ⟨-4, by rw [ry M1 (J_R hJ e16), if_neg d1, if_neg d2]; rfl, by rw [wb_no (by decide)]; rfl⟩)
    · exact rf 1 (by omega) (by omega) (by
        unfold f_X5_mist
        rw [show f_X4_hasWalker M 1 a = nI 1 from by rw [p_hasW h5, if_pos c1], if_neg z10]
        rw [show f_X4_hasHouse M 1 b = nI 0 from by rw [p_hasH h0, if_neg c2], if_pos z00]; rfl) (fun M1 e16 => ⟨-1, by
        unfold f_X6_mist
        rw [m_wb2 (J_R hJ e16) (wg_of hf) c2, if_neg n1], by rw [wb_no (by decide)]; rfl⟩)
  · exact rf 1 (by omega) (by omega) (by
      unfold f_X5_mist
      rw [show f_X4_hasWalker M 1 a = nI 0 from by rw [p_hasW h5, if_neg c1], if_pos z00]; rfl) (fun M1 e16 => ⟨-1, by
      unfold f_X6_mist
      rw [m_wb1 (J_R hJ e16) (wg_of hf) c1, if_neg n1], by rw [wb_no (by decide)]; rfl⟩)
end Asks
