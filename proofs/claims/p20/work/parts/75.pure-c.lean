/-! ways: walks and what they cost -/
theorem nb_stp : ∀ a, a < 49 → ∀ c, c < 49 → ∀ d, d < 4 → nb c d ≠ 49 → stp a (nb c d) ≤ stp a c + 1 := by decide +kernel
theorem nb_to : ∀ a, a < 49 → ∀ c, c < 49 → a ≠ c → nb (twd c a) 0 = c ∨ nb (twd c a) 1 = c ∨ nb (twd c a) 2 = c ∨ nb (twd c a) 3 = c := by decide +kernel
/-- after so many steps he may be there, having passed what shows him so many houses -/
def wk (a0 : Nat) (cs : Nat → Nat) : Nat → Nat → Nat → Prop
  | 0, c, s => c = a0 ∧ s = 0
  | n + 1, c, s => ∃ c' s' d, wk a0 cs n c' s' ∧ d < 4 ∧ nb c' d = c ∧ c < 49 ∧ s = s' ||| cs c
section Ww
variable {a0 H : Nat} {cs : Nat → Nat}
theorem W_b (ha : a0 < 49) (hcs : ∀ c, cs c < 2 ^ H) : ∀ n c s, wk a0 cs n c s → c < 49 ∧ s < 2 ^ H
  | 0, c, s, h => by
    obtain ⟨h1, h2⟩ := h
    rw [h1, h2]
    exact ⟨ha, Nat.two_pow_pos H⟩
  | n + 1, c, s, h => by
    obtain ⟨c', s', d, h1, h2, h3, h4, h5⟩ := h
    rw [h5]
    exact ⟨h4, Nat.or_lt_two_pow (W_b ha hcs n c' s' h1).2 (hcs c)⟩
theorem W_stp (ha : a0 < 49) (hcs : ∀ c, cs c < 2 ^ H) : ∀ n c s, wk a0 cs n c s → stp a0 c ≤ n
  | 0, c, s, h => by
    obtain ⟨h1, h2⟩ := h
    rw [h1, (stp_0 a0 ha a0 ha).mpr rfl]
    exact Nat.le_refl 0
  | n + 1, c, s, h => by
    obtain ⟨c', s', d, h1, h2, h3, h4, h5⟩ := h
    have h6 := W_stp ha hcs n c' s' h1
    have h7 := nb_stp a0 ha c' (W_b ha hcs n c' s' h1).1 d h2 (by omega)
    rw [h3] at h7
    omega
theorem W_to (ha : a0 < 49) : ∀ k c, c < 49 → stp a0 c = k → ∃ s, wk a0 cs k c s
  | 0, c, hc, h => ⟨0, ((stp_0 a0 ha c hc).mp h).symm, rfl⟩
  | k + 1, c, hc, h => by
    have ne : a0 ≠ c := fun e => by
      rw [(stp_0 a0 ha c hc).mpr e] at h; omega
    have h1 := twd_lt c hc a0 ha
    have h2 := twd_stp c hc a0 ha
    obtain ⟨s, hs⟩ := W_to ha k (twd c a0) h1 (by rw [stp_sym, h2, stp_sym c a0, h]; rfl)
    rcases nb_to a0 ha c hc ne with e | e | e | e
    · exact ⟨s ||| cs c, twd c a0, s, 0, hs, by omega, e, hc, rfl⟩
    · exact ⟨s ||| cs c, twd c a0, s, 1, hs, by omega, e, hc, rfl⟩
    · exact ⟨s ||| cs c, twd c a0, s, 2, hs, by omega, e, hc, rfl⟩
    · exact ⟨s ||| cs c, twd c a0, s, 3, hs, by omega, e, hc, rfl⟩
end Ww
def sub (x y : Nat) : Prop := ∀ i, x.testBit i = true → y.testBit i = true
theorem sub_rf (x : Nat) : sub x x := fun _ h => h
theorem sub_0 (y : Nat) : sub 0 y := fun i h => by rw [Nat.zero_testBit] at h; cases h
theorem sub_or {a b y : Nat} : sub (a ||| b) y ↔ sub a y ∧ sub b y := by
  constructor
  · intro h
    exact ⟨fun i q => h i (by rw [Nat.testBit_or, q]; rfl), fun i q => h i (by rw [Nat.testBit_or, q, Bool.or_true])⟩
  · rintro ⟨h1, h2⟩ i q
    rw [Nat.testBit_or] at q
    cases z : a.testBit i
    · rw [z, Bool.false_or] at q; exact h2 i q
    · exact h1 i z
theorem sub_e {s y : Nat} (h : sub s y) : s ||| y = y := by
  apply Nat.eq_of_testBit_eq
  intro i
  rw [Nat.testBit_or]
  cases z : s.testBit i
  · rw [Bool.false_or]
  · rw [h i z]; rfl
theorem pop_sub0 : ∀ s, s < 128 → ∀ y, y < 128 → s ||| y = y → popc s ≤ popc y ∧ (popc s = popc y → s = y) := by decide +kernel
theorem pop_sub {s y : Nat} (hs : s < 128) (hy : y < 128) (h : sub s y) : popc s ≤ popc y ∧ (popc s = popc y → s = y) := pop_sub0 s hs y hy (sub_e h)
theorem pop_le : ∀ H, H < 8 → ∀ s, s < 128 → s < 2 ^ H → popc s ≤ H := by decide +kernel
theorem sub_nI {x y : Nat} (hx : x < 128) (hy : y < 128) : nI x &&& (nI y ^^^ -1) = 0 ↔ sub x y := by
  constructor
  · intro h i q
    have hi : i < 8 := by
      apply Classical.byContradiction
      intro hn
      have : 2 ^ 7 ≤ 2 ^ i := Nat.pow_le_pow_right (by omega) (by omega)
      rw [Nat.testBit_lt_two_pow (show x < 2 ^ i by omega)] at q
      cases q
    have h2 : bt (nI x &&& (nI y ^^^ -1)) i = false := by rw [h]; exact b_0 i
    rw [b_and, b_xor, bt_m1 i (by omega), bt_tb x hx i hi, bt_tb y hy i hi, q] at h2
    cases z : y.testBit i
    · rw [z] at h2; cases h2
    · rfl
  · intro h
    apply b_ext
    intro i hi
    rw [b_and, b_xor, bt_m1 i hi, b_0]
    by_cases z : i < 8
    · rw [bt_tb x hx i z, bt_tb y hy i z]
      cases q : x.testBit i
      · rfl
      · rw [h i q]; rfl
    · rw [bt_hi x (by omega) i hi (by omega)]; rfl
/-- the least of a kind, if there is one -/
def lst (P : Nat → Prop) (o : Option Nat) : Prop := match o with
  | none => ∀ n, ¬ P n
  | some n => P n ∧ ∀ m, P m → n ≤ m
theorem lst_congr {P Q : Nat → Prop} (h : ∀ n, P n ↔ Q n) {o : Option Nat} (hl : lst P o) : lst Q o := by
  cases o with
  | none => exact fun n q => hl n ((h n).mpr q)
  | some n => exact ⟨(h n).mp hl.1, fun m q => hl.2 m ((h m).mpr q)⟩
theorem lst_l {P Q : Nat → Prop} {o : Option Nat} (h1 : lst P o) (h2 : lst Q none) : lst (fun n => P n ∨ Q n) o := lst_congr (fun n => ⟨Or.inl, fun q => q.elim id (fun z => absurd z (h2 n))⟩) h1
theorem lst_r {P Q : Nat → Prop} {o : Option Nat} (h1 : lst P none) (h2 : lst Q o) : lst (fun n => P n ∨ Q n) o := lst_congr (fun n => ⟨Or.inr, fun q => q.elim (fun z => absurd z (h1 n)) id⟩) h2
theorem lst_a {P Q : Nat → Prop} {x y : Nat} (h1 : lst P (some x)) (h2 : lst Q (some y)) (h : x ≤ y) : lst (fun n => P n ∨ Q n) (some x) := ⟨Or.inl h1.1, fun m q => q.elim (h1.2 m) (fun z => Nat.le_trans h (h2.2 m z))⟩
theorem lst_b {P Q : Nat → Prop} {x y : Nat} (h1 : lst P (some x)) (h2 : lst Q (some y)) (h : y ≤ x) : lst (fun n => P n ∨ Q n) (some y) := ⟨Or.inr h2.1, fun m q => q.elim (fun z => Nat.le_trans h (h1.2 m z)) (h2.2 m)⟩
/-! the class: cells as bits of a long -/
def lb (v : Int64) (i : Nat) : Bool := v.toBitVec.getLsbD i
theorem lb_or (x y : Int64) (i : Nat) : lb (x ||| y) i = (lb x i || lb y i) := by unfold lb; rw [Int64.toBitVec_or, BitVec.getLsbD_or]
theorem lb_and (x y : Int64) (i : Nat) : lb (x &&& y) i = (lb x i && lb y i) := by unfold lb; rw [Int64.toBitVec_and, BitVec.getLsbD_and]
theorem lb_big {x : Int64} {i : Nat} (h : 64 ≤ i) : lb x i = false := BitVec.getLsbD_of_ge _ _ h
theorem lb_shl {k : Nat} {y : Int64} (hy : y.toBitVec.smod 64 = BitVec.ofNat 64 k) (hk : k < 64) (x : Int64) {i : Nat} (hi : i < 64) : lb (x <<< y) i = (decide (k ≤ i) && lb x (i - k)) := by
  unfold lb
  rw [Int64.toBitVec_shiftLeft, hy, BitVec.shiftLeft_eq', BitVec.getLsbD_shiftLeft, BitVec.toNat_ofNat, Nat.mod_eq_of_lt (show k < 2 ^ 64 by omega), decide_eq_true hi, Bool.true_and]
  congr 1
  by_cases z : k ≤ i
  · rw [decide_eq_true z, decide_eq_false (show ¬ i < k by omega)]; rfl
  · rw [decide_eq_false z, decide_eq_true (show i < k by omega)]; rfl
theorem lb_ushr {k : Nat} {s : UInt64} (hs : s.toNat = k) (hk : k < 64) (x : Int64) (i : Nat) : lb (x.toUInt64 >>> s).toInt64 i = lb x (k + i) := by
  have e : (x.toUInt64 >>> s).toInt64.toBitVec = x.toBitVec >>> k := by
    apply BitVec.eq_of_toNat_eq
    show (x.toUInt64 >>> s).toNat = _
    rw [UInt64.toNat_shiftRight, hs, Nat.mod_eq_of_lt hk, BitVec.toNat_ushiftRight]
    rfl
  unfold lb
  rw [e, BitVec.getLsbD_ushiftRight]
theorem lb_c1 : ∀ i, i < 64 → lb (-283691315109953) i = !(decide (i < 49) && decide (i % 7 = 6)) := by decide +kernel
theorem lb_c2 : ∀ i, i < 64 → lb (-4432676798594) i = !(decide (i < 49) && decide (i % 7 = 0)) := by decide +kernel
theorem lb_one {a : Nat} (ha : a < 64) (i : Nat) : lb ((1 : Int64) <<< (Int32.toInt64 (nI a) &&& 63)) i = decide (i = a) := by
  rw [show (1 : Int64) = lN 1 from rfl, show Int32.toInt64 (nI a) &&& 63 = lN a from wb_c a ha]
  have := wb_shl 1 ha
  rw [wb_c a ha] at this
  rw [this, Nat.one_mul]
  unfold lb
  rw [wb_tb, BitVec.getLsbD_ofNat, Nat.testBit_two_pow]
  by_cases z : i = a
  · subst z
    simp [ha]
  · have z' : ¬ a = i := fun q => z q.symm
    rw [decide_eq_false z, decide_eq_false z', Bool.and_false]
theorem lb_tst {v : Int64} {k : Nat} (hk : k < 64) : lg_cmp (((Int64.toUInt64 v >>> ((Int32.toInt64 (nI k)).toUInt64 &&& Int64.toUInt64 63)).toInt64) &&& 1) 0 = 0 ↔ lb v k = false := by
  have hs : ((Int32.toInt64 (nI k)).toUInt64 &&& Int64.toUInt64 63).toNat = k := by
    rw [show (Int32.toInt64 (nI k)).toUInt64 &&& Int64.toUInt64 63 = UInt64.ofNat k from wb_cu k hk]
    show (BitVec.ofNat 64 k).toNat = k
    rw [BitVec.toNat_ofNat, Nat.mod_eq_of_lt (by omega)]
  obtain ⟨y, hy⟩ : ∃ y, y = (Int64.toUInt64 v >>> ((Int32.toInt64 (nI k)).toUInt64 &&& Int64.toUInt64 63)).toInt64 &&& 1 := ⟨_, rfl⟩
  have hb : ∀ i, i < 64 → lb y i = (lb v k && decide (i = 0)) := by
    intro i hi
    have h1 : ∀ i, i < 64 → lb 1 i = decide (i = 0) := by decide +kernel
    rw [hy, lb_and, lb_ushr hs hk, h1 i hi]
    by_cases z : i = 0
    · rw [z]; rfl
    · rw [decide_eq_false z, Bool.and_false, Bool.and_false]
  have hc : lg_cmp y 0 = 0 ↔ y = 0 := by
    unfold lg_cmp
    constructor
    · intro h
      by_cases c1 : y > 0
      · rw [if_pos c1] at h; cases h
      · rw [if_neg c1] at h
        by_cases c2 : y = 0
        · exact c2
        · rw [if_neg c2] at h; cases h
    · intro h
      rw [if_neg (by rw [h]; decide), if_pos h]
  rw [← hy, hc]
  constructor
  · intro h
    have := hb 0 (by omega)
    rw [h] at this
    have z : lb 0 0 = false := by decide
    rw [z] at this
    simpa using this.symm
  · intro h
    apply Int64.toBitVec_inj.mp
    apply BitVec.eq_of_getLsbD_eq
    intro i hi
    have := hb i hi
    rw [h, Bool.false_and] at this
    show lb y i = lb 0 i
    have z : ∀ i, i < 64 → lb 0 i = false := by decide +kernel
    rw [this, z i hi]
/-- one evening's spread of the bits -/
def sprd (v op : Int64) : Int64 := ((((v ||| (v <<< (Int32.toInt64 7 &&& 63))) ||| ((Int64.toUInt64 v >>> ((Int32.toInt64 7).toUInt64 &&& Int64.toUInt64 63)).toInt64)) ||| (((v &&& (-283691315109953)) <<< (Int32.toInt64 1 &&& 63)) ||| ((Int64.toUInt64 (v &&& (-4432676798594)) >>> ((Int32.toInt64 1).toUInt64 &&& Int64.toUInt64 63)).toInt64))) &&& op)
theorem sprd_b (v op : Int64) (hv : ∀ c, 49 ≤ c → lb v c = false) {c : Nat} (hc : c < 49) : lb (sprd v op) c = true ↔ lb op c = true ∧ (lb v c = true ∨ ∃ c' d, c' < 49 ∧ d < 4 ∧ lb v c' = true ∧ nb c' d = c) := by
  have s7 : ((Int32.toInt64 7) &&& 63 : Int64).toBitVec.smod 64 = BitVec.ofNat 64 7 := by decide
  have s1 : ((Int32.toInt64 1) &&& 63 : Int64).toBitVec.smod 64 = BitVec.ofNat 64 1 := by decide
  have u7 : ((Int32.toInt64 7).toUInt64 &&& Int64.toUInt64 63).toNat = 7 := by decide
  have u1 : ((Int32.toInt64 1).toUInt64 &&& Int64.toUInt64 63).toNat = 1 := by decide
  have e : lb (sprd v op) c = ((((lb v c || (decide (7 ≤ c) && lb v (c - 7))) || lb v (7 + c)) || ((decide (1 ≤ c) && (lb v (c - 1) && !(decide (c - 1 < 49) && decide ((c - 1) % 7 = 6)))) || (lb v (1 + c) && !(decide (1 + c < 49) && decide ((1 + c) % 7 = 0))))) && lb op c) := by
    unfold sprd
    rw [lb_and, lb_or, lb_or, lb_or, lb_or, lb_shl s7 (by omega) _ (by omega), lb_ushr u7 (by omega), lb_shl s1 (by omega) _ (by omega), lb_ushr u1 (by omega), lb_and, lb_and, lb_c1 _ (by omega), lb_c2 _ (by omega)]
  rw [e]
  constructor
  · intro h
    rw [Bool.and_eq_true] at h
    refine ⟨h.2, ?_⟩
    have h := h.1
    simp only [Bool.or_eq_true, Bool.and_eq_true, decide_eq_true_eq, Bool.not_eq_true', Bool.and_eq_false_iff, decide_eq_false_iff_not] at h
    rcases h with ((h | ⟨h1, h2⟩) | h) | ⟨h1, h2, h3⟩ | ⟨h1, h2⟩
    · exact Or.inl h
    · refine Or.inr ⟨c - 7, 2, by omega, by omega, h2, ?_⟩
      unfold nb
      rw [if_neg (by omega), if_neg (by omega), if_pos rfl, if_neg (by omega)]; omega
    · have hl : 7 + c < 49 := by
        apply Classical.byContradiction
        intro hn
        rw [hv _ (by omega)] at h; cases h
      refine Or.inr ⟨7 + c, 0, hl, by omega, h, ?_⟩
      unfold nb
      rw [if_pos rfl, if_neg (by omega)]; omega
    · refine Or.inr ⟨c - 1, 1, by omega, by omega, h2, ?_⟩
      unfold nb
      rw [if_neg (by omega), if_pos rfl, if_neg (by omega)]; omega
    · have hl : 1 + c < 49 := by
        apply Classical.byContradiction
        intro hn
        rw [hv _ (by omega)] at h1; cases h1
      refine Or.inr ⟨1 + c, 3, hl, by omega, h1, ?_⟩
      unfold nb
      rw [if_neg (by omega), if_neg (by omega), if_neg (by omega), if_neg (by omega)]; omega
  · rintro ⟨h1, h2⟩
    rw [Bool.and_eq_true]
    refine ⟨?_, h1⟩
    simp only [Bool.or_eq_true, Bool.and_eq_true, decide_eq_true_eq, Bool.not_eq_true', Bool.and_eq_false_iff, decide_eq_false_iff_not]
    rcases h2 with h2 | ⟨c', d, g1, g2, g3, g4⟩
    · exact Or.inl (Or.inl (Or.inl h2))
    · unfold nb at g4
      have hd : d = 0 ∨ d = 1 ∨ d = 2 ∨ d = 3 := by omega
      rcases hd with rfl | rfl | rfl | rfl
      · rw [if_pos rfl] at g4
        split at g4
        · omega
        · refine Or.inl (Or.inr ?_)
          rw [show 7 + c = c' by omega]; exact g3
      · rw [if_neg (by omega), if_pos rfl] at g4
        split at g4
        · omega
        · refine Or.inr (Or.inl ⟨by omega, ?_, Or.inr (by omega)⟩)
          rw [show c - 1 = c' by omega]; exact g3
      · rw [if_neg (by omega), if_neg (by omega), if_pos rfl] at g4
        split at g4
        · omega
        · refine Or.inl (Or.inl (Or.inr ⟨by omega, ?_⟩))
          rw [show c - 7 = c' by omega]; exact g3
      · rw [if_neg (by omega), if_neg (by omega), if_neg (by omega)] at g4
        split at g4
        · omega
        · refine Or.inr (Or.inr ⟨?_, Or.inr (by omega)⟩)
          rw [show 1 + c = c' by omega]; exact g3

/-! the class finds the way -/
section Xf
variable {M : jm} {a0 to H T : Nat} {cs : Nat → Nat}
def PA (a0 to T : Nat) (cs : Nat → Nat) (A n : Nat) : Prop := n ≤ T ∧ ∃ s, sub s A ∧ wk a0 cs n to s
def PK (a0 to T : Nat) (cs : Nat → Nat) (k i n : Nat) : Prop := ∃ A, A < i ∧ popc A = k ∧ PA a0 to T cs A n
theorem sprd_o {v op : Int64} {c : Nat} (h : lb op c = false) : lb (sprd v op) c = false := by
  unfold sprd
  rw [lb_and, h, Bool.and_false]
theorem nI9 : ∀ y, y < 49 → ¬ nI y = (-9 : Int32) := by decide +kernel
theorem x_overL {A : Nat} (ht : to < 49) {op : Int64} (hop : ∀ c, c < 49 → (lb op c = true ↔ sub (cs c) A)) (hop2 : ∀ c, 49 ≤ c → lb op c = false) (hT : T ≤ 24) : ∀ d i v k, i + d = T → d < k → (∀ c, lb v c = true → c < 49 ∧ ∃ m s, m ≤ i ∧ wk a0 cs m c s ∧ sub s A) → (∀ c s, wk a0 cs i c s → sub s A → lb v c = true) → (∀ m s, m ≤ i → sub s A → ¬ wk a0 cs m to s) → ∃ o, f_X3_shortestOver_l18 op (nI to) (nI T) k v (nI (i + 1)) = some (oj o) ∧ lst (PA a0 to T cs A) o := by
  intro d
  induction d with
  | zero =>
    intro i v k hi hk h1 h2 h3
    obtain ⟨k, rfl⟩ : ∃ j, k = j + 1 := ⟨k - 1, by omega⟩
    refine ⟨none, ?_, fun n q => ?_⟩
    · rw [f_X3_shortestOver_l18, if_pos (by rw [q_lt (by omega) (by omega)]; omega)]; rfl
    · obtain ⟨q1, s, q2, q3⟩ := q
      exact h3 n s (by omega) q2 q3
  | succ d ih =>
    intro i v k hi hk h1 h2 h3
    obtain ⟨k, rfl⟩ : ∃ j, k = j + 1 := ⟨k - 1, by omega⟩
    rw [show f_X3_shortestOver_l18 op (nI to) (nI T) (k + 1) v (nI (i + 1)) = (if nI T < nI (i + 1) then some (-9) else if lg_cmp (((Int64.toUInt64 (sprd v op) >>> ((Int32.toInt64 (nI to)).toUInt64 &&& Int64.toUInt64 63)).toInt64) &&& 1) 0 = 0 then f_X3_shortestOver_l18 op (nI to) (nI T) k (sprd v op) (nI (i + 1) + 1) else some (nI (i + 1))) from rfl, if_neg (by rw [q_lt (by omega) (by omega)]; omega)]
    have hv : ∀ c, 49 ≤ c → lb v c = false := by
      intro c hc
      cases z : lb v c
      · rfl
      · have := (h1 c z).1; omega
    have n1 : ∀ c, lb (sprd v op) c = true → c < 49 ∧ ∃ m s, m ≤ i + 1 ∧ wk a0 cs m c s ∧ sub s A := by
      intro c hc
      have hc49 : c < 49 := by
        apply Classical.byContradiction
        intro hn
        rw [sprd_o (hop2 c (by omega))] at hc; cases hc
      refine ⟨hc49, ?_⟩
      obtain ⟨g1, g2⟩ := (sprd_b v op hv hc49).mp hc
      rcases g2 with g2 | ⟨c', d', g2, g3, g4, g5⟩
      · obtain ⟨-, m, s, m1, m2, m3⟩ := h1 c g2
        exact ⟨m, s, by omega, m2, m3⟩
      · obtain ⟨-, m, s, m1, m2, m3⟩ := h1 c' g4
        exact ⟨m + 1, s ||| cs c, by omega, ⟨c', s, d', m2, g3, g5, hc49, rfl⟩, sub_or.mpr ⟨m3, (hop c hc49).mp g1⟩⟩
    have n2 : ∀ c s, wk a0 cs (i + 1) c s → sub s A → lb (sprd v op) c = true := by
      intro c s hw hsub
      obtain ⟨c', s', d', w1, w2, w3, w4, w5⟩ := hw
      rw [w5] at hsub
      obtain ⟨u1, u2⟩ := sub_or.mp hsub
      have l1 := h2 c' s' w1 u1
      exact (sprd_b v op hv w4).mpr ⟨(hop c w4).mpr u2, Or.inr ⟨c', d', (h1 c' l1).1, w2, l1, w3⟩⟩
    by_cases z : lb (sprd v op) to = false
    · rw [if_pos ((lb_tst (by omega)).mpr z), i_inc]
      refine ih (i + 1) (sprd v op) k (by omega) (by omega) n1 n2 (fun m s hm hsub hw => ?_)
      by_cases y : m = i + 1
      · rw [y] at hw
        rw [n2 to s hw hsub] at z; cases z
      · exact h3 m s (by omega) hsub hw
    · rw [if_neg (fun y => z ((lb_tst (by omega)).mp y))]
      have z' : lb (sprd v op) to = true := by simpa using z
      obtain ⟨-, m, s, m1, m2, m3⟩ := n1 to z'
      have e : m = i + 1 := by
        apply Classical.byContradiction
        intro hn
        exact h3 m s (by omega) m3 m2
      refine ⟨some (i + 1), rfl, ⟨by omega, s, m3, by rw [← e]; exact m2⟩, fun m' q => ?_⟩
      obtain ⟨q1, s', q2, q3⟩ := q
      apply Classical.byContradiction
      intro hn
      exact h3 m' s' (by omega) q2 q3
theorem x_overS {A : Nat} (ha : a0 < 49) (ht : to < 49) (hne : a0 ≠ to) {op : Int64} (hop : ∀ c, c < 49 → (lb op c = true ↔ sub (cs c) A)) (hop2 : ∀ c, 49 ≤ c → lb op c = false) (hT : T = stp a0 to + 12) : ∃ o, f_X3_shortestOver op (nI a0) (nI to) = some (oj o) ∧ lst (PA a0 to T cs A) o := by
  have h12 := stp_lt a0 ha to ht
  unfold f_X3_shortestOver
  rw [p_steps a0 ha to ht, show (12 : Int32) = nI 12 from rfl, nI_add, ← hT, show (1 : Int32) = nI (0 + 1) from rfl]
  refine x_overL ht hop hop2 (by omega) T 0 _ 10000 (by omega) (by omega) (fun c hc => ?_) (fun c s hw _ => ?_) (fun m s hm _ hw => ?_)
  · rw [lb_one (by omega)] at hc
    have e : c = a0 := by simpa using hc
    exact ⟨by omega, 0, 0, Nat.le_refl 0, ⟨e, rfl⟩, sub_0 A⟩
  · rw [lb_one (by omega), hw.1]; simp
  · have e : m = 0 := by omega
    rw [e] at hw
    exact hne hw.1.symm
theorem x_openS {A : Nat} (hA : A < 128) (hc : ∀ c, cs c < 128) (hM : ∀ c, c < 49 → M 14 0 c = nI (cs c)) : ∃ op, f_X3_openCells M (nI A) = some op ∧ (∀ c, c < 49 → (lb op c = true ↔ sub (cs c) A)) ∧ (∀ c, 49 ≤ c → lb op c = false) := by
  refine loopE (fun k v i => f_X3_openCells_l5 M (nI A) k v i) (fun i (v : Int64) => (∀ c, c < i → (lb v c = true ↔ sub (cs c) A)) ∧ (∀ c, i ≤ c → lb v c = false)) (fun o => ∃ op, o = some op ∧ (∀ c, c < 49 → (lb op c = true ↔ sub (cs c) A)) ∧ (∀ c, 49 ≤ c → lb op c = false)) 49 (fun k v i hi hq => ?_) (fun k v hq => ?_) 49 0 10000 0 (by omega) (by omega) ⟨fun c h => absurd h (Nat.not_lt_zero c), fun c _ => ?_⟩
  · show ∃ v', f_X3_openCells_l5 M (nI A) (k + 1) v (nI i) = f_X3_openCells_l5 M (nI A) k v' (nI (i + 1)) ∧ (∀ c, c < i + 1 → (lb v' c = true ↔ sub (cs c) A)) ∧ (∀ c, i + 1 ≤ c → lb v' c = false)
    obtain ⟨q1, q2⟩ := hq
    rw [f_X3_openCells_l5, if_neg (by rw [show (49 : Int32) = nI 49 from rfl, q_le (by omega) (by omega)]; omega), q_gd (by omega) (by omega), q_cl (by omega), hM i hi, i_inc]
    by_cases z : sub (cs i) A
    · rw [if_pos ((sub_nI (hc i) hA).mpr z)]
      refine ⟨_, rfl, fun c h => ?_, fun c h => ?_⟩
      · rw [lb_or, lb_one (by omega)]
        by_cases y : c = i
        · rw [y, decide_eq_true rfl, Bool.or_true]; exact ⟨fun _ => z, fun _ => rfl⟩
        · rw [decide_eq_false y, Bool.or_false]; exact q1 c (by omega)
      · rw [lb_or, lb_one (by omega), q2 c (by omega), decide_eq_false (show ¬ c = i by omega)]; rfl
    · rw [if_neg (fun y => z ((sub_nI (hc i) hA).mp y))]
      refine ⟨v, rfl, fun c h => ?_, fun c h => q2 c (by omega)⟩
      by_cases y : c = i
      · rw [y, q2 i (Nat.le_refl i)]; exact ⟨fun u => Bool.noConfusion u, fun u => absurd u z⟩
      · exact q1 c (by omega)
  · show ∃ op, f_X3_openCells_l5 M (nI A) (k + 1) v (nI 49) = some op ∧ (∀ c, c < 49 → (lb op c = true ↔ sub (cs c) A)) ∧ (∀ c, 49 ≤ c → lb op c = false)
    rw [f_X3_openCells_l5, if_pos (by decide)]
    exact ⟨v, rfl, hq.1, hq.2⟩
  · by_cases z : c < 64
    · have : ∀ i, i < 64 → lb 0 i = false := by decide +kernel
      exact this c z
    · exact lb_big (by omega)
theorem PA_to {A n : Nat} (hne : a0 ≠ to) (h : PA a0 to T cs A n) : sub (cs to) A := by
  obtain ⟨-, s, h2, h3⟩ := h
  cases n with
  | zero => exact absurd h3.1.symm hne
  | succ n =>
    obtain ⟨c', s', d', w1, w2, w3, w4, w5⟩ := h3
    rw [w5] at h2
    exact (sub_or.mp h2).2
theorem PK_no {k i : Nat} (h : popc i = k → ∀ n, ¬ PA a0 to T cs i n) {o : Option Nat} (hl : lst (PK a0 to T cs k i) o) : lst (PK a0 to T cs k (i + 1)) o := by
  refine lst_congr (fun n => ⟨fun ⟨A, a1, a2, a3⟩ => ⟨A, by omega, a2, a3⟩, fun ⟨A, a1, a2, a3⟩ => ?_⟩) hl
  by_cases z : A = i
  · rw [z] at a2 a3; exact absurd a3 (h a2 n)
  · exact ⟨A, by omega, a2, a3⟩
theorem PK_yes {k i : Nat} (h : popc i = k) {o : Option Nat} (hl : lst (fun n => PK a0 to T cs k i n ∨ PA a0 to T cs i n) o) : lst (PK a0 to T cs k (i + 1)) o := by
  refine lst_congr (fun n => ⟨fun q => ?_, fun ⟨A, a1, a2, a3⟩ => ?_⟩) hl
  · rcases q with ⟨A, a1, a2, a3⟩ | q
    · exact ⟨A, by omega, a2, a3⟩
    · exact ⟨i, by omega, h, q⟩
  · by_cases z : A = i
    · rw [z] at a3; exact Or.inr a3
    · exact Or.inl ⟨A, by omega, a2, a3⟩
theorem popc_8 (x : Nat) : popc x ≤ 8 := by unfold popc; omega
theorem x_atS {k : Nat} (hH : H ≤ 7) (hk : k < 8) (ha : a0 < 49) (ht : to < 49) (hne : a0 ≠ to) (hc : ∀ c, cs c < 128) (hM : ∀ c, c < 49 → M 14 0 c = nI (cs c)) (hT : T = stp a0 to + 12) : ∃ o, f_X3_shortestAt M (nI k) (nI H) (nI a0) (nI to) = some (oj o) ∧ lst (PK a0 to T cs k (2 ^ H)) o := by
  have h12 := stp_lt a0 ha to ht
  have h2 : 2 ^ H ≤ 2 ^ 7 := Nat.pow_le_pow_right (by omega) hH
  have eb : (1 : Int32) <<< (nI H &&& 31) = nI (2 ^ H) := bi_eq H (by omega)
  unfold f_X3_shortestAt
  refine loopE (fun kk v i => f_X3_shortestAt_l7 M (nI k) (nI H) (nI a0) (nI to) kk v i) (fun i (v : Int32) => ∃ o, v = oj o ∧ lst (PK a0 to T cs k i) o) (fun r => ∃ o, r = some (oj o) ∧ lst (PK a0 to T cs k (2 ^ H)) o) (2 ^ H) (fun kk v i hi hq => ?_) (fun kk v hq => ?_) (2 ^ H) 0 10000 (-9) (by omega) (by omega) ⟨none, rfl, fun n ⟨A, a1, _⟩ => absurd a1 (Nat.not_lt_zero A)⟩
  · show ∃ v', f_X3_shortestAt_l7 M (nI k) (nI H) (nI a0) (nI to) (kk + 1) v (nI i) = f_X3_shortestAt_l7 M (nI k) (nI H) (nI a0) (nI to) kk v' (nI (i + 1)) ∧ ∃ o, v' = oj o ∧ lst (PK a0 to T cs k (i + 1)) o
    obtain ⟨o, q1, q2⟩ := hq
    have h8 := popc_8 i
    rw [f_X3_shortestAt_l7, eb, if_neg (by rw [q_le (by omega) (by omega)]; omega), i_inc, p_bitCount0 i (by omega), q_gd (by omega) (by omega), q_cl (by omega), hM to ht]
    by_cases z : popc i = k
    · rw [if_pos (by rw [z])]
      by_cases y : sub (cs to) i
      · rw [if_pos ((sub_nI (hc to) (by omega)).mpr y)]
        obtain ⟨op, o1, o2, o3⟩ := x_openS (M := M) (A := i) (by omega) hc hM
        obtain ⟨o', p1, p2⟩ := x_overS (A := i) ha ht hne o2 o3 hT
        rw [o1, q_jb, p1, q_jb]
        cases o' with
        | none =>
          rw [if_pos (show oj none = -9 from rfl)]
          exact ⟨v, rfl, o, q1, PK_yes z (lst_l q2 p2)⟩
        | some y2 =>
          have hy2 := p2.1.1
          rw [if_neg (show ¬ oj (some y2) = -9 from nI9 y2 (by omega))]
          cases o with
          | none =>
            rw [if_pos (show v = -9 from q1)]
            exact ⟨_, rfl, some y2, rfl, PK_yes z (lst_r q2 p2)⟩
          | some x2 =>
            obtain ⟨A2, -, -, hx2⟩ := q2.1
            have hx2 := hx2.1
            have q1 : v = nI x2 := q1
            rw [if_neg (show ¬ v = -9 from by rw [q1]; exact nI9 x2 (by omega))]
            show ∃ v', (if v ≤ nI y2 then _ else _) = _ ∧ _
            by_cases u : x2 ≤ y2
            · rw [if_pos (by rw [q1, q_le (by omega) (by omega)]; exact u)]
              exact ⟨v, rfl, some x2, q1, PK_yes z (lst_a q2 p2 u)⟩
            · rw [if_neg (by rw [q1, q_le (by omega) (by omega)]; exact u)]
              exact ⟨nI y2, rfl, some y2, rfl, PK_yes z (lst_b q2 p2 (by omega))⟩
      · rw [if_neg (fun u => y ((sub_nI (hc to) (by omega)).mp u))]
        exact ⟨v, rfl, o, q1, PK_no (fun _ n q => y (PA_to hne q)) q2⟩
    · rw [if_neg (fun u => z ((q_eq (by omega) (by omega)).mp u))]
      exact ⟨v, rfl, o, q1, PK_no (fun e => absurd e z) q2⟩
  · show ∃ o, f_X3_shortestAt_l7 M (nI k) (nI H) (nI a0) (nI to) (kk + 1) v (nI (2 ^ H)) = some (oj o) ∧ lst (PK a0 to T cs k (2 ^ H)) o
    obtain ⟨o, q1, q2⟩ := hq
    rw [f_X3_shortestAt_l7, eb, if_pos ((q_le (by omega) (by omega)).mpr (Nat.le_refl _)), q1]
    exact ⟨o, rfl, q2⟩
/-- what the class comes to -/
def fnd (a0 to T H : Nat) (cs : Nat → Nat) (k n : Nat) : Prop := k ≤ H ∧ (∀ k' n', k' < k → ¬ PK a0 to T cs k' (2 ^ H) n') ∧ ((k < H ∧ lst (PK a0 to T cs k (2 ^ H)) (some n)) ∨ (k = H ∧ n = stp a0 to))
theorem x_findL (hH : H ≤ 7) (ha : a0 < 49) (ht : to < 49) (hne : a0 ≠ to) (hc : ∀ c, cs c < 128) (hM : ∀ c, c < 49 → M 14 0 c = nI (cs c)) (hT : T = stp a0 to + 12) : ∃ (M' : jm) (k n : Nat), f_X3_find_l77 1 (nI to) (nI a0) (nI H) 10000 M (nI 0) = some M' ∧ (∀ o, o ≠ 14 → M' o = M o) ∧ M' 14 1 0 = nI k ∧ M' 14 2 0 = nI n ∧ fnd a0 to T H cs k n := by
  refine loopX (fun kk c i => f_X3_find_l77 1 (nI to) (nI a0) (nI H) kk c i) (fun i (c : jm) => (∀ o, o ≠ 14 → c o = M o) ∧ (∀ x, c 14 0 x = M 14 0 x) ∧ ∀ k' n', k' < i → ¬ PK a0 to T cs k' (2 ^ H) n') (fun r => ∃ (M' : jm) (k n : Nat), r = some M' ∧ (∀ o, o ≠ 14 → M' o = M o) ∧ M' 14 1 0 = nI k ∧ M' 14 2 0 = nI n ∧ fnd a0 to T H cs k n) H (fun kk c i hi hq => ?_) (fun kk c hq => ?_) H 0 10000 M (by omega) (by omega) ⟨fun _ _ => rfl, fun _ => rfl, fun k' _ h => absurd h (Nat.not_lt_zero k')⟩
  · show (∃ (M' : jm) (k n : Nat), f_X3_find_l77 1 (nI to) (nI a0) (nI H) (kk + 1) c (nI i) = some M' ∧ (∀ o, o ≠ 14 → M' o = M o) ∧ M' 14 1 0 = nI k ∧ M' 14 2 0 = nI n ∧ fnd a0 to T H cs k n) ∨ ∃ c', f_X3_find_l77 1 (nI to) (nI a0) (nI H) (kk + 1) c (nI i) = f_X3_find_l77 1 (nI to) (nI a0) (nI H) kk c' (nI (i + 1)) ∧ (∀ o, o ≠ 14 → c' o = M o) ∧ (∀ x, c' 14 0 x = M 14 0 x) ∧ ∀ k' n', k' < i + 1 → ¬ PK a0 to T cs k' (2 ^ H) n'
    obtain ⟨q1, q2, q3⟩ := hq
    obtain ⟨o, e1, e2⟩ := x_atS (M := ju c 14 1 0 (nI i)) (k := i) hH (by omega) ha ht hne hc (fun x hx => by rw [ju_g (by omega), q2 x]; exact hM x hx) hT
    rw [f_X3_find_l77, if_neg (by rw [q_le (by omega) (by omega)]; omega), e1, q_jb, i_inc, ju_self]
    have hfr : ∀ o', o' ≠ 14 → ju (ju c 14 1 0 (nI i)) 14 2 0 (oj o) o' = M o' := fun o' ho => by rw [ju_ne ho, ju_ne ho, q1 o' ho]
    cases o with
    | none =>
      rw [if_pos (show oj none = -9 from rfl)]
      refine Or.inr ⟨_, rfl, hfr, fun x => by rw [ju_g (by omega), ju_g (by omega), q2 x], fun k' n' hk' q => ?_⟩
      by_cases z : k' = i
      · rw [z] at q; exact e2 n' q
      · exact q3 k' n' (by omega) q
    | some n =>
      obtain ⟨A2, -, -, hn⟩ := e2.1
      have hn := hn.1
      have h12 := stp_lt a0 ha to ht
      rw [if_neg (show ¬ oj (some n) = -9 from nI9 n (by omega))]
      exact Or.inl ⟨_, i, n, rfl, hfr, by rw [ju_g (by omega), ju_self], by rw [ju_self]; rfl, by omega, q3, Or.inl ⟨hi, e2⟩⟩
  · show ∃ (M' : jm) (k n : Nat), f_X3_find_l77 1 (nI to) (nI a0) (nI H) (kk + 1) c (nI H) = some M' ∧ (∀ o, o ≠ 14 → M' o = M o) ∧ M' 14 1 0 = nI k ∧ M' 14 2 0 = nI n ∧ fnd a0 to T H cs k n
    obtain ⟨q1, q2, q3⟩ := hq
    rw [f_X3_find_l77, if_pos ((q_le (by omega) (by omega)).mpr (Nat.le_refl _)), p_steps a0 ha to ht]
    exact ⟨_, H, stp a0 to, rfl, fun o ho => by rw [ju_ne ho, ju_ne ho, q1 o ho], by rw [ju_g (by omega), ju_self], by rw [ju_self], Nat.le_refl _, q3, Or.inr ⟨rfl, rfl⟩⟩
theorem x_findS {σ : vl} {w : Nat} (h0 : M 1 0 0 = nI (vH σ)) (hR : RB (M 1) σ (vH σ)) (hf : wf σ) (hw : w < vW σ) (ht : to < 49) (hc : ∀ c, cs c < 128) (hcs : ∀ c, c < 49 → nI (bs (see σ w c) (vH σ)) &&& (nI (bs (owe σ 0 w) (vH σ)) ^^^ -1) = nI (cs c)) (hT : T = stp (σ 6 w) to + 12) : ∃ (M' : jm) (k n : Nat), f_X3_find M 1 (nI w) (nI to) = some M' ∧ (∀ o, o ≠ 14 → M' o = M o) ∧ M' 14 1 0 = nI k ∧ M' 14 2 0 = nI n ∧ ((σ 6 w = to ∧ k = 0 ∧ n = 0) ∨ (σ 6 w ≠ to ∧ fnd (σ 6 w) to T (vH σ) cs k n)) := by
  have hH := hf.1
  have hW := hf.2.1.2.1
  have ha := (hf.2.1.2.2.2.1 w hw).1
  have ea : M 1 6 w = nI (σ 6 w) := (hR.2.2.1 w hw).1
  have ow : f_X4_owesBehind M 1 (nI w) 0 = some (nI (bs (owe σ 0 w) (vH σ))) := p_owesBehind h0 hR hf.2.1 hw (n := 0) (by omega)
  unfold f_X3_find
  rw [q_gd (by omega) (by omega), ow, q_jb, q_cl (by omega), ea]
  refine loopE (fun k c i => f_X3_find_l19 1 (nI w) (nI to) (nI (σ 6 w)) (nI (bs (owe σ 0 w) (vH σ))) k c i) (fun i (c : jm) => (∀ o, o ≠ 14 → c o = M o) ∧ ∀ x, x < i → c 14 0 x = nI (cs x)) (fun r => ∃ (M' : jm) (k n : Nat), r = some M' ∧ (∀ o, o ≠ 14 → M' o = M o) ∧ M' 14 1 0 = nI k ∧ M' 14 2 0 = nI n ∧ ((σ 6 w = to ∧ k = 0 ∧ n = 0) ∨ (σ 6 w ≠ to ∧ fnd (σ 6 w) to T (vH σ) cs k n))) 49 (fun k c i hi hp => ?_) (fun k c hp => ?_) 49 0 10000 M (by omega) (by omega) ⟨fun _ _ => rfl, fun x hx => absurd hx (Nat.not_lt_zero x)⟩
  · show ∃ c', f_X3_find_l19 1 (nI w) (nI to) (nI (σ 6 w)) (nI (bs (owe σ 0 w) (vH σ))) (k + 1) c (nI i) = f_X3_find_l19 1 (nI w) (nI to) (nI (σ 6 w)) (nI (bs (owe σ 0 w) (vH σ))) k c' (nI (i + 1)) ∧ (∀ o, o ≠ 14 → c' o = M o) ∧ ∀ x, x < i + 1 → c' 14 0 x = nI (cs x)
    obtain ⟨p1, p2⟩ := hp
    have c1 := p1 1 (by omega)
    rw [f_X3_find_l19, if_neg (by rw [show (49 : Int32) = nI 49 from rfl, q_le (by omega) (by omega)]; omega), p_seesFrom (by rw [c1]; exact h0) (by rw [c1]; exact hR) hf.2.1 hw hi, q_jb, q_gd (by omega) (by omega), q_cl (by omega), hcs i hi, i_inc]
    refine ⟨_, rfl, fun o ho => by rw [ju_ne ho, p1 o ho], fun x hx => ?_⟩
    rw [ju_o]
    by_cases z : x = i
    · rw [if_pos ⟨rfl, z⟩, z]
    · rw [if_neg (fun q => z q.2)]; exact p2 x (by omega)
  · show ∃ (M' : jm) (k' n : Nat), f_X3_find_l19 1 (nI w) (nI to) (nI (σ 6 w)) (nI (bs (owe σ 0 w) (vH σ))) (k + 1) c (nI 49) = some M' ∧ (∀ o, o ≠ 14 → M' o = M o) ∧ M' 14 1 0 = nI k' ∧ M' 14 2 0 = nI n ∧ ((σ 6 w = to ∧ k' = 0 ∧ n = 0) ∨ (σ 6 w ≠ to ∧ fnd (σ 6 w) to T (vH σ) cs k' n))
    obtain ⟨p1, p2⟩ := hp
    have fr : ∀ o, o ≠ 14 → ju (ju c 14 1 0 0) 14 2 0 0 o = M o := fun o ho => by rw [ju_ne ho, ju_ne ho, p1 o ho]
    have e0 : ju (ju c 14 1 0 0) 14 2 0 0 1 0 0 = nI (vH σ) := by rw [fr 1 (by omega)]; exact h0
    rw [f_X3_find_l19, if_pos (by decide)]
    by_cases z : σ 6 w = to
    · rw [if_pos (by rw [z])]
      exact ⟨_, 0, 0, rfl, fr, by rw [ju_g (by omega), ju_self]; rfl, by rw [ju_self]; rfl, Or.inl ⟨z, rfl, rfl⟩⟩
    · rw [if_neg (fun y => z ((q_eq (by omega) (by omega)).mp y)), e0]
      obtain ⟨M', k', n, g1, g2, g3, g4, g5⟩ := x_findL (M := ju (ju c 14 1 0 0) 14 2 0 0) (H := vH σ) hH ha ht z hc (fun x hx => by rw [ju_g (by omega), ju_g (by omega)]; exact p2 x hx) hT
      exact ⟨M', k', n, g1, fun o ho => by rw [g2 o ho, fr o ho], g3, g4, Or.inr ⟨z, g5⟩⟩
end Xf

/-! the reference's waiting places: the least steps to each -/
def nxp (cs : Nat → Nat) (v d : Nat) : Nat := 128 * nb (v / 128) d + (v % 128 ||| cs (nb (v / 128) d))
section Bq
variable {a0 : Nat} {cs : Nat → Nat}
theorem nx_lt (hc : ∀ c, cs c < 128) {v d : Nat} (hv : v < 6272) (hd : d < 4) (h : nb (v / 128) d ≠ 49) : nb (v / 128) d < 49 ∧ nxp cs v d < 6272 ∧ nxp cs v d / 128 = nb (v / 128) d ∧ nxp cs v d % 128 = (v % 128 ||| cs (nb (v / 128) d)) := by
  have h1 := nb_lt (v / 128) (by omega) d hd
  have h2 : (v % 128 ||| cs (nb (v / 128) d)) < 128 := Nat.or_lt_two_pow (n := 7) (by omega) (hc _)
  unfold nxp
  omega
/-- waiting q 0 .. q (n - 1), looked at the first i; t: 0, or one more than the steps -/
def BI (a0 : Nat) (cs : Nat → Nat) (n i : Nat) (q t : Nat → Nat) : Prop := (∀ j, j < n → q j < 6272 ∧ 0 < t (q j) ∧ t (q j) ≤ j + 1) ∧ (∀ v, v < 6272 → 0 < t v → (∃ j, j < n ∧ q j = v) ∧ wk a0 cs (t v - 1) (v / 128) (v % 128)) ∧ (∀ j j', j ≤ j' → j' < n → t (q j) ≤ t (q j')) ∧ (∀ j', i < n → j' < n → t (q j') ≤ t (q i) + 1) ∧ (∀ j, j < i → ∀ d, d < 4 → nb (q j / 128) d ≠ 49 → 0 < t (nxp cs (q j) d) ∧ t (nxp cs (q j) d) ≤ t (q j) + 1) ∧ t (128 * a0) = 1
def BC (cs : Nat → Nat) (i d : Nat) (q t : Nat → Nat) : Prop := ∀ d', d' < d → nb (q i / 128) d' ≠ 49 → 0 < t (nxp cs (q i) d') ∧ t (nxp cs (q i) d') ≤ t (q i) + 1
def updn (f : Nat → Nat) (k x : Nat) : Nat → Nat := fun j => if j = k then x else f j
theorem upd_s {f : Nat → Nat} {k x : Nat} : updn f k x k = x := if_pos rfl
theorem upd_n {f : Nat → Nat} {k x j : Nat} (h : j ≠ k) : updn f k x j = f j := if_neg h
theorem BI_add (hc : ∀ c, cs c < 128) {n i d : Nat} {q t : Nat → Nat} (h : BI a0 cs n i q t) (hC : BC cs i d q t) (hi : i < n) (hd : d < 4) (hb : nb (q i / 128) d ≠ 49) (hu : t (nxp cs (q i) d) = 0) : BI a0 cs (n + 1) i (updn q n (nxp cs (q i) d)) (updn t (nxp cs (q i) d) (t (q i) + 1)) ∧ BC cs i (d + 1) (updn q n (nxp cs (q i) d)) (updn t (nxp cs (q i) d) (t (q i) + 1)) := by
  obtain ⟨b1, b2, b3, b4, b5, b6⟩ := h
  obtain ⟨q1, q2, q3⟩ := b1 i hi
  obtain ⟨x1, x2, x3, x4⟩ := nx_lt hc q1 hd hb
  obtain ⟨u, hu2⟩ : ∃ u, u = nxp cs (q i) d := ⟨_, rfl⟩
  rw [← hu2] at hu x2 x3 x4 ⊢
  have tn : ∀ v, 0 < t v → v ≠ u := fun v hv e => by rw [e, hu] at hv; exact absurd hv (Nat.lt_irrefl 0)
  have tq : ∀ j, j < n → updn t u (t (q i) + 1) (updn q n u j) = t (q j) := fun j hj => by
    rw [upd_n (show j ≠ n by omega), upd_n (tn _ (b1 j hj).2.1)]
  have tqn : updn t u (t (q i) + 1) (updn q n u n) = t (q i) + 1 := by rw [upd_s, upd_s]
  refine ⟨⟨fun j hj => ?_, fun v hv htv => ?_, fun j j' h1 h2 => ?_, fun j' h1 h2 => ?_, fun j hj d' hd' hb' => ?_, ?_⟩, fun d' hd' hb' => ?_⟩
  · by_cases z : j = n
    · rw [z, tqn, upd_s]; exact ⟨x2, by omega, by omega⟩
    · rw [tq j (by omega), upd_n z]; exact b1 j (by omega)
  · by_cases z : v = u
    · refine ⟨⟨n, by omega, by rw [upd_s, z]⟩, ?_⟩
      rw [z, upd_s, x3, x4, show t (q i) + 1 - 1 = (t (q i) - 1) + 1 by omega]
      exact ⟨q i / 128, q i % 128, d, (b2 (q i) q1 q2).2, hd, rfl, x1, rfl⟩
    · rw [upd_n z] at htv ⊢
      obtain ⟨⟨j, j1, j2⟩, w⟩ := b2 v hv htv
      exact ⟨⟨j, by omega, by rw [upd_n (by omega)]; exact j2⟩, w⟩
  · by_cases z : j' = n
    · rw [z, tqn]
      by_cases y : j = n
      · rw [y, tqn]; exact Nat.le_refl _
      · rw [tq j (by omega)]; exact b4 j hi (by omega)
    · rw [tq j (by omega), tq j' (by omega)]; exact b3 j j' h1 (by omega)
  · rw [tq i hi]
    by_cases z : j' = n
    · rw [z, tqn]; exact Nat.le_refl _
    · rw [tq j' (by omega)]; exact b4 j' hi (by omega)
  · have hjn : j < n := by omega
    rw [tq j hjn, upd_n (show j ≠ n by omega)]
    rw [upd_n (show j ≠ n by omega)] at hb'
    obtain ⟨c1, c2⟩ := b5 j hj d' hd' hb'
    rw [upd_n (tn _ c1)]
    exact ⟨c1, c2⟩
  · rw [upd_n (tn _ (by omega))]; exact b6
  · rw [tq i hi, upd_n (show i ≠ n by omega)]
    rw [upd_n (show i ≠ n by omega)] at hb'
    by_cases z : d' = d
    · rw [z, ← hu2, upd_s]; exact ⟨by omega, Nat.le_refl _⟩
    · obtain ⟨c1, c2⟩ := hC d' (by omega) hb'
      rw [upd_n (tn _ c1)]
      exact ⟨c1, c2⟩
theorem BC_no {n i d : Nat} {q t : Nat → Nat} (hC : BC cs i d q t) (h : nb (q i / 128) d ≠ 49 → 0 < t (nxp cs (q i) d) ∧ t (nxp cs (q i) d) ≤ t (q i) + 1) : BC cs i (d + 1) q t := fun d' hd' hb' => by
  by_cases z : d' = d
  · rw [z] at hb' ⊢; exact h hb'
  · exact hC d' (by omega) hb'
theorem BI_has {n i : Nat} {q t : Nat → Nat} (h : BI a0 cs n i q t) (hi : i < n) {v : Nat} (hv : v < 6272) (ht : 0 < t v) : t v ≤ t (q i) + 1 := by
  obtain ⟨⟨j, j1, j2⟩, -⟩ := h.2.1 v hv ht
  rw [← j2]
  exact h.2.2.2.1 j hi j1
theorem BI_next {n i : Nat} {q t : Nat → Nat} (h : BI a0 cs n i q t) (hi : i < n) (hC : BC cs i 4 q t) : BI a0 cs n (i + 1) q t := by
  obtain ⟨b1, b2, b3, b4, b5, b6⟩ := h
  refine ⟨b1, b2, b3, fun j' h1 h2 => ?_, fun j hj d hd hb => ?_, b6⟩
  · have h3 := b4 j' hi h2
    have h4 := b3 i (i + 1) (by omega) h1
    omega
  · by_cases z : j = i
    · rw [z] at hb ⊢; exact hC d hd hb
    · exact b5 j (by omega) d hd hb
theorem BI_end (ha : a0 < 49) (hc : ∀ c, cs c < 128) {n i : Nat} {q t : Nat → Nat} (h : BI a0 cs n i q t) (hi : n ≤ i) : ∀ m c s, wk a0 cs m c s → 0 < t (128 * c + s) ∧ t (128 * c + s) ≤ m + 1 := by
  intro m
  induction m with
  | zero =>
    intro c s hw
    rw [hw.1, hw.2, Nat.add_zero, h.2.2.2.2.2]
    exact ⟨by omega, by omega⟩
  | succ m ih =>
    intro c s hw
    obtain ⟨c', s', d, w1, w2, w3, w4, w5⟩ := hw
    obtain ⟨e1, e2⟩ := ih c' s' w1
    obtain ⟨f1, f2⟩ := W_b (H := 7) ha hc m c' s' w1
    obtain ⟨⟨j, j1, j2⟩, -⟩ := h.2.1 (128 * c' + s') (by omega) e1
    have d1 : (128 * c' + s') / 128 = c' := by omega
    have d2 : (128 * c' + s') % 128 = s' := by omega
    have := h.2.2.2.2.1 j (by omega) d w2 (by rw [j2, d1]; omega)
    rw [j2] at this
    have en : nxp cs (128 * c' + s') d = 128 * c + s := by
      unfold nxp
      rw [d1, d2, w3, w5]
    rw [en] at this
    omega
end Bq
section Bm
variable {M0 : jm} {σ : vl} {a0 w : Nat} {cs : Nat → Nat}
/-- how they stand in the memory -/
def BM (M0 M : jm) (n : Nat) (q t : Nat → Nat) : Prop := (∀ o, o ≠ 16 → M o = M0 o) ∧ (∀ f, f ≠ 30 → f ≠ 31 → f ≠ 32 → M 16 f = M0 16 f) ∧ M 16 32 0 = nI n ∧ n = cn (fun v => decide (0 < t v)) 6272 ∧ (∀ j, j < n → M 16 31 j = nI (q j)) ∧ (∀ v, v < 6272 → M 16 30 v = if t v = 0 then -1 else nI (t v - 1))
theorem BM_le {M : jm} {n : Nat} {q t : Nat → Nat} (h : BM M0 M n q t) : n ≤ 6272 := by
  rw [h.2.2.2.1]
  exact cn_le _ _
theorem BM_add {M : jm} {n u x : Nat} {q t : Nat → Nat} (h : BM M0 M n q t) (hu : u < 6272) (h0 : t u = 0) (hx : 0 < x) : n < 6272 ∧ BM M0 (ju (ju (ju M 16 30 u (nI x)) 16 31 n (nI u)) 16 32 0 (nI (n + 1))) (n + 1) (updn q n u) (updn t u (x + 1)) := by
  obtain ⟨m1, m2, m3, m4, m5, m6⟩ := h
  have hlt : n < 6272 := by
    rw [m4]
    exact cn_lt _ _ u hu (by rw [h0]; rfl)
  obtain ⟨M', hM'⟩ : ∃ M', M' = ju (ju (ju M 16 30 u (nI x)) 16 31 n (nI u)) 16 32 0 (nI (n + 1)) := ⟨_, rfl⟩
  rw [← hM']
  refine ⟨hlt, fun o ho => by rw [hM', ju_ne ho, ju_ne ho, ju_ne ho, m1 o ho], fun f f1 f2 f3 => by rw [hM', ju_f f3, ju_f f2, ju_f f1, m2 f f1 f2 f3], by rw [hM', ju_self], ?_, fun j hj => ?_, fun v hv => ?_⟩
  · rw [cn_one (fun v => decide (0 < t v)) (fun v => decide (0 < updn t u (x + 1) v)) u (by show decide (0 < t u) = false; rw [h0]; rfl) (by show decide (0 < updn t u (x + 1) u) = true; rw [upd_s]; exact decide_eq_true (by omega)) (fun j hj => by show decide (0 < updn t u (x + 1) j) = decide (0 < t j); rw [upd_n hj]) 6272, if_pos hu, ← m4]
  · rw [hM', ju_g (by omega), ju_o]
    by_cases z : j = n
    · rw [if_pos ⟨rfl, z⟩, z, upd_s]
    · rw [if_neg (fun y => z y.2), ju_g (by omega), upd_n z]; exact m5 j (by omega)
  · rw [hM', ju_g (by omega), ju_g (by omega), ju_o]
    by_cases z : v = u
    · rw [if_pos ⟨rfl, z⟩, z, upd_s, if_neg (by omega)]; rfl
    · rw [if_neg (fun y => z y.2), upd_n z]; exact m6 v hv
theorem m_fourS {i : Nat} (hR : RM (M0 16) σ) (hg : wg σ) (hw : w < vW σ) (hc : ∀ c, cs c < 128) {r2 : Int32} (hcs : ∀ c, c < 49 → nI (bs (see σ w c) (vH σ)) &&& (r2 ^^^ -1) = nI (cs c)) (K : jm → Int32 → Option jm) {M : jm} {n : Nat} {q t : Nat → Nat} (h : BM M0 M n q t) (hB : BI a0 cs n i q t) (hi : i < n) : ∃ (M' : jm) (n' : Nat) (q' t' : Nat → Nat), n ≤ n' ∧ BM M0 M' n' q' t' ∧ BI a0 cs n' (i + 1) q' t' ∧ f_X6_layWays_l78 K (nI w) r2 (nI i) 10000 M (nI 0) = K M' (nI (i + 1)) := by
  have hH := hg.1
  refine loopE (fun k c d => f_X6_layWays_l78 K (nI w) r2 (nI i) k c d) (fun d (c : jm) => ∃ (n' : Nat) (q' t' : Nat → Nat), n ≤ n' ∧ BM M0 c n' q' t' ∧ BI a0 cs n' i q' t' ∧ BC cs i d q' t') (fun o => ∃ (M' : jm) (n' : Nat) (q' t' : Nat → Nat), n ≤ n' ∧ BM M0 M' n' q' t' ∧ BI a0 cs n' (i + 1) q' t' ∧ o = K M' (nI (i + 1))) 4 (fun k c d hd hp => ?_) (fun k c hp => ?_) 4 0 10000 M (by omega) (by omega) ⟨n, q, t, Nat.le_refl n, h, hB, fun d' hd' => absurd hd' (Nat.not_lt_zero d')⟩
  · show ∃ c', f_X6_layWays_l78 K (nI w) r2 (nI i) (k + 1) c (nI d) = f_X6_layWays_l78 K (nI w) r2 (nI i) k c' (nI (d + 1)) ∧ ∃ (n' : Nat) (q' t' : Nat → Nat), n ≤ n' ∧ BM M0 c' n' q' t' ∧ BI a0 cs n' i q' t' ∧ BC cs i (d + 1) q' t'
    obtain ⟨n1, q1, t1, hn1, hM, hI, hC⟩ := hp
    obtain ⟨m1, m2, m3, m4, m5, m6⟩ := id hM
    have hle := BM_le hM
    obtain ⟨v1, v2, v3⟩ := hI.1 i (by omega)
    have e31 : c 16 31 i = nI (q1 i) := m5 i (by omega)
    have e30 : c 16 30 (q1 i) = nI (t1 (q1 i) - 1) := by rw [m6 _ v1, if_neg (by omega)]
    have ed : nI (q1 i) / 128 = nI (q1 i / 128) := pk_div (d := 128) (by omega) (by omega) (by omega)
    have er : nI (q1 i) - nI (q1 i) / 128 * 128 = nI (q1 i % 128) := pk_rem (d := 128) (by omega) (by omega) (by omega)
    have hb := m_beside (q1 i / 128) (by omega) d hd
    have hRc : RM (c 16) σ := RM_fe (fun f hf => m2 f (by omega) (by omega) (by omega)) hR
    rw [f_X6_layWays_l78, if_neg (by rw [show (4 : Int32) = nI 4 from rfl, q_le (by omega) (by omega)]; omega), q_gd (by omega) (by omega), q_cl (by omega), e31, ed, hb]
    by_cases z : nb (q1 i / 128) d = 49
    · rw [if_pos z, if_neg (by decide)]
      unfold f_X6_layWays_j132
      rw [if_pos (by decide), i_inc]
      exact ⟨c, rfl, n1, q1, t1, hn1, hM, hI, BC_no (n := n1) hC (fun y => absurd z y)⟩
    · obtain ⟨x1, x2, x3, x4⟩ := nx_lt hc v1 hd z
      have ei : (128 : Int32) * nI (nb (q1 i / 128) d) + nI (q1 i % 128 ||| cs (nb (q1 i / 128) d)) = nI (nxp cs (q1 i) d) := by rw [show (128 : Int32) = nI 128 from rfl, pk_mul, nI_add]; rfl
      rw [if_neg z, if_pos (r_lo (by omega)), q_gd (by omega) (by omega), m_seenFrom hRc hg hw x1, q_jb, hcs _ x1, show nI (q1 i) - nI (q1 i / 128) * 128 = nI (q1 i % 128) by rw [← ed]; exact er, fa_or]
      unfold f_X6_layWays_j132
      rw [if_neg (r_lo' (by omega)), ei, q_gd (by omega) (by omega), q_cl (by omega), i_inc]
      by_cases y : t1 (nxp cs (q1 i) d) = 0
      · have hm : c 16 30 (nxp cs (q1 i) d) = -1 := by rw [m6 _ x2, if_pos y]
        obtain ⟨g1, g2⟩ := BM_add (x := t1 (q1 i)) hM x2 y v2
        obtain ⟨g3, g4⟩ := BI_add hc hI hC (by omega) hd z y
        have e32 : ju c 16 30 (nxp cs (q1 i) d) (nI (t1 (q1 i) - 1) + 1) 16 32 0 = nI n1 := by rw [ju_g (by omega)]; exact m3
        rw [if_neg (by rw [hm]; decide), q_gd (by omega) (by omega), q_cl (by omega), e31, q_gd (by omega) (by omega), q_gd (by omega) (by omega), q_cl (by omega), e30, e32, q_gd (by omega) (by omega), q_cl (by omega), show ju (ju c 16 30 (nxp cs (q1 i) d) (nI (t1 (q1 i) - 1) + 1)) 16 31 n1 (nI (nxp cs (q1 i) d)) 16 32 0 = nI n1 by rw [ju_g (by omega)]; exact e32, show nI (t1 (q1 i) - 1) + 1 = nI (t1 (q1 i)) by rw [i_inc, show t1 (q1 i) - 1 + 1 = t1 (q1 i) by omega], i_inc]
        exact ⟨_, rfl, n1 + 1, _, _, by omega, g2, g3, g4⟩
      · have hm : (0 : Int32) ≤ c 16 30 (nxp cs (q1 i) d) := by
          have hbd := BI_has hI (by omega) x2 (by omega)
          rw [m6 _ x2, if_neg y]; exact r_lo (by omega)
        rw [if_pos hm]
        exact ⟨c, rfl, n1, q1, t1, hn1, hM, hI, BC_no (n := n1) hC (fun _ => ⟨by omega, BI_has hI (by omega) x2 (by omega)⟩)⟩
  · show ∃ (M' : jm) (n' : Nat) (q' t' : Nat → Nat), n ≤ n' ∧ BM M0 M' n' q' t' ∧ BI a0 cs n' (i + 1) q' t' ∧ f_X6_layWays_l78 K (nI w) r2 (nI i) (k + 1) c (nI 4) = K M' (nI (i + 1))
    obtain ⟨n1, q1, t1, hn1, hM, hI, hC⟩ := hp
    rw [f_X6_layWays_l78, if_pos (by decide), i_inc]
    exact ⟨c, n1, q1, t1, hn1, hM, BI_next hI (by omega) hC, rfl⟩
theorem m_waitsS (hR : RM (M0 16) σ) (hg : wg σ) (hw : w < vW σ) (hc : ∀ c, cs c < 128) {r2 : Int32} (hcs : ∀ c, c < 49 → nI (bs (see σ w c) (vH σ)) &&& (r2 ^^^ -1) = nI (cs c)) : ∀ d i k, i + d = 6272 → d < k → ∀ (M : jm) (n : Nat) (q t : Nat → Nat), BM M0 M n q t → BI a0 cs n i q t → ∃ (M' : jm) (n' i' : Nat) (q' t' : Nat → Nat), f_X6_layWays_l67 (nI w) r2 k M (nI i) = some M' ∧ BM M0 M' n' q' t' ∧ BI a0 cs n' i' q' t' ∧ n' ≤ i' := by
  intro d
  induction d with
  | zero =>
    intro i k hi hk M n q t h hB
    obtain ⟨k, rfl⟩ : ∃ j, k = j + 1 := ⟨k - 1, by omega⟩
    have := BM_le h
    rw [f_X6_layWays_l67, h.2.2.1, if_pos (by rw [q_le (by omega) (by omega)]; omega)]
    exact ⟨M, n, i, q, t, rfl, h, hB, by omega⟩
  | succ d ih =>
    intro i k hi hk M n q t h hB
    obtain ⟨k, rfl⟩ : ∃ j, k = j + 1 := ⟨k - 1, by omega⟩
    have := BM_le h
    rw [f_X6_layWays_l67, h.2.2.1]
    by_cases z : n ≤ i
    · rw [if_pos (by rw [q_le (by omega) (by omega)]; omega)]
      exact ⟨M, n, i, q, t, rfl, h, hB, z⟩
    · rw [if_neg (by rw [q_le (by omega) (by omega)]; omega)]
      obtain ⟨M', n', q', t', g0, g1, g2, g3⟩ := m_fourS hR hg hw hc hcs (f_X6_layWays_l67 (nI w) r2 k) h hB (by omega)
      rw [show (0 : Int32) = nI 0 from rfl, g3]
      exact ih (i + 1) k (by omega) (by omega) M' n' q' t' g1 g2
theorem m_layWaysS {M : jm} (hR : RM (M 16) σ) (hg : wg σ) (hw : w < vW σ) (hc : ∀ c, cs c < 128) (hcs : ∀ c, c < 49 → nI (bs (see σ w c) (vH σ)) &&& (nI (bs (owe σ 0 w) (vH σ)) ^^^ -1) = nI (cs c)) : ∃ M', f_X6_layWays M (nI w) = some M' ∧ (∀ o, o ≠ 16 → M' o = M o) ∧ (∀ f, f ≠ 30 → f ≠ 31 → f ≠ 32 → M' 16 f = M 16 f) ∧ ∀ c s, c < 49 → s < 128 → (M' 16 30 (128 * c + s) = -1 ∧ ∀ m, ¬ wk (σ 6 w) cs m c s) ∨ ∃ x, x < 6272 ∧ M' 16 30 (128 * c + s) = nI x ∧ wk (σ 6 w) cs x c s ∧ ∀ m, wk (σ 6 w) cs m c s → x ≤ m := by
  have hW := hg.2.1.2.1
  have ha := (hg.2.1.2.2.2.1 w hw).1
  unfold f_X6_layWays
  refine loopE (fun k c i => f_X6_layWays_l2 (nI w) k c i) (fun i (c : jm) => (∀ o, o ≠ 16 → c o = M o) ∧ (∀ f, f ≠ 30 → f ≠ 31 → f ≠ 32 → c 16 f = M 16 f) ∧ ∀ v, v < i → c 16 30 v = -1) (fun o => ∃ M', o = some M' ∧ (∀ o, o ≠ 16 → M' o = M o) ∧ (∀ f, f ≠ 30 → f ≠ 31 → f ≠ 32 → M' 16 f = M 16 f) ∧ ∀ c s, c < 49 → s < 128 → (M' 16 30 (128 * c + s) = -1 ∧ ∀ m, ¬ wk (σ 6 w) cs m c s) ∨ ∃ x, x < 6272 ∧ M' 16 30 (128 * c + s) = nI x ∧ wk (σ 6 w) cs x c s ∧ ∀ m, wk (σ 6 w) cs m c s → x ≤ m) 6272 (fun k c i hi hp => ?_) (fun k c hp => ?_) 6272 0 10000 M (by omega) (by omega) ⟨fun _ _ => rfl, fun _ _ _ _ => rfl, fun v hv => absurd hv (Nat.not_lt_zero v)⟩
  · show ∃ c', f_X6_layWays_l2 (nI w) (k + 1) c (nI i) = f_X6_layWays_l2 (nI w) k c' (nI (i + 1)) ∧ (∀ o, o ≠ 16 → c' o = M o) ∧ (∀ f, f ≠ 30 → f ≠ 31 → f ≠ 32 → c' 16 f = M 16 f) ∧ ∀ v, v < i + 1 → c' 16 30 v = -1
    obtain ⟨p1, p2, p3⟩ := hp
    rw [f_X6_layWays_l2, if_neg (by rw [show (6272 : Int32) = nI 6272 from rfl, q_le (by omega) (by omega)]; omega), q_gd (by omega) (by omega), q_cl (by omega), i_inc]
    refine ⟨_, rfl, fun o ho => by rw [ju_ne ho, p1 o ho], fun f f1 f2 f3 => by rw [ju_f f1, p2 f f1 f2 f3], fun v hv => ?_⟩
    rw [ju_o]
    by_cases z : v = i
    · rw [if_pos ⟨rfl, z⟩]
    · rw [if_neg (fun q => z q.2)]; exact p3 v (by omega)
  · show ∃ M', f_X6_layWays_l2 (nI w) (k + 1) c (nI 6272) = some M' ∧ (∀ o, o ≠ 16 → M' o = M o) ∧ (∀ f, f ≠ 30 → f ≠ 31 → f ≠ 32 → M' 16 f = M 16 f) ∧ ∀ c s, c < 49 → s < 128 → (M' 16 30 (128 * c + s) = -1 ∧ ∀ m, ¬ wk (σ 6 w) cs m c s) ∨ ∃ x, x < 6272 ∧ M' 16 30 (128 * c + s) = nI x ∧ wk (σ 6 w) cs x c s ∧ ∀ m, wk (σ 6 w) cs m c s → x ≤ m
    obtain ⟨p1, p2, p3⟩ := hp
    have hRc : RM (c 16) σ := RM_fe (fun f hf => p2 f (by omega) (by omega) (by omega)) hR
    have ea : c 16 6 w = nI (σ 6 w) := (hRc.2.2.2.2.1 w hw).1
    have ei : (128 : Int32) * nI (σ 6 w) = nI (128 * σ 6 w) := by rw [show (128 : Int32) = nI 128 from rfl, pk_mul]
    have ea2 : ju c 16 30 (128 * σ 6 w) 0 16 6 w = nI (σ 6 w) := by rw [ju_g (by omega)]; exact ea
    have e00 : Int32.toNatClampNeg 0 = 0 := rfl
    rw [f_X6_layWays_l2, if_pos (by decide), m_owesBits hRc hg hw, q_jb, q_gd (by omega) (by omega), q_cl (by omega), ea, ei, q_gd (by omega) (by omega), q_gd (by omega) (by omega), show (0 : Int32) = nI 0 from rfl, q_gd (by omega) (by omega), q_cl (by omega), show (nI 0 : Int32) = 0 from rfl, e00, ea2, ei]
    obtain ⟨B, hB⟩ : ∃ B, B = ju (ju (ju c 16 30 (128 * σ 6 w) 0) 16 31 0 (nI (128 * σ 6 w))) 16 32 0 1 := ⟨_, rfl⟩
    rw [← hB]
    obtain ⟨t0, ht0⟩ : ∃ t0 : Nat → Nat, t0 = updn (fun _ => 0) (128 * σ 6 w) 1 := ⟨_, rfl⟩
    have t0s : t0 (128 * σ 6 w) = 1 := by rw [ht0, upd_s]
    have t0n : ∀ v, v ≠ 128 * σ 6 w → t0 v = 0 := fun v hv => by rw [ht0, upd_n hv]
    have hcf : ∀ N, cn (fun _ => false) N = 0 := fun N => cn_none N (fun _ _ => rfl)
    have hBM : BM M B 1 (fun _ => 128 * σ 6 w) t0 := by
      refine ⟨fun o ho => by rw [hB, ju_ne ho, ju_ne ho, ju_ne ho, p1 o ho], fun f f1 f2 f3 => by rw [hB, ju_f f3, ju_f f2, ju_f f1, p2 f f1 f2 f3], by rw [hB, ju_self]; rfl, ?_, fun j hj => ?_, fun v hv => ?_⟩
      · rw [cn_one (fun _ => false) (fun v => decide (0 < t0 v)) (128 * σ 6 w) rfl (by show decide (0 < t0 (128 * σ 6 w)) = true; rw [t0s]; rfl) (fun j hj => by show decide (0 < t0 j) = false; rw [t0n j hj]; rfl) 6272, hcf, if_pos (by omega)]
      · rw [show j = 0 by omega, hB, ju_g (by omega), ju_self]
      · rw [hB, ju_g (by omega), ju_g (by omega), ju_o]
        by_cases z : v = 128 * σ 6 w
        · rw [if_pos ⟨rfl, z⟩, z, t0s, if_neg (by omega)]; rfl
        · rw [if_neg (fun y => z y.2), t0n v z, if_pos rfl]; exact p3 v hv
    have hBI : BI (σ 6 w) cs 1 0 (fun _ => 128 * σ 6 w) t0 := by
      refine ⟨fun j hj => ⟨by show 128 * σ 6 w < 6272; omega, by show 0 < t0 (128 * σ 6 w); rw [t0s]; omega, by show t0 (128 * σ 6 w) ≤ j + 1; rw [t0s]; omega⟩, fun v hv htv => ?_, fun _ _ _ _ => Nat.le_refl _, fun _ _ _ => Nat.le_succ _, fun j hj => absurd hj (Nat.not_lt_zero j), t0s⟩
      by_cases z : v = 128 * σ 6 w
      · refine ⟨⟨0, by omega, z.symm⟩, ?_⟩
        rw [z, t0s]
        exact ⟨by omega, by omega⟩
      · rw [t0n v z] at htv; exact absurd htv (Nat.lt_irrefl 0)
    obtain ⟨M', n', i', q', t', g1, g2, g3, g4⟩ := m_waitsS hR hg hw hc hcs 6272 0 10000 (by omega) (by omega) B 1 _ t0 hBM hBI
    refine ⟨M', g1, g2.1, g2.2.1, fun c' s' hc' hs' => ?_⟩
    have hend := BI_end ha hc g3 g4
    have hle := BM_le g2
    by_cases z : t' (128 * c' + s') = 0
    · refine Or.inl ⟨by rw [g2.2.2.2.2.2 _ (by omega), if_pos z], fun m hm => ?_⟩
      have := (hend m c' s' hm).1
      omega
    · obtain ⟨⟨j, j1, j2⟩, hw2⟩ := g3.2.1 (128 * c' + s') (by omega) (by omega)
      have hj := (g3.1 j j1).2.2
      rw [j2] at hj
      rw [show (128 * c' + s') / 128 = c' by omega, show (128 * c' + s') % 128 = s' by omega] at hw2
      refine Or.inr ⟨t' (128 * c' + s') - 1, by omega, by rw [g2.2.2.2.2.2 _ (by omega), if_neg z], hw2, fun m hm => ?_⟩
      have := (hend m c' s' hm).2
      omega
end Bm

/-! the way: both alike -/
section Asks
variable {M M1 M2 : jm} {S : St} {σ : vl}
/-- the best of all ways: fewest houses, then fewest steps -/
def best (a0 to T : Nat) (cs : Nat → Nat) (s x : Nat) : Prop := s < 128 ∧ wk a0 cs x to s ∧ x ≤ T ∧ ∀ s' n', wk a0 cs n' to s' → n' ≤ T → popc s < popc s' ∨ (popc s = popc s' ∧ x ≤ n')
theorem popc_7 : ∀ x, x < 128 → popc x ≤ 7 := by decide +kernel
theorem m_wayS {a0 to T : Nat} {cs : Nat → Nat} (ha : a0 < 49) (ht : to < 49) (hc : ∀ c, cs c < 128) (hT : T = stp a0 to + 12) (v3 : Int32) (h30 : ∀ s, s < 128 → (M 16 30 (128 * to + s) = -1 ∧ ∀ m, ¬ wk a0 cs m to s) ∨ ∃ x, x < 6272 ∧ M 16 30 (128 * to + s) = nI x ∧ wk a0 cs x to s ∧ ∀ m, wk a0 cs m to s → x ≤ m) : ∃ s x, best a0 to T cs s x ∧ f_X6_way_l74 (nI to) v3 (nI T) 10000 M 8 0 (nI 0) = some (if v3 = 0 then nI (popc s) else nI x, M) := by
  have h12 := stp_lt a0 ha to ht
  obtain ⟨sw, hsw⟩ := W_to (cs := cs) ha (stp a0 to) to ht rfl
  have hb := fun n s h => W_b (H := 7) ha hc n to s h
  refine loopE (fun k (a : Int32 × Int32) i => f_X6_way_l74 (nI to) v3 (nI T) k M a.1 a.2 i) (fun i (a : Int32 × Int32) => (a.1 = nI 8 ∧ ∀ s n, s < i → n ≤ T → ¬ wk a0 cs n to s) ∨ ∃ s x, s < i ∧ s < 128 ∧ wk a0 cs x to s ∧ x ≤ T ∧ a.1 = nI (popc s) ∧ a.2 = nI x ∧ ∀ s' n', s' < i → wk a0 cs n' to s' → n' ≤ T → popc s < popc s' ∨ (popc s = popc s' ∧ x ≤ n')) (fun o => ∃ s x, best a0 to T cs s x ∧ o = some (if v3 = 0 then nI (popc s) else nI x, M)) 128 (fun k a i hi hq => ?_) (fun k a hq => ?_) 128 0 10000 (8, 0) (by omega) (by omega) (Or.inl ⟨rfl, fun s _ h => absurd h (Nat.not_lt_zero s)⟩)
  · show ∃ a' : Int32 × Int32, f_X6_way_l74 (nI to) v3 (nI T) (k + 1) M a.1 a.2 (nI i) = f_X6_way_l74 (nI to) v3 (nI T) k M a'.1 a'.2 (nI (i + 1)) ∧ ((a'.1 = nI 8 ∧ ∀ s n, s < i + 1 → n ≤ T → ¬ wk a0 cs n to s) ∨ ∃ s x, s < i + 1 ∧ s < 128 ∧ wk a0 cs x to s ∧ x ≤ T ∧ a'.1 = nI (popc s) ∧ a'.2 = nI x ∧ ∀ s' n', s' < i + 1 → wk a0 cs n' to s' → n' ≤ T → popc s < popc s' ∨ (popc s = popc s' ∧ x ≤ n'))
    have ei : (128 : Int32) * nI to + nI i = nI (128 * to + i) := by rw [show (128 : Int32) = nI 128 from rfl, pk_mul, nI_add]
    have hp7 := popc_7 i hi
    rw [f_X6_way_l74, if_neg (by rw [show (128 : Int32) = nI 128 from rfl, q_le (by omega) (by omega)]; omega), ei, q_gd (by omega) (by omega), m_onesOf0 i (by omega), q_jb, i_inc, q_cl (by omega)]
    -- nothing new at i
    have keep : (∀ n, n ≤ T → ¬ wk a0 cs n to i) → ((a.1 = nI 8 ∧ ∀ s n, s < i + 1 → n ≤ T → ¬ wk a0 cs n to s) ∨ ∃ s x, s < i + 1 ∧ s < 128 ∧ wk a0 cs x to s ∧ x ≤ T ∧ a.1 = nI (popc s) ∧ a.2 = nI x ∧ ∀ s' n', s' < i + 1 → wk a0 cs n' to s' → n' ≤ T → popc s < popc s' ∨ (popc s = popc s' ∧ x ≤ n')) := by
      intro hno
      rcases hq with ⟨q1, q2⟩ | ⟨s, x, s1, s2, s3, s4, s5, s6, s7⟩
      · refine Or.inl ⟨q1, fun s n hs hn => ?_⟩
        by_cases z : s = i
        · rw [z]; exact hno n hn
        · exact q2 s n (by omega) hn
      · refine Or.inr ⟨s, x, by omega, s2, s3, s4, s5, s6, fun s' n' hs' hw hn => ?_⟩
        by_cases z : s' = i
        · rw [z] at hw; exact absurd hw (hno n' hn)
        · exact s7 s' n' (by omega) hw hn
    rcases h30 i hi with ⟨e1, e2⟩ | ⟨x, x1, x2, x3, x4⟩
    · rw [e1, if_pos (by decide)]
      exact ⟨a, rfl, keep (fun n _ => e2 n)⟩
    · rw [x2, if_neg (r_lo' (by omega))]
      by_cases c1 : T < x
      · rw [if_pos (by rw [q_lt (by omega) (by omega)]; exact c1)]
        exact ⟨a, rfl, keep (fun n hn hw => by have := x4 n hw; omega)⟩
      · rw [if_neg (by rw [q_lt (by omega) (by omega)]; exact c1)]
        -- taking i
        have take : (∀ s' n', s' < i → wk a0 cs n' to s' → n' ≤ T → popc i < popc s' ∨ (popc i = popc s' ∧ x ≤ n')) → ((nI (popc i) = nI 8 ∧ ∀ s n, s < i + 1 → n ≤ T → ¬ wk a0 cs n to s) ∨ ∃ s x', s < i + 1 ∧ s < 128 ∧ wk a0 cs x' to s ∧ x' ≤ T ∧ nI (popc i) = nI (popc s) ∧ nI x = nI x' ∧ ∀ s' n', s' < i + 1 → wk a0 cs n' to s' → n' ≤ T → popc s < popc s' ∨ (popc s = popc s' ∧ x' ≤ n')) := by
          intro hall
          refine Or.inr ⟨i, x, by omega, hi, x3, by omega, rfl, rfl, fun s' n' hs' hw hn => ?_⟩
          by_cases z : s' = i
          · rw [z] at hw ⊢; exact Or.inr ⟨rfl, x4 n' hw⟩
          · exact hall s' n' (by omega) hw hn
        rcases hq with ⟨q1, q2⟩ | ⟨s, y, s1, s2, s3, s4, s5, s6, s7⟩
        · rw [if_pos (by rw [q1, q_lt (by omega) (by omega)]; omega)]
          exact ⟨(nI (popc i), nI x), rfl, take (fun s' n' hs' hw hn => absurd hw (q2 s' n' hs' hn))⟩
        · have hps := popc_7 s s2
          rw [s5, s6]
          by_cases c2 : popc i < popc s
          · rw [if_pos (by rw [q_lt (by omega) (by omega)]; exact c2)]
            exact ⟨(nI (popc i), nI x), rfl, take (fun s' n' hs' hw hn => by
              rcases s7 s' n' hs' hw hn with u | ⟨u, u2⟩ <;> exact Or.inl (by omega))⟩
          · rw [if_neg (by rw [q_lt (by omega) (by omega)]; exact c2)]
            -- keeping s
            have hold : (∀ n', wk a0 cs n' to i → n' ≤ T → popc s < popc i ∨ (popc s = popc i ∧ y ≤ n')) → ∃ a' : Int32 × Int32, f_X6_way_l74 (nI to) v3 (nI T) k M (nI (popc s)) (nI y) (nI (i + 1)) = f_X6_way_l74 (nI to) v3 (nI T) k M a'.1 a'.2 (nI (i + 1)) ∧ ((a'.1 = nI 8 ∧ ∀ s n, s < i + 1 → n ≤ T → ¬ wk a0 cs n to s) ∨ ∃ s x, s < i + 1 ∧ s < 128 ∧ wk a0 cs x to s ∧ x ≤ T ∧ a'.1 = nI (popc s) ∧ a'.2 = nI x ∧ ∀ s' n', s' < i + 1 → wk a0 cs n' to s' → n' ≤ T → popc s < popc s' ∨ (popc s = popc s' ∧ x ≤ n')) := by
              intro hall
              refine ⟨(nI (popc s), nI y), rfl, Or.inr ⟨s, y, by omega, s2, s3, s4, rfl, rfl, fun s' n' hs' hw hn => ?_⟩⟩
              by_cases z : s' = i
              · rw [z] at hw ⊢; exact hall n' hw hn
              · exact s7 s' n' (by omega) hw hn
            by_cases c3 : popc i = popc s
            · rw [if_pos (by rw [c3])]
              by_cases c4 : y ≤ x
              · rw [if_pos (by rw [q_le (by omega) (by omega)]; exact c4)]
                exact hold (fun n' hw hn => Or.inr ⟨c3.symm, by have := x4 n' hw; omega⟩)
              · rw [if_neg (by rw [q_le (by omega) (by omega)]; exact c4)]
                exact ⟨(nI (popc i), nI x), rfl, take (fun s' n' hs' hw hn => by
                  rcases s7 s' n' hs' hw hn with u | ⟨u, u2⟩
                  · exact Or.inl (by omega)
                  · exact Or.inr ⟨by omega, by omega⟩)⟩
            · rw [if_neg (fun z => c3 ((q_eq (by omega) (by omega)).mp z))]
              exact hold (fun n' hw hn => Or.inl (by omega))
  · show ∃ s x, best a0 to T cs s x ∧ f_X6_way_l74 (nI to) v3 (nI T) (k + 1) M a.1 a.2 (nI 128) = some (if v3 = 0 then nI (popc s) else nI x, M)
    rw [f_X6_way_l74, if_pos (by decide)]
    rcases hq with ⟨q1, q2⟩ | ⟨s, x, s1, s2, s3, s4, s5, s6, s7⟩
    · exact absurd hsw (q2 sw (stp a0 to) (hb _ _ hsw).2 (by omega))
    · refine ⟨s, x, ⟨s2, s3, s4, fun s' n' hw hn => s7 s' n' (hb _ _ hw).2 hw hn⟩, ?_⟩
      rw [s5, s6]
      by_cases z : v3 = 0
      · rw [if_pos z, if_pos z]
      · rw [if_neg z, if_neg z]
/-- the best is one, and the class finds it -/
theorem fnd_best {a0 to T H k n s x : Nat} {cs : Nat → Nat} (hH : H ≤ 7) (ha : a0 < 49) (ht : to < 49) (hc : ∀ c, cs c < 2 ^ H) (hT : T = stp a0 to + 12) (hf : fnd a0 to T H cs k n) (hb : best a0 to T cs s x) : k = popc s ∧ n = x := by
  obtain ⟨b1, b2, b3, b4⟩ := hb
  obtain ⟨f1, f2, f3⟩ := hf
  have h27 : 2 ^ H ≤ 2 ^ 7 := Nat.pow_le_pow_right (by omega) hH
  have hsH := (W_b ha hc x to s b2).2
  have hps := pop_le H (by omega) s b1 hsH
  have hPK : PK a0 to T cs (popc s) (2 ^ H) x := ⟨s, hsH, rfl, b3, s, sub_rf s, b2⟩
  have hge : k ≤ popc s := by
    apply Classical.byContradiction
    intro hn
    exact f2 (popc s) x (by omega) hPK
  rcases f3 with ⟨g1, g2⟩ | ⟨g1, g2⟩
  · obtain ⟨A, a1, a2, a3, s1, a4, a5⟩ := g2.1
    have hs1 := (W_b ha hc n to s1 a5).2
    have hp1 := (pop_sub (show s1 < 128 by omega) (show A < 128 by omega) a4).1
    have hm := b4 s1 n a5 a3
    have e : k = popc s := by omega
    refine ⟨e, ?_⟩
    have h1 : n ≤ x := g2.2 x (by rw [e]; exact hPK)
    omega
  · have e : k = popc s := by omega
    refine ⟨e, ?_⟩
    obtain ⟨s2, hs2⟩ := W_to (cs := cs) ha (stp a0 to) to ht rfl
    have h2 := (W_b ha hc _ to s2 hs2).2
    have hp2 := pop_le H (by omega) s2 (by omega) h2
    have hm := b4 s2 (stp a0 to) hs2 (by omega)
    have h3 := W_stp ha hc x to s b2
    omega
theorem ok_way (hJ : JJ M S) (a b c : Int32) : OK (f_X5_way M a b c) (fun M1 => f_X6_way M1 a b c) := by
  obtain ⟨h0, h5, hB⟩ := J_C hJ; have hf := J_f hJ; have hH := hf.1; have hW := hf.2.1.2.1
  have hH := hf.1; have hW := hf.2.1.2.1
  by_cases c1 : okv (vW (sv S)) a = true
  · by_cases c2 : okv 49 b = true
    · obtain ⟨w, hw, rfl⟩ := okv_ex (by omega) c1
      obtain ⟨d, hd, rfl⟩ := okv_ex (by omega) c2
      by_cases c3 : okv 2 c = true
      · have hc : c = 0 ∨ c = 1 := by
          obtain ⟨j, hj, rfl⟩ := okv_ex (by omega) c3
          rcases (show j = 0 ∨ j = 1 by omega) with rfl | rfl
          · exact Or.inl rfl
          · exact Or.inr rfl
        have ha := (hf.2.1.2.2.2.1 w hw).1
        obtain ⟨cs, hcs⟩ : ∃ cs : Nat → Nat, ∀ x, cs x ≤ bs (see (sv S) w x) (vH (sv S)) ∧ nI (bs (see (sv S) w x) (vH (sv S))) &&& (nI (bs (owe (sv S) 0 w) (vH (sv S))) ^^^ -1) = nI (cs x) := ⟨fun x => Classical.choose (and_dn (bs (see (sv S) w x) (vH (sv S))) (nI (bs (owe (sv S) 0 w) (vH (sv S))) ^^^ -1)), fun x => Classical.choose_spec (and_dn (bs (see (sv S) w x) (vH (sv S))) (nI (bs (owe (sv S) 0 w) (vH (sv S))) ^^^ -1))⟩
        have hcH : ∀ x, cs x < 2 ^ vH (sv S) := fun x => Nat.lt_of_le_of_lt (hcs x).1 (bs_lt _ _)
        have h27 : 2 ^ vH (sv S) ≤ 2 ^ 7 := Nat.pow_le_pow_right (by omega) hH
        have hc7 : ∀ x, cs x < 128 := fun x => Nat.lt_of_lt_of_le (hcH x) h27
        obtain ⟨A, k, n, x1, x2, x3, x4, x5⟩ := x_findS (T := stp (sv S 6 w) d + 12) (cs := cs) h0 hB hf hw hd hc7 (fun x _ => (hcs x).2) rfl
        have hx : f_X5_way M (nI w) (nI d) c = some (if c = 0 then nI k else nI n, A) := by
          unfold f_X5_way f_X5_way_j40
          rw [show f_X4_hasWalker M 1 (nI w) = nI 1 from by rw [p_hasW h5, if_pos c1], if_neg z10]
          rw [p_isCell', if_pos c2, if_neg z10, x1, q_jb, x3, x4]
          rcases hc with rfl | rfl
          · rw [if_pos rfl, if_pos rfl, if_pos rfl]
          · rw [if_neg (by decide), if_pos rfl, if_neg (by decide), if_neg (by decide)]
        refine OK_q hJ hx (fun o _ h14 _ => x2 o h14) (fun hR hg => ?_)
        obtain ⟨B, g1, g2, g3, g4⟩ := m_layWaysS (M := ju A 16 11 0 0) (RM_ct hR) hg hw hc7 (fun x _ => (hcs x).2)
        have hRB : RM (B 16) (sv S) := RM_fe (fun f hf => by rw [g3 f (by omega) (by omega) (by omega), ju_f (by omega)]) hR
        have e6 : B 16 6 w = nI (sv S 6 w) := (hRB.2.2.2.2.1 w hw).1
        obtain ⟨s, x, y1, y2⟩ := m_wayS (M := B) ha hd hc7 (T := stp (sv S 6 w) d + 12) rfl c (fun s hs => g4 d s hd hs)
        have hkn : k = popc s ∧ n = x := by
          rcases x5 with ⟨z1, z2, z3⟩ | ⟨z1, z2⟩
          · have hm := y1.2.2.2 0 0 ⟨z1.symm, rfl⟩ (by omega)
            have p0 : popc 0 = 0 := by decide
            rw [p0] at hm
            omega
          · exact fnd_best hH ha hd hcH rfl z2 y1
        refine ⟨B, ?_, hRB, fun o ho => by rw [g2 o ho, ju_ne ho], fun f hf => by unfold kp at hf; rw [g3 f (by omega) (by omega) (by omega), ju_f (by omega)]⟩
        show f_X6_way A (nI w) (nI d) c = _
        unfold f_X6_way
        rw [m_isWalker (RM_ct hR) hg, if_pos c1, if_neg z10, m_isCell, if_pos c2, if_neg z10]
        unfold f_X6_way_j25
        rw [wb_0 2 (by omega) (by decide), if_pos c3, if_pos n0, g1, q_jb, q_gd (by omega) (by omega), q_cl (by omega), e6, m_stepsOf _ ha _ hd, show (12 : Int32) = nI 12 from rfl, nI_add]
        rw [hkn.1, hkn.2]
        exact y2
      · have nn : ∀ j, j < 2 → ¬ c = nI j := fun j hj => okv_ne (by omega) c3 hj
        refine OK_ref (k := 2) (by omega) hJ ?_ (fun M1 e16 _ => ?_)
        · unfold f_X5_way
          rw [show f_X4_hasWalker M 1 (nI w) = nI 1 from by rw [p_hasW h5, if_pos c1], if_neg z10]
          rw [p_isCell', if_pos c2, if_neg z10, if_neg (show ¬ c = (0 : Int32) from nn 0 (by omega)), if_neg (show ¬ c = (1 : Int32) from nn 1 (by omega))]; rfl
        · show f_X6_way M1 (nI w) (nI d) c = _
          unfold f_X6_way
          rw [m_isWalker (J_R hJ e16) (wg_of hf), if_pos c1, if_neg z10, m_isCell, if_pos c2, if_neg z10]
          unfold f_X6_way_j25
          rw [wb_0 2 (by omega) (by decide), if_neg c3, if_neg n2]; rfl
    · refine OK_ref (k := 1) (by omega) hJ ?_ (fun M1 e16 _ => ?_)
      · unfold f_X5_way
        rw [show f_X4_hasWalker M 1 a = nI 1 from by rw [p_hasW h5, if_pos c1], if_neg z10]
        rw [p_isCell', if_neg c2, if_pos z00]; rfl
      · show f_X6_way M1 a b c = _
        unfold f_X6_way
        rw [m_isWalker (J_R hJ e16) (wg_of hf), if_pos c1, if_neg z10, m_isCell, if_neg c2, if_pos z00]
        unfold f_X6_way_j24 f_X6_way_j25
        rw [wb_no (by decide), if_neg n1]; rfl
  · refine OK_ref (k := 1) (by omega) hJ ?_ (fun M1 e16 _ => ?_)
    · unfold f_X5_way
      rw [show f_X4_hasWalker M 1 a = nI 0 from by rw [p_hasW h5, if_neg c1], if_pos z00]; rfl
    · show f_X6_way M1 a b c = _
      unfold f_X6_way
      rw [m_isWalker (J_R hJ e16) (wg_of hf), if_neg c1, if_pos z00]
      unfold f_X6_way_j24 f_X6_way_j25
      rw [wb_no (by decide), if_neg n1]; rfl
end Asks
