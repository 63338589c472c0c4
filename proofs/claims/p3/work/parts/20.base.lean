/-! plain facts: numbers, guards, folds -/
theorem q_gd {α : Type} {i n : Nat} {a : Option α} (h : i < n) (hn : n < 2 ^ 31) : jgd (nI i) n a = a := by
  unfold jgd
  rw [if_neg]
  rintro (q | q)
  · exact nI_pos (by omega) q
  · rw [nI_clamp (by omega)] at q; omega
theorem q_jb {α β : Type} {b : β} {k : β → Option α} : jb (some b) k = k b := rfl
theorem q_jb2 {α β : Type} {b : β} {N : jm} {k : β → jm → Option α} : jb2 (some (b, N)) k = k b N := rfl
theorem q_cl {n : Nat} (h : n < 2 ^ 31) : Int32.toNatClampNeg (nI n) = n := nI_clamp h
theorem q_lit (n : Nat) : (OfNat.ofNat n : Int32) = nI n := (rfl)
theorem q_le {a b : Nat} (ha : a < 2 ^ 31) (hb : b < 2 ^ 31) : nI a ≤ nI b ↔ a ≤ b := nI_leI ha hb
theorem q_lt {a b : Nat} (ha : a < 2 ^ 31) (hb : b < 2 ^ 31) : nI a < nI b ↔ a < b := nI_ltI ha hb
theorem q_eq {a b : Nat} (ha : a < 2 ^ 31) (hb : b < 2 ^ 31) : nI a = nI b ↔ a = b := nI_eq ha hb
theorem q_toInt {n : Nat} (h : n < 2 ^ 31) : (nI n).toInt = (n : Int) := nI_toInt h
theorem q_m1 (d : Nat) (h : d < 2 ^ 31) : nI d - nI 1 = -nI 1 ↔ d = 0 := by
  constructor
  · intro e
    have h2 := congrArg Int32.toInt e
    rw [show (-nI 1).toInt = -1 from rfl] at h2
    rcases Nat.eq_zero_or_pos d with q | q
    · exact q
    · rw [pk_sub q, nI_toInt (by omega)] at h2; omega
  · rintro rfl; rfl
theorem q_neg {a b : Nat} (ha : a < 2 ^ 31) (hb : 0 < b) (hb2 : b < 2 ^ 31) : ¬ nI a = -nI b := by
  intro e
  have h2 := congrArg Int32.toInt e
  rw [nI_toInt ha, sb_negT hb2] at h2
  omega
theorem q_neg_lt {a b : Nat} (ha : a < 2 ^ 31) (hb : 0 < b) (hb2 : b < 2 ^ 31) : -nI b < nI a := by
  rw [Int32.lt_iff_toInt_lt, nI_toInt ha, sb_negT hb2]; omega
theorem q_neg_le {a b : Nat} (ha : a < 2 ^ 31) (hb : 0 < b) (hb2 : b < 2 ^ 31) : ¬ nI a ≤ -nI b := by
  rw [Int32.le_iff_toInt_le, nI_toInt ha, sb_negT hb2]; omega
theorem q_all (a : Int32) : ∃ b : Nat, a = nI b := ⟨a.toBitVec.toNat, by
  apply Int32.toBitVec_inj.mp
  show a.toBitVec = BitVec.ofNat 32 a.toBitVec.toNat
  simp⟩
/-- a fold over i, i + 1, .. -/
def ff {α : Type} (f : Nat → α → α) : Nat → Nat → α → α
  | 0, _, a => a
  | d + 1, i, a => ff f d (i + 1) (f i a)
theorem ff_add {α : Type} (f : Nat → α → α) : ∀ (d e i : Nat) (a : α), ff f (d + e) i a = ff f e (i + d) (ff f d i a)
  | 0, e, i, a => by rw [Nat.zero_add, Nat.add_zero]; rfl
  | d + 1, e, i, a => by
    rw [show d + 1 + e = (d + e) + 1 by omega]
    show ff f (d + e) (i + 1) (f i a) = ff f e (i + (d + 1)) (ff f d (i + 1) (f i a))
    rw [ff_add f d e (i + 1), show i + 1 + d = i + (d + 1) by omega]
theorem ff_succ {α : Type} (f : Nat → α → α) (d i : Nat) (a : α) : ff f (d + 1) i a = f (i + d) (ff f d i a) := ff_add f d 1 i a
theorem ff_congr {α : Type} {f g : Nat → α → α} : ∀ (d i : Nat) (a : α), (∀ j, i ≤ j → j < i + d → ∀ b, f j b = g j b) → ff f d i a = ff g d i a
  | 0, _, _, _ => rfl
  | d + 1, i, a, h => by
    show ff f d (i + 1) (f i a) = ff g d (i + 1) (g i a)
    rw [h i (Nat.le_refl i) (by omega) a]
    exact ff_congr d (i + 1) _ (fun j h1 h2 b => h j (by omega) (by omega) b)
theorem ff_inv {α : Type} {f : Nat → α → α} (P : Nat → α → Prop) : ∀ (d i : Nat) (a : α), P i a → (∀ j, i ≤ j → j < i + d → ∀ b, P j b → P (j + 1) (f j b)) → P (i + d) (ff f d i a)
  | 0, _, _, h, _ => h
  | d + 1, i, a, h, hs => by
    show P (i + (d + 1)) (ff f d (i + 1) (f i a))
    rw [show i + (d + 1) = (i + 1) + d by omega]
    exact ff_inv P d (i + 1) _ (hs i (Nat.le_refl i) (by omega) a h) (fun j h1 h2 b => hs j (by omega) (by omega) b)
/-- a fold of two, side by side -/
theorem ff_rel {α β : Type} {f : Nat → α → α} {g : Nat → β → β} (P : Nat → α → β → Prop) : ∀ (d i : Nat) (a : α) (b : β), P i a b → (∀ j, i ≤ j → j < i + d → ∀ a b, P j a b → P (j + 1) (f j a) (g j b)) → P (i + d) (ff f d i a) (ff g d i b)
  | 0, _, _, _, h, _ => h
  | d + 1, i, a, b, h, hs => by
    show P (i + (d + 1)) (ff f d (i + 1) (f i a)) (ff g d (i + 1) (g i b))
    rw [show i + (d + 1) = (i + 1) + d by omega]
    exact ff_rel P d (i + 1) _ _ (hs i (Nat.le_refl i) (by omega) a b h) (fun j h1 h2 a b => hs j (by omega) (by omega) a b)
/-- a loop of a function with fuel, as a fold -/
theorem loopA {α R : Type} (L : Nat → α → Int32 → Option R) (f : Nat → α → α) (K : α → Option R) (n : Nat) (hs : ∀ k a i, i < n → L (k + 1) a (nI i) = L k (f i a) (nI (i + 1))) (he : ∀ k a, L (k + 1) a (nI n) = K a) :
    ∀ (d i k : Nat) (a : α), i + d = n → d < k → L k a (nI i) = K (ff f d i a) := by
  intro d
  induction d with
  | zero =>
    intro i k a hi hk
    obtain ⟨k, rfl⟩ : ∃ j, k = j + 1 := ⟨k - 1, by omega⟩
    have e : i = n := by omega
    subst e
    exact he k a
  | succ d ih =>
    intro i k a hi hk
    obtain ⟨k, rfl⟩ : ∃ j, k = j + 1 := ⟨k - 1, by omega⟩
    rw [hs k a i (by omega)]
    exact ih (i + 1) k _ (by omega) (by omega)
theorem loop0 {α R : Type} {L : Nat → α → Int32 → Option R} {f : Nat → α → α} {K : α → Option R} {n k : Nat} {a : α} (hs : ∀ k a i, i < n → L (k + 1) a (nI i) = L k (f i a) (nI (i + 1))) (he : ∀ k a, L (k + 1) a (nI n) = K a) (hk : n < k) : L k a (nI 0) = K (ff f n 0 a) :=
  loopA L f K n hs he n 0 k a (by omega) hk
/-- the same with an invariant -/
theorem loopI {α R : Type} (L : Nat → α → Int32 → Option R) (P : Nat → α → Prop) (f : Nat → α → α) (K : α → Option R) (n : Nat) (hs : ∀ k a i, i < n → P i a → L (k + 1) a (nI i) = L k (f i a) (nI (i + 1)) ∧ P (i + 1) (f i a)) (he : ∀ k a, P n a → L (k + 1) a (nI n) = K a) :
    ∀ (d i k : Nat) (a : α), i + d = n → d < k → P i a → L k a (nI i) = K (ff f d i a) ∧ P n (ff f d i a) := by
  intro d
  induction d with
  | zero =>
    intro i k a hi hk hp
    obtain ⟨k, rfl⟩ : ∃ j, k = j + 1 := ⟨k - 1, by omega⟩
    have e : i = n := by omega
    subst e
    exact ⟨he k a hp, hp⟩
  | succ d ih =>
    intro i k a hi hk hp
    obtain ⟨k, rfl⟩ : ∃ j, k = j + 1 := ⟨k - 1, by omega⟩
    obtain ⟨h1, h2⟩ := hs k a i (by omega) hp
    rw [h1]
    exact ih (i + 1) k _ (by omega) (by omega) h2
/-- a loop whose steps are told by what they leave: an invariant alone -/
theorem loopE {α R : Type} (L : Nat → α → Int32 → Option R) (P : Nat → α → Prop) (Z : Option R → Prop) (n : Nat) (hs : ∀ k a i, i < n → P i a → ∃ a', L (k + 1) a (nI i) = L k a' (nI (i + 1)) ∧ P (i + 1) a') (he : ∀ k a, P n a → Z (L (k + 1) a (nI n))) :
    ∀ (d i k : Nat) (a : α), i + d = n → d < k → P i a → Z (L k a (nI i)) := by
  intro d
  induction d with
  | zero =>
    intro i k a hi hk hp
    obtain ⟨k, rfl⟩ : ∃ j, k = j + 1 := ⟨k - 1, by omega⟩
    have e : i = n := by omega
    subst e
    exact he k a hp
  | succ d ih =>
    intro i k a hi hk hp
    obtain ⟨k, rfl⟩ : ∃ j, k = j + 1 := ⟨k - 1, by omega⟩
    obtain ⟨a', h1, h2⟩ := hs k a i (by omega) hp
    rw [h1]
    exact ih (i + 1) k _ (by omega) (by omega) h2
-- sums
def sm (f : Nat → Nat) : Nat → Nat
  | 0 => 0
  | n + 1 => sm f n + f n
theorem sm_congr {f g : Nat → Nat} : ∀ n, (∀ i, i < n → f i = g i) → sm f n = sm g n
  | 0, _ => rfl
  | n + 1, h => by show sm f n + f n = sm g n + g n; rw [sm_congr n (fun i hi => h i (by omega)), h n (by omega)]
theorem sm_le {f : Nat → Nat} {c : Nat} : ∀ n, (∀ i, i < n → f i ≤ c) → sm f n ≤ c * n
  | 0, _ => by show 0 ≤ _; omega
  | n + 1, h => by
    have h1 := sm_le n (fun i hi => h i (by omega))
    have h2 := h n (by omega)
    show sm f n + f n ≤ c * (n + 1)
    rw [Nat.mul_succ]; omega
theorem ff_sm (f : Nat → Nat) (a : Nat) : ∀ n, ff (fun i z => z + nI (f i)) n 0 (nI a) = nI (a + sm f n)
  | 0 => rfl
  | n + 1 => by rw [ff_succ, ff_sm f a n, Nat.zero_add, nI_add]; show nI (a + sm f n + f n) = nI (a + (sm f n + f n)); rw [Nat.add_assoc]
-- sets of bits
def bi (i : Nat) : Int32 := (nI 1) <<< (nI i &&& nI 31)
def bs (p : Nat → Bool) : Nat → Nat
  | 0 => 0
  | n + 1 => bs p n + if p n then 2 ^ n else 0
theorem bs_lt (p : Nat → Bool) : ∀ n, bs p n < 2 ^ n
  | 0 => Nat.zero_lt_one
  | n + 1 => by
    have h := bs_lt p n
    show bs p n + (if p n then 2 ^ n else 0) < 2 ^ (n + 1)
    rw [Nat.pow_succ]
    split <;> omega
theorem bs_congr {p q : Nat → Bool} : ∀ n, (∀ i, i < n → p i = q i) → bs p n = bs q n
  | 0, _ => rfl
  | n + 1, h => by show bs p n + _ = bs q n + _; rw [bs_congr n (fun i hi => h i (by omega)), h n (by omega)]
theorem bi_eq : ∀ i, i < 8 → bi i = nI (2 ^ i) := by decide +kernel
theorem bi_or {a i : Nat} (h : a < 2 ^ i) (hi : i < 8) : nI a ||| bi i = nI (a + 2 ^ i) := by
  rw [bi_eq i hi, Int32.or_comm]
  have := fa_or_sum (a := a) (k := i) 1 h
  rw [Nat.mul_one] at this
  rw [this, Nat.add_comm]
theorem ff_bs (p : Nat → Bool) : ∀ n, n ≤ 8 → ff (fun i z => if p i then z ||| bi i else z) n 0 (nI 0) = nI (bs p n)
  | 0, _ => rfl
  | n + 1, h => by
    rw [ff_succ, ff_bs p n (by omega), Nat.zero_add]
    show _ = nI (bs p n + _)
    by_cases q : p n = true
    · rw [if_pos q, if_pos q, bi_or (bs_lt p n) (by omega)]
    · rw [if_neg q, if_neg q]; rfl
def cn (p : Nat → Bool) : Nat → Nat
  | 0 => 0
  | n + 1 => cn p n + if p n then 1 else 0
theorem cn_le (p : Nat → Bool) : ∀ n, cn p n ≤ n
  | 0 => Nat.le_refl 0
  | n + 1 => by
    have h := cn_le p n
    show cn p n + _ ≤ _
    split <;> omega
theorem cn_congr {p q : Nat → Bool} : ∀ n, (∀ i, i < n → p i = q i) → cn p n = cn q n
  | 0, _ => rfl
  | n + 1, h => by show cn p n + _ = cn q n + _; rw [cn_congr n (fun i hi => h i (by omega)), h n (by omega)]
