/-! the village in numbers: f 0 0 houses, 1 kind, 2 figure, 3 cell, 4 lit, 5 0 walkers, 6 at, 7 goal, 8 sight, 10 0 evening, 20 + w: what w owes (0 nothing, else age + 1) -/
abbrev vl : Type := Nat → Nat → Nat
def vH (σ : vl) : Nat := σ 0 0
def vW (σ : vl) : Nat := σ 5 0
def rch (k f : Nat) : Nat := if k = 0 then 2 else if k = 1 then 3 else if k = 3 then 2 + f / 2 else if k = 4 then 1 else if k = 5 then 4 + f / 2 else 0
def mns (k f a : Nat) : Nat := if k = 1 then 2 * (f + 5) else if k = 2 then (f + 5) / 2 else if k = 3 then f + 5 + 20 else if k = 4 then (f + 5) / 2 + a else if k = 5 then f + 5 + 20 + 2 * a else f + 5
def ab (x y : Nat) : Nat := (x - y) + (y - x)
def stp (a b : Nat) : Nat := ab (a / 7) (b / 7) + ab (a % 7) (b % 7)
def twd (a b : Nat) : Nat := if a / 7 < b / 7 then a + 7 else if b / 7 < a / 7 then a - 7 else if a < b then a + 1 else if b < a then a - 1 else a
def rg (σ : vl) (w h : Nat) : Nat := if σ 8 w = 2 then rch (σ 1 h) (σ 2 h) else rch (σ 1 h) (σ 2 h) / 2
def see (σ : vl) (w c h : Nat) : Bool := decide (σ 4 h = 1 ∧ (σ 8 w = 2 ∨ σ 8 w = 1) ∧ stp c (σ 3 h) ≤ rg σ w h)
def pl (σ : vl) (w : Nat) : Nat → Nat
  | 0 => σ 6 w
  | k + 1 => twd (pl σ w k) (σ 7 w)
def dk (σ : vl) (w h : Nat) : Nat → Nat
  | 0 => σ (20 + w) h
  | k + 1 => if dk σ w h k = 0 then (if see σ w (pl σ w (k + 1)) h then 1 else 0) else min 100 (dk σ w h k + 1)
/-- the village's numbers are in range, of its first N houses -/
def wb (σ : vl) (N : Nat) : Prop := N ≤ 8 ∧ vW σ ≤ 6 ∧ (∀ h, h < N → σ 1 h < 6 ∧ σ 2 h < 10 ∧ σ 3 h < 49 ∧ σ 4 h ≤ 1) ∧ (∀ w, w < vW σ → σ 6 w < 49 ∧ σ 7 w < 49 ∧ σ 8 w ≤ 2) ∧ (∀ w h, σ (20 + w) h ≤ 100)
def wf (σ : vl) : Prop := vH σ ≤ 7 ∧ wb σ (vH σ) ∧ (∀ w h, (vW σ ≤ w ∨ vH σ ≤ h) → σ (20 + w) h = 0) ∧ σ 10 0 ≤ 999
theorem stp_lt : ∀ a, a < 49 → ∀ b, b < 49 → stp a b ≤ 12 := by decide +kernel
theorem twd_lt : ∀ a, a < 49 → ∀ b, b < 49 → twd a b < 49 := by decide +kernel
theorem twd_stp : ∀ a, a < 49 → ∀ b, b < 49 → stp (twd a b) b = stp a b - 1 := by decide +kernel
theorem stp_0 : ∀ a, a < 49 → ∀ b, b < 49 → (stp a b = 0 ↔ a = b) := by decide +kernel
theorem stp_sym (a b : Nat) : stp a b = stp b a := by unfold stp ab; omega
theorem twd_self (a : Nat) : twd a a = a := by unfold twd; simp
theorem rch_le : ∀ k, k < 6 → ∀ f, f < 10 → rch k f ≤ 8 := by decide +kernel
theorem mns_le {k f a : Nat} (hf : f < 10) (ha : a ≤ 100) : mns k f a ≤ 300 := by
  unfold mns
  repeat' split
  all_goals omega
theorem pl_lt {σ : vl} {N w : Nat} (h : wb σ N) (hw : w < vW σ) : ∀ k, pl σ w k < 49
  | 0 => (h.2.2.2.1 w hw).1
  | k + 1 => twd_lt _ (pl_lt h hw k) _ (h.2.2.2.1 w hw).2.1
theorem dk_le {σ : vl} {N w h : Nat} (hb : wb σ N) : ∀ k, dk σ w h k ≤ 100
  | 0 => hb.2.2.2.2 w h
  | k + 1 => by
    unfold dk
    repeat' split
    all_goals omega
-- the class's and the reference's small functions
theorem p_steps : ∀ a, a < 49 → ∀ b, b < 49 → f_X5_steps (nI a) (nI b) = nI (stp a b) := by decide +kernel
theorem p_towards : ∀ a, a < 49 → ∀ b, b < 49 → f_X5_stepTowards (nI a) (nI b) = nI (twd a b) := by decide +kernel
theorem p_reach : ∀ k, k < 6 → ∀ f, f < 10 → f_X5_reach (nI k) (nI f) = nI (rch k f) := by decide +kernel
theorem p_minutes {k f a : Nat} (hk : k < 6) (hf : f < 10) (ha : a ≤ 200) : f_X5_minutes (nI k) (nI f) (nI a) = nI (mns k f a) := by
  unfold f_X5_minutes mns
  simp (disch := omega) only [q_lit, q_eq, nI_add, pk_mul, pk_div]
  repeat' split
  all_goals rfl
theorem p_isCell (v : Int32) : f_X5_isCell v = if v < nI 0 ∨ nI 49 ≤ v then nI 0 else nI 1 := by
  unfold f_X5_isCell
  simp only [q_lit]
  by_cases h1 : v < nI 0 <;> by_cases h2 : nI 49 ≤ v <;> simp [h1, h2]
theorem m_stepsOf : ∀ a, a < 49 → ∀ b, b < 49 → f_X6_stepsOf (nI a) (nI b) = nI (stp a b) := by decide +kernel
theorem m_towards : ∀ a, a < 49 → ∀ b, b < 49 → f_X6_towards (nI a) (nI b) = nI (twd a b) := by decide +kernel
-- counting bits
def popc (x : Nat) : Nat := x % 2 + x / 2 % 2 + x / 4 % 2 + x / 8 % 2 + x / 16 % 2 + x / 32 % 2 + x / 64 % 2 + x / 128 % 2
theorem popc_add : ∀ n, n < 8 → ∀ a, a < 128 → a < 2 ^ n → popc (a + 2 ^ n) = popc a + 1 := by decide +kernel
theorem popc_bs (p : Nat → Bool) : ∀ n, n ≤ 8 → popc (bs p n) = cn p n
  | 0, _ => by show popc 0 = 0; decide
  | n + 1, h => by
    have h1 := bs_lt p n
    have h2 : 2 ^ n ≤ 2 ^ 7 := Nat.pow_le_pow_right (by decide) (by omega)
    show popc (bs p n + (if p n then 2 ^ n else 0)) = cn p n + (if p n then 1 else 0)
    by_cases q : p n = true
    · rw [if_pos q, if_pos q, popc_add n (by omega) _ (by omega) h1, popc_bs p n (by omega)]
    · rw [if_neg q, if_neg q, Nat.add_zero, Nat.add_zero, popc_bs p n (by omega)]
theorem p_bitCount0 : ∀ x, x < 256 → f_J6_bitCount_0f7a4 (nI x) = nI (popc x) := by decide +kernel
theorem p_bitCount {p : Nat → Bool} {n : Nat} (h : n ≤ 8) : f_J6_bitCount_0f7a4 (nI (bs p n)) = nI (cn p n) := by
  have h1 := bs_lt p n
  have h2 : 2 ^ n ≤ 2 ^ 8 := Nat.pow_le_pow_right (by decide) h
  rw [p_bitCount0 _ (by omega), popc_bs p n h]
theorem m_onesOf0 : ∀ x, x < 256 → f_X6_onesOf (nI x) = some (nI (popc x)) := by decide +kernel
theorem m_onesOf {p : Nat → Bool} {n : Nat} (h : n ≤ 8) : f_X6_onesOf (nI (bs p n)) = some (nI (cn p n)) := by
  have h1 := bs_lt p n
  have h2 : 2 ^ n ≤ 2 ^ 8 := Nat.pow_le_pow_right (by decide) h
  rw [m_onesOf0 _ (by omega), popc_bs p n h]
-- a bit of a number
theorem bt_1 : ∀ i, i < 32 → bt (nI 1) i = decide (i = 0) := by decide +kernel
theorem bt_bi : ∀ h, h < 8 → ∀ i, i < 32 → bt (bi h) i = decide (i = h) := by decide +kernel
theorem q_tst (x : Int32) {h : Nat} (hh : h < 8) : (x >>> (nI h &&& nI 31)) &&& nI 1 = nI 0 ↔ bt x h = false := by
  have hb : ∀ i, i < 32 → bt ((x >>> (nI h &&& nI 31)) &&& nI 1) i = (bt x h && decide (i = 0)) := by
    intro i hi
    rw [b_and, bt_1 i hi]
    rw [show (nI 31 : Int32) = 31 from rfl, b_sshr h (by omega) x hi]
    by_cases e : i = 0
    · subst e; rw [if_pos (by omega)]; simp
    · simp [e]
  constructor
  · intro e
    have := hb 0 (by omega)
    rw [e] at this
    simpa [show bt (nI 0) 0 = false from rfl] using this.symm
  · intro e
    apply b_ext
    intro i hi
    rw [hb i hi, e]
    simp [show (nI 0 : Int32) = 0 from rfl, b_0]
theorem q_or (x : Int32) {h j : Nat} (hh : h < 8) (hj : j < 8) : bt (x ||| bi h) j = (bt x j || decide (j = h)) := by rw [b_or, bt_bi h hh j (by omega)]
theorem q_xor (x : Int32) {h j : Nat} (hh : h < 8) (hj : j < 8) : bt (x ^^^ bi h) j = (bt x j ^^ decide (j = h)) := by rw [b_xor, bt_bi h hh j (by omega)]
