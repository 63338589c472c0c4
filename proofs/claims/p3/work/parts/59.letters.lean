/-! letters: what a statement is, on both sides -/
def dg (c : Nat) : Nat := if c = 104 then 4 else if c = 119 then 5 else if c = 108 then 1 else if c = 103 then 3 else if c = 111 then 2 else if c = 101 then 2 else 0
theorem dg_le (c : Nat) : dg c ≤ 5 := by
  unfold dg
  repeat' split
  all_goals omega
theorem p_digitsBehind : ∀ c, c < 256 → f_X1_digitsBehind (nI c) = nI (dg c) := by decide +kernel
theorem m_isLetter : ∀ c, c < 256 → f_X6_isLetter (nI c) = if dg c = 0 then nI 0 else nI 1 := by decide +kernel
theorem m_inDig : ∀ c, c < 256 → f_X6_in (Int32.toInt64 (nI c)) 48 57 = if 48 ≤ c ∧ c ≤ 57 then nI 1 else nI 0 := by decide +kernel
theorem dg_cases {c : Nat} (h : dg c ≠ 0) : (c = 104 ∧ dg c = 4) ∨ (c = 119 ∧ dg c = 5) ∨ (c = 108 ∧ dg c = 1) ∨ (c = 103 ∧ dg c = 3) ∨ (c = 111 ∧ dg c = 2) ∨ (c = 101 ∧ dg c = 2) := by
  unfold dg at h ⊢
  by_cases c1 : c = 104
  · subst c1; left; exact ⟨rfl, rfl⟩
  by_cases c2 : c = 119
  · subst c2; right; left; exact ⟨rfl, rfl⟩
  by_cases c3 : c = 108
  · subst c3; right; right; left; exact ⟨rfl, rfl⟩
  by_cases c4 : c = 103
  · subst c4; right; right; right; left; exact ⟨rfl, rfl⟩
  by_cases c5 : c = 111
  · subst c5; right; right; right; right; left; exact ⟨rfl, rfl⟩
  by_cases c6 : c = 101
  · subst c6; right; right; right; right; right; exact ⟨rfl, rfl⟩
  rw [if_neg c1, if_neg c2, if_neg c3, if_neg c4, if_neg c5, if_neg c6] at h
  exact absurd rfl h
section Let
variable (s : Nat → Nat) (len : Nat)
def isd (q : Nat) : Bool := decide (q < len ∧ 48 ≤ s q ∧ s q ≤ 57)
/-- so many digits from q: the place behind the last one read, and whether all were there -/
def ld : Nat → Nat → Nat × Bool
  | 0, q => (q, true)
  | n + 1, q => if isd s len q then ld n (q + 1) else (q, false)
/-- the statement at p: the place behind it, or the first letter with which it can't go on -/
def sc (p : Nat) : Nat × Bool := if p < len ∧ dg (s p) ≠ 0 then (if (ld s len (dg (s p)) (p + 1)).2 then (if (ld s len (dg (s p)) (p + 1)).1 < len ∧ s (ld s len (dg (s p)) (p + 1)).1 = 59 then ((ld s len (dg (s p)) (p + 1)).1 + 1, true) else ((ld s len (dg (s p)) (p + 1)).1, false)) else ld s len (dg (s p)) (p + 1)) else (p, false)
def pc : Nat → Nat
  | 0 => 0
  | j + 1 => (sc s len (pc j)).1
end Let
section Let2
variable {s : Nat → Nat} {len : Nat}
theorem ld_ok : ∀ n q, (ld s len n q).2 = true → (ld s len n q).1 = q + n ∧ ∀ j, j < n → isd s len (q + j) = true
  | 0, q, _ => ⟨rfl, fun j hj => by omega⟩
  | n + 1, q, h => by
    unfold ld at h ⊢
    split at h
    · rename_i c
      obtain ⟨h1, h2⟩ := ld_ok n (q + 1) h
      rw [if_pos c]
      refine ⟨by omega, fun j hj => ?_⟩
      by_cases e : j = 0
      · subst e; exact c
      · have := h2 (j - 1) (by omega)
        rwa [show q + 1 + (j - 1) = q + j by omega] at this
    · cases h
theorem ld_le : ∀ n q, q ≤ len → q ≤ (ld s len n q).1 ∧ (ld s len n q).1 ≤ len
  | 0, q, h => ⟨Nat.le_refl q, h⟩
  | n + 1, q, h => by
    unfold ld
    split
    · rename_i c
      have c' : q < len := by unfold isd at c; simp only [decide_eq_true_eq] at c; exact c.1
      have := ld_le n (q + 1) (by omega)
      omega
    · exact ⟨Nat.le_refl q, h⟩
theorem ld_app (a b q : Nat) : ld s len (a + b) q = if (ld s len a q).2 then ld s len b (ld s len a q).1 else ld s len a q := by
  induction a generalizing q with
  | zero => rw [Nat.zero_add]; rfl
  | succ a ih =>
    rw [show a + 1 + b = (a + b) + 1 by omega]
    have e : ∀ m, ld s len (m + 1) q = if isd s len q then ld s len m (q + 1) else (q, false) := fun m => rfl
    rw [e, e]
    by_cases c : isd s len q = true
    · rw [if_pos c, if_pos c]; exact ih (q + 1)
    · rw [if_neg c, if_neg c, if_neg (show ¬ (q, false).2 = true from fun z => Bool.noConfusion z)]
theorem sc_le {p : Nat} (hp : p ≤ len) : p ≤ (sc s len p).1 ∧ (sc s len p).1 ≤ len := by
  unfold sc
  by_cases c : p < len ∧ dg (s p) ≠ 0
  · rw [if_pos c]
    have := ld_le (s := s) (len := len) (dg (s p)) (p + 1) (by omega)
    by_cases c2 : (ld s len (dg (s p)) (p + 1)).2 = true
    · rw [if_pos c2]
      by_cases c3 : (ld s len (dg (s p)) (p + 1)).1 < len ∧ s (ld s len (dg (s p)) (p + 1)).1 = 59
      · rw [if_pos c3]
        show p ≤ _ + 1 ∧ _ + 1 ≤ len
        omega
      · rw [if_neg c3]
        show p ≤ (ld s len (dg (s p)) (p + 1)).1 ∧ (ld s len (dg (s p)) (p + 1)).1 ≤ len
        omega
    · rw [if_neg c2]; omega
  · rw [if_neg c]; exact ⟨Nat.le_refl p, hp⟩
/-- a statement that is one -/
theorem sc_ok {p : Nat} (h : (sc s len p).2 = true) : p < len ∧ dg (s p) ≠ 0 ∧ (sc s len p).1 = p + dg (s p) + 2 ∧ p + dg (s p) + 1 < len ∧ s (p + dg (s p) + 1) = 59 ∧ ∀ j, j < dg (s p) → isd s len (p + 1 + j) = true := by
  unfold sc at h ⊢
  by_cases c : p < len ∧ dg (s p) ≠ 0
  · rw [if_pos c] at h ⊢
    by_cases c2 : (ld s len (dg (s p)) (p + 1)).2 = true
    · rw [if_pos c2] at h ⊢
      obtain ⟨h1, h2⟩ := ld_ok _ _ c2
      by_cases c3 : (ld s len (dg (s p)) (p + 1)).1 < len ∧ s (ld s len (dg (s p)) (p + 1)).1 = 59
      · rw [if_pos c3]
        rw [h1] at c3 ⊢
        rw [show p + 1 + dg (s p) = p + dg (s p) + 1 by omega] at c3 ⊢
        exact ⟨c.1, c.2, rfl, c3.1, c3.2, h2⟩
      · rw [if_neg c3] at h; cases h
    · rw [if_neg c2] at h; exact absurd h c2
  · rw [if_neg c] at h; cases h
theorem pc_ge : ∀ k, (∀ j, j < k → (sc s len (pc s len j)).2 = true) → pc s len k ≤ len ∧ 3 * k ≤ pc s len k
  | 0, _ => ⟨Nat.zero_le _, Nat.zero_le _⟩
  | k + 1, h => by
    have h1 := pc_ge k (fun j hj => h j (by omega))
    have h2 := sc_ok (h k (by omega))
    have h3 := sc_le (s := s) (len := len) (p := pc s len k) h1.1
    show (sc s len (pc s len k)).1 ≤ len ∧ 3 * (k + 1) ≤ (sc s len (pc s len k)).1
    omega
/-- how many statements there are ahead of the end or of the first fault -/
theorem pc_stop (hl : len ≤ 96) : ∃ N, N ≤ 32 ∧ (∀ j, j < N → pc s len j < len ∧ (sc s len (pc s len j)).2 = true) ∧ pc s len N ≤ len ∧ ((0 < N ∧ pc s len N = len) ∨ (sc s len (pc s len N)).2 = false) := by
  obtain ⟨N, h1, h2⟩ := pk_least (fun k => ¬ (pc s len k < len ∧ (sc s len (pc s len k)).2 = true)) (by
    apply Classical.byContradiction
    intro hn
    have hall : ∀ k, pc s len k < len ∧ (sc s len (pc s len k)).2 = true := fun k => Classical.byContradiction (fun q => hn ⟨k, q⟩)
    have := pc_ge (s := s) (len := len) 97 (fun j _ => (hall j).2)
    omega)
  have h2 : ∀ j, j < N → pc s len j < len ∧ (sc s len (pc s len j)).2 = true := fun j hj => Classical.byContradiction (h2 j hj)
  have h3 := pc_ge (s := s) (len := len) N (fun j hj => (h2 j hj).2)
  refine ⟨N, by omega, h2, h3.1, ?_⟩
  by_cases c : pc s len N < len
  · right
    cases q : (sc s len (pc s len N)).2
    · rfl
    · exact absurd ⟨c, q⟩ h1
  · by_cases n0 : 0 < N
    · left; exact ⟨n0, by omega⟩
    · right
      cases q : (sc s len (pc s len N)).2
      · rfl
      · exact absurd (sc_ok q).1 (by omega)
end Let2
section X1
variable {s : Nat → Nat} {len : Nat} {M : jm}
theorem x_l6d (h1 : M 13 1 0 = nI len) (h0 : ∀ i, i < len → M 13 0 i = nI (s i)) (hs : ∀ i, i < len → s i < 256) (hl : len ≤ 96) : ∀ n q f, q ≤ len → len - q < f → n ≤ 5 → f_X1_firstMisspelt_l6 M f 1 (nI n) (nI q) = if (ld s len n q).2 then (if (ld s len n q).1 < len ∧ s (ld s len n q).1 = 59 then f_X1_firstMisspelt_l6 M (f - n - 1) 0 0 (nI ((ld s len n q).1 + 1)) else some (nI (ld s len n q).1)) else some (nI (ld s len n q).1) := by
  intro n
  induction n with
  | zero =>
    intro q f hq hf hn
    obtain ⟨f, rfl⟩ : ∃ j, f = j + 1 := ⟨f - 1, by omega⟩
    unfold ld
    rw [if_pos rfl, f_X1_firstMisspelt_l6, h1]
    show _ = (if q < len ∧ s q = 59 then f_X1_firstMisspelt_l6 M (f + 1 - 0 - 1) 0 0 (nI (q + 1)) else some (nI q))
    by_cases c : q < len
    · have hq2 := hs q c
      rw [if_neg (by rw [q_le (by omega) (by omega)]; omega), q_gd (by omega) (by omega), q_cl (by omega), h0 q c, if_neg (by decide), if_pos (by decide), show nI q + 1 = nI (q + 1) from nI_add q 1]
      by_cases c2 : s q = 59
      · rw [if_pos (by rw [c2]; rfl), if_pos ⟨c, c2⟩]; rfl
      · rw [if_neg (by rw [show (59 : Int32) = nI 59 from rfl, q_eq (by omega) (by omega)]; exact c2), if_neg (fun z => c2 z.2)]
    · rw [if_pos (by rw [q_le (by omega) (by omega)]; omega), if_neg (by decide), if_neg (fun z => c z.1), show q = len by omega]
  | succ n ih =>
    intro q f hq hf hn
    obtain ⟨f, rfl⟩ : ∃ j, f = j + 1 := ⟨f - 1, by omega⟩
    unfold ld
    rw [f_X1_firstMisspelt_l6, h1]
    by_cases c : q < len
    · have hq2 := hs q c
      rw [if_neg (by rw [q_le (by omega) (by omega)]; omega), q_gd (by omega) (by omega), q_cl (by omega), h0 q c, if_neg (by decide), if_neg (by rw [show (0 : Int32) = nI 0 from rfl, q_le (by omega) (by omega)]; omega), show nI q + 1 = nI (q + 1) from nI_add q 1, pk_m1 n]
      by_cases c2 : s q < 48
      · rw [if_pos (by rw [show (48 : Int32) = nI 48 from rfl, q_lt (by omega) (by omega)]; exact c2), if_neg (show ¬ isd s len q = true by unfold isd; simp; omega), if_neg (show ¬ (q, false).2 = true from fun z => Bool.noConfusion z)]
      · rw [if_neg (by rw [show (48 : Int32) = nI 48 from rfl, q_lt (by omega) (by omega)]; exact c2)]
        by_cases c3 : s q ≤ 57
        · rw [if_pos (by rw [show (57 : Int32) = nI 57 from rfl, q_le (by omega) (by omega)]; exact c3), if_pos (show isd s len q = true by unfold isd; simp; omega), ih (q + 1) f (by omega) (by omega) (by omega), show f + 1 - (n + 1) - 1 = f - n - 1 by omega]
        · rw [if_neg (by rw [show (57 : Int32) = nI 57 from rfl, q_le (by omega) (by omega)]; exact c3), if_neg (show ¬ isd s len q = true by unfold isd; simp; omega), if_neg (show ¬ (q, false).2 = true from fun z => Bool.noConfusion z)]
    · rw [if_pos (by rw [q_le (by omega) (by omega)]; omega), if_neg (by decide), if_neg (show ¬ isd s len q = true by unfold isd; simp; omega), if_neg (show ¬ (q, false).2 = true from fun z => Bool.noConfusion z), show q = len by omega]
theorem x_l6s (h1 : M 13 1 0 = nI len) (h0 : ∀ i, i < len → M 13 0 i = nI (s i)) (hs : ∀ i, i < len → s i < 256) (hl : len ≤ 96) {p f : Nat} (hp : p < len) (hf : len - p < f) : f_X1_firstMisspelt_l6 M f 0 0 (nI p) = if (sc s len p).2 then f_X1_firstMisspelt_l6 M (f - ((sc s len p).1 - p)) 0 0 (nI (sc s len p).1) else some (nI (sc s len p).1) := by
  obtain ⟨f, rfl⟩ : ∃ j, f = j + 1 := ⟨f - 1, by omega⟩
  have hp2 := hs p hp
  have hd := dg_le (s p)
  rw [f_X1_firstMisspelt_l6, h1, if_neg (by rw [q_le (by omega) (by omega)]; omega), q_gd (by omega) (by omega), q_cl (by omega), h0 p hp, if_pos (by decide), p_digitsBehind _ hp2, show nI p + 1 = nI (p + 1) from nI_add p 1]
  by_cases c : dg (s p) = 0
  · have e : sc s len p = (p, false) := by unfold sc; rw [if_neg (fun z => z.2 c)]
    rw [if_pos (by rw [c]; rfl), e]; rfl
  · rw [if_neg (by rw [show (0 : Int32) = nI 0 from rfl, q_eq (by omega) (by omega)]; exact c), x_l6d h1 h0 hs hl (dg (s p)) (p + 1) f (by omega) (by omega) (by omega)]
    unfold sc
    rw [if_pos (show p < len ∧ dg (s p) ≠ 0 from ⟨hp, c⟩)]
    by_cases c2 : (ld s len (dg (s p)) (p + 1)).2 = true
    · rw [if_pos c2, if_pos c2]
      obtain ⟨e1, -⟩ := ld_ok _ _ c2
      by_cases c3 : (ld s len (dg (s p)) (p + 1)).1 < len ∧ s (ld s len (dg (s p)) (p + 1)).1 = 59
      · rw [if_pos c3, if_pos c3]
        show _ = f_X1_firstMisspelt_l6 M (f + 1 - ((ld s len (dg (s p)) (p + 1)).1 + 1 - p)) 0 0 _
        rw [show f + 1 - ((ld s len (dg (s p)) (p + 1)).1 + 1 - p) = f - dg (s p) - 1 by omega]
      · rw [if_neg c3, if_neg c3]; rfl
    · rw [if_neg c2, if_neg c2, if_neg c2]
/-- the class's first look at the letters -/
theorem x_first (h1 : M 13 1 0 = nI len) (h0 : ∀ i, i < len → M 13 0 i = nI (s i)) (hs : ∀ i, i < len → s i < 256) (hl : len ≤ 96) {N : Nat} (hN : ∀ j, j < N → pc s len j < len ∧ (sc s len (pc s len j)).2 = true) (hp : pc s len N ≤ len) : ((0 < N ∧ pc s len N = len) → f_X1_firstMisspelt M = some (-9)) ∧ ((sc s len (pc s len N)).2 = false → ¬ (0 < N ∧ pc s len N = len) → f_X1_firstMisspelt M = some (nI (sc s len (pc s len N)).1)) := by
  have go : ∀ j, j ≤ N → f_X1_firstMisspelt M = f_X1_firstMisspelt_l6 M (10000 - pc s len j) 0 0 (nI (pc s len j)) := by
    intro j
    induction j with
    | zero => intro _; rfl
    | succ j ih =>
      intro hj
      obtain ⟨g1, g2⟩ := hN j (by omega)
      have g3 := sc_le (s := s) (len := len) (p := pc s len j) (by omega)
      rw [ih (by omega), x_l6s h1 h0 hs hl g1 (by omega), if_pos g2]
      show _ = f_X1_firstMisspelt_l6 M (10000 - (sc s len (pc s len j)).1) 0 0 (nI (sc s len (pc s len j)).1)
      rw [show 10000 - pc s len j - ((sc s len (pc s len j)).1 - pc s len j) = 10000 - (sc s len (pc s len j)).1 by omega]
  have e := go N (Nat.le_refl N)
  have end0 : pc s len N = len → f_X1_firstMisspelt M = if len = 0 then some (nI 0) else some (-9) := by
    intro ep
    obtain ⟨k, hk⟩ : ∃ k, 10000 - pc s len N = k + 1 := ⟨10000 - pc s len N - 1, by omega⟩
    rw [e, hk, f_X1_firstMisspelt_l6, h1, ep, if_pos (by rw [q_le (by omega) (by omega)]; omega), if_pos (by decide)]
    by_cases z : len = 0
    · rw [if_pos (by rw [z]; rfl), if_pos z, z]
    · rw [if_neg (by rw [show (0 : Int32) = nI 0 from rfl, q_eq (by omega) (by omega)]; exact z), if_neg z]
  constructor
  · rintro ⟨n0, ep⟩
    rw [end0 ep, if_neg]
    have := (hN 0 n0).1
    omega
  · intro hb hn
    by_cases ep : pc s len N = len
    · have N0 : N = 0 := by
        rcases Nat.eq_zero_or_pos N with z | z
        · exact z
        · exact absurd ⟨z, ep⟩ hn
      have l0 : len = 0 := by rw [N0] at ep; exact ep.symm
      rw [end0 ep, if_pos l0]
      have : (sc s len (pc s len N)).1 = 0 := by
        unfold sc
        rw [if_neg (fun z => by omega), ep, l0]
      rw [this]
    · rw [e, x_l6s h1 h0 hs hl (by omega) (by omega), if_neg (by rw [hb]; simp)]
end X1
