/-! the reference reads a statement -/
section Rd
variable {s : Nat → Nat} {len : Nat}
/-- the number told by so many digits -/
def num (s : Nat → Nat) (n p : Nat) : Nat := if n = 1 then s p - 48 else 10 * (s p - 48) + (s (p + 1) - 48)
def adv (s : Nat → Nat) (len n : Nat) (a : Nat × Bool) : Nat × Bool := if a.2 then ((ld s len n a.1).1, (ld s len n a.1).2) else a
theorem adv_app (a b p : Nat) : adv s len b (adv s len a (p, true)) = adv s len (a + b) (p, true) := by
  unfold adv
  rw [if_pos rfl, if_pos rfl]
  rw [ld_app]
theorem adv_bad (n : Nat) (a : Nat × Bool) (h : a.2 = false) : adv s len n a = a := by unfold adv; rw [h]; rfl
theorem adv_ok {n : Nat} {a : Nat × Bool} (h : (adv s len n a).2 = true) : a.2 = true := by
  cases q : a.2
  · rw [adv_bad n a q, q] at h; cases h
  · rfl
/-- where reading stands: place and whether all is well so far -/
def Pg (s : Nat → Nat) (len : Nat) (B0 B : jm) (k : Nat) (a : Nat × Bool) : Prop := B 16 15 0 = nI a.1 ∧ B 16 16 0 = nI (if a.2 then 0 else 1) ∧ a.1 ≤ len ∧ (∀ o, o ≠ 16 → B o = B0 o) ∧ (∀ f, f ≠ 15 → f ≠ 16 → f ≠ 20 → B 16 f = B0 16 f) ∧ (∀ j, (j < 3 * k ∨ 3 * k + 3 ≤ j) → B 16 20 j = B0 16 20 j) ∧ B0 16 14 0 = nI len ∧ (∀ i, i < len → B0 16 13 i = nI (s i))
theorem Pg_set {B0 B : jm} {k : Nat} {a : Nat × Bool} {p : Nat} {b : Bool} (h : Pg s len B0 B k a) (hp : p ≤ len) {x y : Int32} (hx : x = nI (if b then 0 else 1)) (hy : y = nI p) : Pg s len B0 (ju (ju B 16 16 0 x) 16 15 0 y) k (p, b) ∧ ∀ j, ju (ju B 16 16 0 x) 16 15 0 y 16 20 j = B 16 20 j := by
  obtain ⟨h1, h2, h3, h4, h5, h6, h7, h8⟩ := h
  refine ⟨⟨by rw [ju_self]; exact hy, by rw [ju_g (by omega), ju_self]; exact hx, hp, fun o ho => by rw [ju_ne ho, ju_ne ho, h4 o ho], fun f f1 f2 f3 => by rw [ju_f f1, ju_f f2, h5 f f1 f2 f3], fun j hj => by rw [ju_g (by omega), ju_g (by omega), h6 j hj], h7, h8⟩, fun j => by rw [ju_g (by omega), ju_g (by omega)]⟩
theorem m_here {B0 B : jm} {k : Nat} {a : Nat × Bool} (h : Pg s len B0 B k a) (hl : len ≤ 96) : f_X6_here B = some (if a.1 < len then nI (s a.1) else -1) := by
  obtain ⟨h1, h2, h3, h4, h5, h6, h7, h8⟩ := h
  unfold f_X6_here
  rw [h5 14 (by omega) (by omega) (by omega), h7, h1]
  by_cases c : a.1 < len
  · rw [if_neg (by rw [q_le (by omega) (by omega)]; omega), q_gd (by omega) (by omega), q_cl (by omega), h5 13 (by omega) (by omega) (by omega), h8 _ c, if_pos c]
  · rw [if_pos (by rw [q_le (by omega) (by omega)]; omega), if_neg c]
theorem m_digGood {B0 B : jm} {k kk n i : Nat} {p v : Nat} (h : Pg s len B0 B k (p, true)) (hl : len ≤ 96) (hs : ∀ i, i < len → s i < 256) (hi : i < n) (hn : n < 10) (c : isd s len p = true) (hv : v < 1000) : ∃ B', f_X6_readDigits_l4 (nI n) (kk + 1) B (nI v) (nI i) = f_X6_readDigits_l4 (nI n) kk B' (nI (10 * v + (s p - 48))) (nI (i + 1)) ∧ Pg s len B0 B' k (p + 1, true) ∧ ∀ j, B' 16 20 j = B 16 20 j := by
  have c' : p < len ∧ 48 ≤ s p ∧ s p ≤ 57 := by unfold isd at c; simpa using c
  obtain ⟨q1, q2⟩ := Pg_set (p := p + 1) (b := true) h (by omega) (x := nI 0) (y := nI p + 1) rfl (nI_add p 1)
  refine ⟨_, ?_, q1, q2⟩
  have e1 : B 16 15 0 = nI p := h.1
  have e0 : B 16 16 0 = (0 : Int32) := h.2.1
  have h13 : B 16 13 p = nI (s p) := by rw [h.2.2.2.2.1 13 (by omega) (by omega) (by omega)]; exact h.2.2.2.2.2.2.2 p c'.1
  have f15 : ∀ x, ju B 16 16 0 x 16 15 0 = nI p := fun x => by rw [ju_g (by omega)]; exact e1
  have f13 : ∀ x, ju B 16 16 0 x 16 13 p = nI (s p) := fun x => by rw [ju_g (by omega)]; exact h13
  rw [f_X6_readDigits_l4, if_neg (by rw [q_le (by omega) (by omega)]; omega), if_pos e0, m_here h hl, if_pos c'.1, q_jb, m_inDig _ (hs p c'.1), if_pos c'.2, if_neg z10]
  unfold f_X6_readDigits_j39 f_X6_readDigits_j70 jgb
  rw [if_pos (Or.inl rfl), ju_self, if_pos rfl, f15, q_gd (by omega) (by omega), q_cl (by omega), f13, if_pos rfl, show nI i + 1 = nI (i + 1) from nI_add i 1]
  have ev : 10 * nI v + nI (s p) - 48 = nI (10 * v + (s p - 48)) := by
    rw [show (10 : Int32) = nI 10 from rfl, pk_mul, nI_add, show (48 : Int32) = nI 48 from rfl, pk_sub (by omega), show 10 * v + s p - 48 = 10 * v + (s p - 48) by omega]
  rw [ev]; rfl
theorem m_digBad {B0 B : jm} {k kk n i : Nat} {a : Nat × Bool} {v : Int32} (h : Pg s len B0 B k a) (hl : len ≤ 96) (hs : ∀ i, i < len → s i < 256) (hi : i < n) (hn : n < 10) (c : a.2 = false ∨ isd s len a.1 = false) : ∃ B', f_X6_readDigits_l4 (nI n) (kk + 1) B v (nI i) = f_X6_readDigits_l4 (nI n) kk B' 0 (nI (i + 1)) ∧ Pg s len B0 B' k (a.1, false) ∧ ∀ j, B' 16 20 j = B 16 20 j := by
  obtain ⟨q1, q2⟩ := Pg_set (p := a.1) (b := false) h h.2.2.1 (x := 1) (y := nI a.1 + 0) rfl (Int32.add_zero _)
  refine ⟨_, ?_, q1, q2⟩
  have e1 : B 16 15 0 = nI a.1 := h.1
  have f15 : ∀ x, ju B 16 16 0 x 16 15 0 = nI a.1 := fun x => by rw [ju_g (by omega)]; exact e1
  have tl : f_X6_readDigits_j34 B (f_X6_readDigits_l4 (nI n) kk) (nI n) v (nI i) = f_X6_readDigits_l4 (nI n) kk (ju (ju B 16 16 0 1) 16 15 0 (nI a.1 + 0)) 0 (nI (i + 1)) := by
    unfold f_X6_readDigits_j34 f_X6_readDigits_j39 f_X6_readDigits_j70 jgb
    rw [if_pos (Or.inr rfl), ju_self, if_neg (by decide), if_neg (by decide), f15, show nI i + 1 = nI (i + 1) from nI_add i 1]
  rw [f_X6_readDigits_l4, if_neg (by rw [q_le (by omega) (by omega)]; omega)]
  by_cases z : a.2 = true
  · have c2 : isd s len a.1 = false := by
      rcases c with c | c
      · rw [c] at z; cases z
      · exact c
    have e0 : B 16 16 0 = (0 : Int32) := by rw [h.2.1, z]; rfl
    rw [if_pos e0, m_here h hl, q_jb]
    have ein : f_X6_in (Int32.toInt64 (if a.1 < len then nI (s a.1) else -1)) 48 57 = 0 := by
      by_cases y : a.1 < len
      · rw [if_pos y, m_inDig _ (hs _ y), if_neg]; rfl
        intro w
        have : isd s len a.1 = true := by unfold isd; simp; omega
        rw [c2] at this; cases this
      · rw [if_neg y]; decide
    rw [ein, if_pos rfl]
    exact tl
  · have e0 : ¬ B 16 16 0 = (0 : Int32) := by
      have : a.2 = false := by simpa using z
      rw [h.2.1, this]; decide
    rw [if_neg e0]
    exact tl
theorem m_readDigits {B0 B : jm} {k n : Nat} {a : Nat × Bool} (h : Pg s len B0 B k a) (hl : len ≤ 96) (hs : ∀ i, i < len → s i < 256) (hn : n = 1 ∨ n = 2) : ∃ v B', f_X6_readDigits B (nI n) = some (v, B') ∧ Pg s len B0 B' k (adv s len n a) ∧ (∀ j, B' 16 20 j = B 16 20 j) ∧ ((adv s len n a).2 = true → v = nI (num s n a.1)) := by
  have hend : ∀ (B : jm) (v : Int32), f_X6_readDigits_l4 (nI n) 9990 B v (nI n) = some (v, B) := fun B v => by
    rw [f_X6_readDigits_l4, if_pos (by rw [q_le (by omega) (by omega)]; omega)]
  have hend2 : ∀ (kk : Nat) (B : jm) (v : Int32), f_X6_readDigits_l4 (nI n) (kk + 1) B v (nI n) = some (v, B) := fun kk B v => by
    rw [f_X6_readDigits_l4, if_pos (by rw [q_le (by omega) (by omega)]; omega)]
  -- once it is bad it stays so
  have bad : ∀ d i kk B v a, i + d = n → d < kk → Pg s len B0 B k a → a.2 = false → ∃ v' B', f_X6_readDigits_l4 (nI n) kk B v (nI i) = some (v', B') ∧ Pg s len B0 B' k a ∧ ∀ j, B' 16 20 j = B 16 20 j := by
    intro d
    induction d with
    | zero =>
      intro i kk B v a hi hk hp ha
      obtain ⟨kk, rfl⟩ : ∃ j, kk = j + 1 := ⟨kk - 1, by omega⟩
      have e : i = n := by omega
      subst e
      exact ⟨v, B, hend2 kk B v, hp, fun j => rfl⟩
    | succ d ih =>
      intro i kk B v a hi hk hp ha
      obtain ⟨kk, rfl⟩ : ∃ j, kk = j + 1 := ⟨kk - 1, by omega⟩
      obtain ⟨B1, b1, b2, b3⟩ := m_digBad (kk := kk) (v := v) hp hl hs (show i < n by omega) (by omega) (Or.inl ha)
      have ea : (a.1, false) = a := by rw [← ha]
      rw [ea] at b2
      obtain ⟨v', B2, c1, c2, c3⟩ := ih (i + 1) kk B1 0 a (by omega) (by omega) b2 ha
      exact ⟨v', B2, by rw [b1, c1], c2, fun j => by rw [c3, b3]⟩
  unfold f_X6_readDigits
  rw [show (0 : Int32) = nI 0 from rfl]
  obtain ⟨p, b⟩ := a
  cases b
  · obtain ⟨v', B', c1, c2, c3⟩ := bad n 0 10000 B (nI 0) (p, false) (by omega) (by omega) h rfl
    have ea : adv s len n (p, false) = (p, false) := rfl
    rw [ea]
    exact ⟨v', B', c1, c2, c3, fun q => by cases q⟩
  · have ea : adv s len n (p, true) = ld s len n p := rfl
    have el : ∀ m q, ld s len (m + 1) q = if isd s len q then ld s len m (q + 1) else (q, false) := fun m q => rfl
    rw [ea]
    by_cases c : isd s len p = true
    · obtain ⟨B1, b1, b2, b3⟩ := m_digGood (kk := 9999) (n := n) (i := 0) (v := 0) h hl hs (by omega) (by omega) c (by omega)
      rw [b1]
      rcases hn with rfl | rfl
      · refine ⟨_, B1, hend2 9998 B1 _, ?_, b3, fun _ => ?_⟩
        · rw [el, if_pos c]; exact b2
        · show _ = nI (num s 1 p); unfold num; rw [if_pos rfl, Nat.mul_zero, Nat.zero_add]
      · by_cases c2 : isd s len (p + 1) = true
        · have c' : 48 ≤ s p ∧ s p ≤ 57 := by unfold isd at c; simp at c; omega
          obtain ⟨B2, d1, d2, d3⟩ := m_digGood (kk := 9998) (n := 2) (i := 1) (v := 10 * 0 + (s p - 48)) b2 hl hs (by omega) (by omega) c2 (by omega)
          refine ⟨_, B2, by rw [d1]; exact hend2 9997 B2 _, ?_, fun j => by rw [d3, b3], fun _ => ?_⟩
          · rw [el, if_pos c, el, if_pos c2]; exact d2
          · show _ = nI (num s 2 p); unfold num; rw [if_neg (by omega), Nat.mul_zero, Nat.zero_add]
        · have c3 : isd s len (p + 1) = false := by simpa using c2
          obtain ⟨B2, d1, d2, d3⟩ := m_digBad (kk := 9998) (v := nI (10 * 0 + (s p - 48))) b2 hl hs (show 1 < 2 by omega) (by omega) (Or.inr c3)
          refine ⟨0, B2, by rw [d1]; exact hend2 9997 B2 _, ?_, fun j => by rw [d3, b3], fun q => ?_⟩
          · rw [el, if_pos c, el, if_neg c2]; exact d2
          · rw [el, if_pos c, el, if_neg c2] at q; cases q
    · have c3 : isd s len p = false := by simpa using c
      obtain ⟨B1, b1, b2, b3⟩ := m_digBad (kk := 9999) (v := nI 0) h hl hs (show 0 < n by omega) (by omega) (Or.inr c3)
      obtain ⟨v', B2, d1, d2, d3⟩ := bad (n - 1) 1 9999 B1 0 (p, false) (by omega) (by omega) b2 rfl
      obtain ⟨m, rfl⟩ : ∃ m, n = m + 1 := ⟨n - 1, by omega⟩
      refine ⟨v', B2, by rw [b1]; exact d1, ?_, fun j => by rw [d3, b3], fun q => ?_⟩
      · rw [el, if_neg c]; exact d2
      · rw [el, if_neg c] at q; cases q
/-- read and put down -/
theorem m_rs {B0 B : jm} {k n : Nat} {a : Nat × Bool} (j : Nat) (h : Pg s len B0 B k a) (hl : len ≤ 96) (hs : ∀ i, i < len → s i < 256) (hn : n = 1 ∨ n = 2) (hj : j < 3) : ∃ v B', f_X6_readDigits B (nI n) = some (v, B') ∧ Pg s len B0 (ju B' 16 20 (3 * k + j) v) k (adv s len n a) ∧ ((adv s len n a).2 = true → ju B' 16 20 (3 * k + j) v 16 20 (3 * k + j) = nI (num s n a.1)) ∧ (∀ i, i ≠ 3 * k + j → ju B' 16 20 (3 * k + j) v 16 20 i = B 16 20 i) := by
  obtain ⟨v, B', e1, ⟨h1, h2, h3, h4, h5, h6, h7, h8⟩, e3, e4⟩ := m_readDigits h hl hs hn
  refine ⟨v, B', e1, ⟨by rw [ju_g (by omega)]; exact h1, by rw [ju_g (by omega)]; exact h2, h3, fun o ho => by rw [ju_ne ho, h4 o ho], fun f f1 f2 f3 => by rw [ju_f f3, h5 f f1 f2 f3], fun i hi => ?_, h7, h8⟩, fun q => by rw [ju_self]; exact e4 q, fun i hi => ?_⟩
  · rw [ju_o, if_neg (by omega)]; exact h6 i hi
  · rw [ju_o, if_neg (fun z => hi z.2), e3]
/-- the numbers of a statement, as they are put down -/
def tld (s : Nat → Nat) (B : jm) (k c p : Nat) : Prop := (c = 104 → B 16 20 (3 * k) = nI (num s 1 p) ∧ B 16 20 (3 * k + 1) = nI (num s 1 (p + 1)) ∧ B 16 20 (3 * k + 2) = nI (num s 2 (p + 2))) ∧ (c = 119 → B 16 20 (3 * k) = nI (num s 2 p) ∧ B 16 20 (3 * k + 1) = nI (num s 2 (p + 2)) ∧ B 16 20 (3 * k + 2) = nI (num s 1 (p + 4))) ∧ (c = 108 → B 16 20 (3 * k) = nI (num s 1 p)) ∧ (c = 103 → B 16 20 (3 * k) = nI (num s 1 p) ∧ B 16 20 (3 * k + 1) = nI (num s 2 (p + 1))) ∧ (c = 111 → B 16 20 (3 * k) = nI (num s 1 p) ∧ B 16 20 (3 * k + 1) = nI (num s 1 (p + 1))) ∧ (c = 101 → B 16 20 (3 * k) = nI (num s 2 p))
theorem adv_at {n : Nat} {p : Nat} (h : (adv s len n (p, true)).2 = true) : (adv s len n (p, true)).1 = p + n := (ld_ok (s := s) (len := len) n p h).1
theorem m_readNumbers {B0 B : jm} {k p : Nat} (h : Pg s len B0 B k (p, true)) (hl : len ≤ 96) (hs : ∀ i, i < len → s i < 256) (hk : k < 49) {c : Nat} (hc : dg c ≠ 0) : ∃ B', f_X6_readNumbers B (nI c) (nI (3 * k)) = some B' ∧ Pg s len B0 B' k (adv s len (dg c) (p, true)) ∧ ((adv s len (dg c) (p, true)).2 = true → tld s B' k c p) := by
  have i1 : nI (3 * k) + 1 = nI (3 * k + 1) := nI_add (3 * k) 1
  have i2 : nI (3 * k) + 2 = nI (3 * k + 2) := nI_add (3 * k) 2
  have w1 : (1 : Int32) = nI 1 := rfl
  have w2 : (2 : Int32) = nI 2 := rfl
  rcases dg_cases hc with ⟨rfl, e⟩ | ⟨rfl, e⟩ | ⟨rfl, e⟩ | ⟨rfl, e⟩ | ⟨rfl, e⟩ | ⟨rfl, e⟩
  · obtain ⟨v1, B1, a1, a2, a3, a4⟩ := m_rs (n := 1) 0 h hl hs (Or.inl rfl) (by omega)
    obtain ⟨v2, B2, b1, b2, b3, b4⟩ := m_rs (n := 1) 1 a2 hl hs (Or.inl rfl) (by omega)
    obtain ⟨v3, B3, c1, c2, c3, c4⟩ := m_rs (n := 2) 2 b2 hl hs (Or.inr rfl) (by omega)
    rw [e]
    have e12 : adv s len 1 (adv s len 1 (p, true)) = adv s len 2 (p, true) := adv_app 1 1 p
    have e123 : adv s len 2 (adv s len 1 (adv s len 1 (p, true))) = adv s len 4 (p, true) := by rw [e12]; exact adv_app 2 2 p
    refine ⟨_, ?_, by rw [← e123]; exact c2, fun q => ?_⟩
    · unfold f_X6_readNumbers f_X6_readNumbers_j23
      rw [if_neg (by decide), if_neg (by decide), w1, a1, q_jb2, q_gd (by omega) (by omega), q_cl (by omega), if_pos (by decide)]
      simp only [Nat.add_zero] at b1
      rw [← w1, i1] 
      rw [w1, b1, q_jb2, q_gd (by omega) (by omega), q_cl (by omega), i2, w2, c1, q_jb2, q_gd (by omega) (by omega), q_cl (by omega)]
    · rw [← e123] at q
      have q2 := adv_ok q
      have q1 := adv_ok q2
      refine ⟨fun _ => ⟨?_, ?_, ?_⟩, fun z => by omega, fun z => by omega, fun z => by omega, fun z => by omega, fun z => by omega⟩
      · have := a3 q1
        rw [c4 _ (by omega), b4 _ (by omega)]; exact this
      · have := b3 q2
        rw [adv_at q1] at this
        rw [c4 _ (by omega)]; exact this
      · have := c3 q
        rw [e12] at this q2
        rw [adv_at q2] at this
        exact this
  · obtain ⟨v1, B1, a1, a2, a3, a4⟩ := m_rs (n := 2) 0 h hl hs (Or.inr rfl) (by omega)
    obtain ⟨v2, B2, b1, b2, b3, b4⟩ := m_rs (n := 2) 1 a2 hl hs (Or.inr rfl) (by omega)
    obtain ⟨v3, B3, c1, c2, c3, c4⟩ := m_rs (n := 1) 2 b2 hl hs (Or.inl rfl) (by omega)
    rw [e]
    have e12 : adv s len 2 (adv s len 2 (p, true)) = adv s len 4 (p, true) := adv_app 2 2 p
    have e123 : adv s len 1 (adv s len 2 (adv s len 2 (p, true))) = adv s len 5 (p, true) := by rw [e12]; exact adv_app 4 1 p
    refine ⟨_, ?_, by rw [← e123]; exact c2, fun q => ?_⟩
    · unfold f_X6_readNumbers f_X6_readNumbers_j18 f_X6_readNumbers_j23
      rw [if_pos (by decide), w2, a1, q_jb2, q_gd (by omega) (by omega), q_cl (by omega), if_neg (by decide), if_pos (by decide)]
      simp only [Nat.add_zero] at b1
      rw [b1, q_jb2, i1, q_gd (by omega) (by omega), q_cl (by omega), ← w2, i2, w1, c1, q_jb2, q_gd (by omega) (by omega), q_cl (by omega)]
    · rw [← e123] at q
      have q2 := adv_ok q
      have q1 := adv_ok q2
      refine ⟨fun z => by omega, fun _ => ⟨?_, ?_, ?_⟩, fun z => by omega, fun z => by omega, fun z => by omega, fun z => by omega⟩
      · have := a3 q1
        rw [c4 _ (by omega), b4 _ (by omega)]; exact this
      · have := b3 q2
        rw [adv_at q1] at this
        rw [c4 _ (by omega)]; exact this
      · have := c3 q
        rw [e12] at this q2
        rw [adv_at q2] at this
        exact this
  · obtain ⟨v1, B1, a1, a2, a3, a4⟩ := m_rs (n := 1) 0 h hl hs (Or.inl rfl) (by omega)
    rw [e]
    refine ⟨_, ?_, a2, fun q => ?_⟩
    · unfold f_X6_readNumbers f_X6_readNumbers_j23
      rw [if_neg (by decide), if_neg (by decide), w1, a1, q_jb2, q_gd (by omega) (by omega), q_cl (by omega), if_neg (by decide), if_neg (by decide), if_neg (by decide), if_neg (by decide)]; rfl
    · exact ⟨fun z => by omega, fun z => by omega, fun _ => a3 q, fun z => by omega, fun z => by omega, fun z => by omega⟩
  · obtain ⟨v1, B1, a1, a2, a3, a4⟩ := m_rs (n := 1) 0 h hl hs (Or.inl rfl) (by omega)
    obtain ⟨v2, B2, b1, b2, b3, b4⟩ := m_rs (n := 2) 1 a2 hl hs (Or.inr rfl) (by omega)
    rw [e]
    have e12 : adv s len 2 (adv s len 1 (p, true)) = adv s len 3 (p, true) := adv_app 1 2 p
    refine ⟨_, ?_, by rw [← e12]; exact b2, fun q => ?_⟩
    · unfold f_X6_readNumbers f_X6_readNumbers_j23
      rw [if_neg (by decide), if_neg (by decide), w1, a1, q_jb2, q_gd (by omega) (by omega), q_cl (by omega), if_neg (by decide), if_neg (by decide), if_pos (by decide)]
      simp only [Nat.add_zero] at b1
      rw [w2, b1, q_jb2, ← w1, i1, q_gd (by omega) (by omega), q_cl (by omega)]
    · rw [← e12] at q
      have q1 := adv_ok q
      refine ⟨fun z => by omega, fun z => by omega, fun z => by omega, fun _ => ⟨?_, ?_⟩, fun z => by omega, fun z => by omega⟩
      · have := a3 q1
        rw [b4 _ (by omega)]; exact this
      · have := b3 q
        rw [adv_at q1] at this
        exact this
  · obtain ⟨v1, B1, a1, a2, a3, a4⟩ := m_rs (n := 1) 0 h hl hs (Or.inl rfl) (by omega)
    obtain ⟨v2, B2, b1, b2, b3, b4⟩ := m_rs (n := 1) 1 a2 hl hs (Or.inl rfl) (by omega)
    rw [e]
    have e12 : adv s len 1 (adv s len 1 (p, true)) = adv s len 2 (p, true) := adv_app 1 1 p
    refine ⟨_, ?_, by rw [← e12]; exact b2, fun q => ?_⟩
    · unfold f_X6_readNumbers f_X6_readNumbers_j23
      rw [if_neg (by decide), if_neg (by decide), w1, a1, q_jb2, q_gd (by omega) (by omega), q_cl (by omega), if_neg (by decide), if_neg (by decide), if_neg (by decide), if_pos (by decide)]
      simp only [Nat.add_zero] at b1
      rw [b1, q_jb2, ← w1, i1, q_gd (by omega) (by omega), q_cl (by omega)]
    · rw [← e12] at q
      have q1 := adv_ok q
      refine ⟨fun z => by omega, fun z => by omega, fun z => by omega, fun z => by omega, fun _ => ⟨?_, ?_⟩, fun z => by omega⟩
      · have := a3 q1
        rw [b4 _ (by omega)]; exact this
      · have := b3 q
        rw [adv_at q1] at this
        exact this
  · obtain ⟨v1, B1, a1, a2, a3, a4⟩ := m_rs (n := 2) 0 h hl hs (Or.inr rfl) (by omega)
    rw [e]
    refine ⟨_, ?_, a2, fun q => ?_⟩
    · unfold f_X6_readNumbers f_X6_readNumbers_j18 f_X6_readNumbers_j23
      rw [if_neg (by decide), if_pos (by decide), w2, a1, q_jb2, q_gd (by omega) (by omega), q_cl (by omega), if_neg (by decide), if_neg (by decide), if_neg (by decide), if_neg (by decide)]; rfl
    · exact ⟨fun z => by omega, fun z => by omega, fun z => by omega, fun z => by omega, fun z => by omega, fun _ => a3 q⟩
end Rd
