/-! the reference reads all statements -/
section Rs
variable {s : Nat → Nat} {len : Nat}
def Hd (s : Nat → Nat) (len : Nat) (B0 B : jm) (k p : Nat) : Prop := B 16 15 0 = nI p ∧ B 16 16 0 = nI 0 ∧ B 16 17 0 = nI k ∧ p ≤ len ∧ (∀ o, o ≠ 16 → B o = B0 o) ∧ (∀ f, (f < 15 ∨ 20 < f) → B 16 f = B0 16 f) ∧ B0 16 14 0 = nI len ∧ (∀ i, i < len → B0 16 13 i = nI (s i)) ∧ (∀ j, j < k → B 16 18 j = nI (pc s len j) ∧ B 16 19 j = nI (s (pc s len j)) ∧ tld s B j (s (pc s len j)) (pc s len j + 1))
theorem m_j103 {B : jm} {q : Nat} (h : B 16 15 0 = nI q) : ∃ B', f_X6_readStatement_j103 B = some B' ∧ B' 16 15 0 = nI q ∧ B' 16 16 0 = nI 1 ∧ (∀ o, o ≠ 16 → B' o = B o) ∧ (∀ f, f ≠ 15 → f ≠ 16 → f ≠ 17 → B' 16 f = B 16 f) := by
  refine ⟨ju (ju (ju B 16 16 0 1) 16 15 0 (nI q)) 16 17 0 (B 16 17 0 + 1), ?_, by rw [ju_g (by omega), ju_self], by rw [ju_g (by omega), ju_g (by omega), ju_self]; rfl, fun o ho => by rw [ju_ne ho, ju_ne ho, ju_ne ho], fun f f1 f2 f3 => by rw [ju_f f3, ju_f f1, ju_f f2]⟩
  have e1 : ju B 16 16 0 1 16 15 0 + 0 = nI q := by rw [ju_g (by omega), h]; exact Int32.add_zero _
  have e2 : ∀ x y, ju (ju B 16 16 0 x) 16 15 0 y 16 17 0 = B 16 17 0 := fun x y => by rw [ju_g (by omega), ju_g (by omega)]
  unfold f_X6_readStatement_j103 f_X6_readStatement_j108 jgb
  rw [if_pos (Or.inr rfl), ju_self, if_neg (by decide), e1, e2]
theorem m_j108 {B : jm} {q k : Nat} (h : B 16 15 0 = nI q) (hk : B 16 17 0 = nI k) : ∃ B', f_X6_readStatement_j108 B 0 = some B' ∧ B' 16 15 0 = nI (q + 1) ∧ B' 16 16 0 = nI 0 ∧ B' 16 17 0 = nI (k + 1) ∧ (∀ o, o ≠ 16 → B' o = B o) ∧ (∀ f, f ≠ 15 → f ≠ 16 → f ≠ 17 → B' 16 f = B 16 f) := by
  refine ⟨ju (ju (ju B 16 16 0 0) 16 15 0 (nI (q + 1))) 16 17 0 (nI (k + 1)), ?_, by rw [ju_g (by omega), ju_self], by rw [ju_g (by omega), ju_g (by omega), ju_self]; rfl, by rw [ju_self], fun o ho => by rw [ju_ne ho, ju_ne ho, ju_ne ho], fun f f1 f2 f3 => by rw [ju_f f3, ju_f f1, ju_f f2]⟩
  have e1 : ju B 16 16 0 0 16 15 0 + 1 = nI (q + 1) := by rw [ju_g (by omega), h]; exact nI_add q 1
  have e2 : ∀ x y, ju (ju B 16 16 0 x) 16 15 0 y 16 17 0 + 1 = nI (k + 1) := fun x y => by rw [ju_g (by omega), ju_g (by omega), hk]; exact nI_add k 1
  unfold f_X6_readStatement_j108 jgb
  rw [if_pos (Or.inl rfl), ju_self, if_pos rfl, e1, e2]
/-- what reading one statement leaves -/
theorem m_readSt {B0 B : jm} {k p : Nat} (h : Hd s len B0 B k p) (hl : len ≤ 96) (hs : ∀ i, i < len → s i < 256) (hk : k < 49) : ∃ B', f_X6_readStatement B = some B' ∧ B' 16 15 0 = nI (sc s len p).1 ∧ B' 16 16 0 = nI (if (sc s len p).2 then 0 else 1) ∧ (∀ o, o ≠ 16 → B' o = B0 o) ∧ (∀ f, (f < 15 ∨ 20 < f) → B' 16 f = B0 16 f) ∧ ((sc s len p).2 = true → B' 16 17 0 = nI (k + 1) ∧ (∀ j, j < k → B' 16 18 j = B 16 18 j ∧ B' 16 19 j = B 16 19 j) ∧ (∀ i, i < 3 * k → B' 16 20 i = B 16 20 i) ∧ B' 16 18 k = nI p ∧ B' 16 19 k = nI (s p) ∧ tld s B' k (s p) (p + 1)) := by
  obtain ⟨h15, h16, h17, hp, ho, hf, h14, h13, -⟩ := h
  have e14 : B 16 14 0 = nI len := by rw [hf 14 (by omega)]; exact h14
  have ehere : f_X6_here B = some (if p < len then nI (s p) else -1) := by
    unfold f_X6_here
    rw [e14, h15]
    by_cases c : p < len
    · rw [if_neg (by rw [q_le (by omega) (by omega)]; omega), q_gd (by omega) (by omega), q_cl (by omega), hf 13 (by omega), h13 _ c, if_pos c]
    · rw [if_pos (by rw [q_le (by omega) (by omega)]; omega), if_neg c]
  obtain ⟨r1, hr1⟩ : ∃ r, r = (if p < len then nI (s p) else -1) := ⟨_, rfl⟩
  rw [← hr1] at ehere
  obtain ⟨B1, hB1⟩ : ∃ B1, B1 = ju (ju B 16 18 k (nI p)) 16 19 k r1 := ⟨_, rfl⟩
  have o1 : ∀ o, o ≠ 16 → B1 o = B0 o := fun o q => by rw [hB1, ju_ne q, ju_ne q, ho o q]
  have f1 : ∀ f, f ≠ 18 → f ≠ 19 → B1 16 f = B 16 f := fun f q1 q2 => by rw [hB1, ju_f q2, ju_f q1]
  have b18 : ∀ j, B1 16 18 j = if j = k then nI p else B 16 18 j := fun j => by
    rw [hB1, ju_g (by omega), ju_o]
    by_cases z : j = k
    · rw [if_pos ⟨rfl, z⟩, if_pos z]
    · rw [if_neg (fun y => z y.2), if_neg z]
  have b19 : ∀ j, B1 16 19 j = if j = k then r1 else B 16 19 j := fun j => by
    rw [hB1, ju_o]
    by_cases z : j = k
    · rw [if_pos ⟨rfl, z⟩, if_pos z]
    · rw [if_neg (fun y => z y.2), if_neg z, ju_g (by omega)]
  have st : f_X6_readStatement B = (if f_X6_isLetter r1 = 0 then f_X6_readStatement_j42 B1 (nI k) r1 else f_X6_readStatement_j47 B1 (nI k) r1 0) := by
    unfold f_X6_readStatement
    rw [ehere, q_jb, h17, q_gd (by omega) (by omega), q_gd (by omega) (by omega), q_cl (by omega), h15, ← hB1, f1 16 (by omega) (by omega), h16, if_pos (show (nI 0 : Int32) = 0 from rfl)]
  rw [st]
  -- a letter that begins none
  have no : (sc s len p) = (p, false) → ∃ B', f_X6_readStatement_j42 B1 (nI k) r1 = some B' ∧ B' 16 15 0 = nI (sc s len p).1 ∧ B' 16 16 0 = nI (if (sc s len p).2 then 0 else 1) ∧ (∀ o, o ≠ 16 → B' o = B0 o) ∧ (∀ f, (f < 15 ∨ 20 < f) → B' 16 f = B0 16 f) := by
    intro e
    have w15 : ju (ju B1 16 16 0 1) 16 15 0 (nI p + 0) 16 15 0 = nI p := by rw [ju_self]; exact Int32.add_zero _
    obtain ⟨B', c1, c2, c3, c4, c5⟩ := m_j103 w15
    refine ⟨B', ?_, by rw [e]; exact c2, by rw [e]; exact c3, fun o q => by rw [c4 o q, ju_ne q, ju_ne q, o1 o q], fun f q => by rw [c5 f (by omega) (by omega) (by omega), ju_f (by omega), ju_f (by omega), f1 f (by omega) (by omega), hf f q]⟩
    unfold f_X6_readStatement_j42 f_X6_readStatement_j47 jgb
    have e15 : ju B1 16 16 0 1 16 15 0 = nI p := by rw [ju_g (by omega), f1 15 (by omega) (by omega), h15]
    have e16 : ∀ y, ju (ju B1 16 16 0 1) 16 15 0 y 16 16 0 = 1 := fun y => by rw [ju_g (by omega), ju_self]
    rw [if_pos (Or.inr rfl), ju_self, if_neg (by decide), e15]
    unfold f_X6_readStatement_j67 f_X6_readStatement_j86
    rw [e16, if_neg (by decide), if_neg (by decide)]
    exact c1
  by_cases c : p < len
  · have hp2 := hs p c
    have er : r1 = nI (s p) := by rw [hr1, if_pos c]
    rw [er, m_isLetter _ hp2]
    by_cases c2 : dg (s p) = 0
    · have e : sc s len p = (p, false) := by unfold sc; rw [if_neg (fun z => z.2 c2)]
      rw [if_pos c2, if_pos z00, ← er]
      obtain ⟨B', g1, g2, g3, g4, g5⟩ := no e
      exact ⟨B', g1, g2, g3, g4, g5, fun z => by rw [e] at z; cases z⟩
    · rw [if_neg c2, if_neg z10]
      obtain ⟨B3, hB3⟩ : ∃ B3, B3 = ju (ju B1 16 16 0 0) 16 15 0 (nI p + 1) := ⟨_, rfl⟩
      have o3 : ∀ o, o ≠ 16 → B3 o = B0 o := fun o q => by rw [hB3, ju_ne q, ju_ne q, o1 o q]
      have f3 : ∀ f, f ≠ 15 → f ≠ 16 → B3 16 f = B1 16 f := fun f q1 q2 => by rw [hB3, ju_f q1, ju_f q2]
      have pg : Pg s len B3 B3 k (p + 1, true) := ⟨by rw [hB3, ju_self]; exact nI_add p 1, by rw [hB3, ju_g (by omega), ju_self]; rfl, by show p + 1 ≤ len; omega, fun _ _ => rfl, fun _ _ _ _ => rfl, fun _ _ => rfl, by rw [f3 14 (by omega) (by omega), f1 14 (by omega) (by omega)]; exact e14, fun i hi => by rw [f3 13 (by omega) (by omega), f1 13 (by omega) (by omega), hf 13 (by omega)]; exact h13 i hi⟩
      obtain ⟨B4, r1', r2, r3⟩ := m_readNumbers pg hl hs hk (c := s p) c2
      have ea : adv s len (dg (s p)) (p + 1, true) = ld s len (dg (s p)) (p + 1) := rfl
      rw [ea] at r2 r3
      obtain ⟨p15, p16, ple, po, pf, p20, -, -⟩ := id r2
      have j47 : f_X6_readStatement_j47 B1 (nI k) (nI (s p)) 0 = f_X6_readStatement_j86 B4 := by
        unfold f_X6_readStatement_j47 jgb
        have e15 : ju B1 16 16 0 0 16 15 0 = nI p := by rw [ju_g (by omega), f1 15 (by omega) (by omega), h15]
        rw [if_pos (Or.inl rfl), ju_self, if_pos rfl, e15]
        unfold f_X6_readStatement_j67
        rw [← hB3, show B3 16 16 0 = 0 from pg.2.1, if_pos rfl, show (3 : Int32) = nI 3 from rfl, pk_mul, r1', q_jb]
      rw [j47]
      have k17 : B4 16 17 0 = nI k := by rw [pf 17 (by omega) (by omega) (by omega), f3 17 (by omega) (by omega), f1 17 (by omega) (by omega)]; exact h17
      have bad : (sc s len p).2 = false → (sc s len p).1 = (ld s len (dg (s p)) (p + 1)).1 → f_X6_readStatement_j86 B4 = f_X6_readStatement_j103 B4 → ∃ B', f_X6_readStatement_j86 B4 = some B' ∧ B' 16 15 0 = nI (sc s len p).1 ∧ B' 16 16 0 = nI (if (sc s len p).2 then 0 else 1) ∧ (∀ o, o ≠ 16 → B' o = B0 o) ∧ (∀ f, (f < 15 ∨ 20 < f) → B' 16 f = B0 16 f) ∧ ((sc s len p).2 = true → B' 16 17 0 = nI (k + 1) ∧ (∀ j, j < k → B' 16 18 j = B 16 18 j ∧ B' 16 19 j = B 16 19 j) ∧ (∀ i, i < 3 * k → B' 16 20 i = B 16 20 i) ∧ B' 16 18 k = nI p ∧ B' 16 19 k = nI (s p) ∧ tld s B' k (s p) (p + 1)) := by
        intro x1 x2 x3
        obtain ⟨B', c1, c2, c3, c4, c5⟩ := m_j103 p15
        refine ⟨B', by rw [x3, c1], by rw [x2]; exact c2, by rw [x1]; exact c3, fun o q => by rw [c4 o q, po o q, o3 o q], fun f q => by rw [c5 f (by omega) (by omega) (by omega), pf f (by omega) (by omega) (by omega), f3 f (by omega) (by omega), f1 f (by omega) (by omega), hf f q], fun z => by rw [x1] at z; cases z⟩
      by_cases c3 : (ld s len (dg (s p)) (p + 1)).2 = true
      · have h86 : f_X6_readStatement_j86 B4 = (if (if (ld s len (dg (s p)) (p + 1)).1 < len then nI (s (ld s len (dg (s p)) (p + 1)).1) else -1) = 59 then f_X6_readStatement_j108 B4 0 else f_X6_readStatement_j103 B4) := by
          unfold f_X6_readStatement_j86
          rw [p16, c3, if_pos (by rfl), m_here r2 hl, q_jb]
        by_cases c4 : (ld s len (dg (s p)) (p + 1)).1 < len ∧ s (ld s len (dg (s p)) (p + 1)).1 = 59
        · have esc : sc s len p = ((ld s len (dg (s p)) (p + 1)).1 + 1, true) := by
            unfold sc
            rw [if_pos ⟨c, c2⟩, if_pos c3, if_pos c4]
          rw [if_pos c4.1, if_pos (by rw [c4.2]; rfl)] at h86
          obtain ⟨B', g1, g2, g3, g4, g5, g6⟩ := m_j108 p15 k17
          rw [esc]
          refine ⟨B', by rw [h86, g1], g2, g3, fun o q => by rw [g5 o q, po o q, o3 o q], fun f q => by rw [g6 f (by omega) (by omega) (by omega), pf f (by omega) (by omega) (by omega), f3 f (by omega) (by omega), f1 f (by omega) (by omega), hf f q], fun _ => ⟨g4, fun j hj => ⟨?_, ?_⟩, fun i hi => ?_, ?_, ?_, ?_⟩⟩
          · rw [g6 18 (by omega) (by omega) (by omega), pf 18 (by omega) (by omega) (by omega), f3 18 (by omega) (by omega), b18, if_neg (by omega)]
          · rw [g6 19 (by omega) (by omega) (by omega), pf 19 (by omega) (by omega) (by omega), f3 19 (by omega) (by omega), b19, if_neg (by omega)]
          · rw [g6 20 (by omega) (by omega) (by omega), p20 i (Or.inl hi), f3 20 (by omega) (by omega), f1 20 (by omega) (by omega)]
          · rw [g6 18 (by omega) (by omega) (by omega), pf 18 (by omega) (by omega) (by omega), f3 18 (by omega) (by omega), b18, if_pos rfl]
          · rw [g6 19 (by omega) (by omega) (by omega), pf 19 (by omega) (by omega) (by omega), f3 19 (by omega) (by omega), b19, if_pos rfl, er]
          · have := r3 c3
            unfold tld at this ⊢
            rw [g6 20 (by omega) (by omega) (by omega)]
            exact this
        · have esc : sc s len p = ((ld s len (dg (s p)) (p + 1)).1, false) := by
            unfold sc
            rw [if_pos ⟨c, c2⟩, if_pos c3, if_neg c4]
          refine bad (by rw [esc]) (by rw [esc]) ?_
          rw [h86, if_neg]
          by_cases c5 : (ld s len (dg (s p)) (p + 1)).1 < len
          · rw [if_pos c5, show (59 : Int32) = nI 59 from rfl, q_eq (by have := hs _ c5; omega) (by omega)]
            exact fun z => c4 ⟨c5, z⟩
          · rw [if_neg c5]; decide
      · have c3' : (ld s len (dg (s p)) (p + 1)).2 = false := by simpa using c3
        have esc : sc s len p = ld s len (dg (s p)) (p + 1) := by
          unfold sc
          rw [if_pos ⟨c, c2⟩, if_neg c3]
        refine bad (by rw [esc, c3']) (by rw [esc]) ?_
        unfold f_X6_readStatement_j86
        rw [p16, c3', if_neg (by decide)]
  · have e : sc s len p = (p, false) := by unfold sc; rw [if_neg (fun z => c z.1)]
    have er : r1 = -1 := by rw [hr1, if_neg c]
    have il : f_X6_isLetter r1 = 0 := by rw [er]; decide
    rw [il, if_pos rfl]
    obtain ⟨B', g1, g2, g3, g4, g5⟩ := no e
    exact ⟨B', g1, g2, g3, g4, g5, fun z => by rw [e] at z; cases z⟩
theorem tld_congr {B B' : jm} {j c p : Nat} (h : ∀ i, i < 3 * j + 3 → B' 16 20 i = B 16 20 i) (q : tld s B j c p) : tld s B' j c p := by
  unfold tld at q ⊢
  rw [h (3 * j) (by omega), h (3 * j + 1) (by omega), h (3 * j + 2) (by omega)]
  exact q
theorem m_readOk {B0 B : jm} {k : Nat} (h : Hd s len B0 B k (pc s len k)) (hl : len ≤ 96) (hs : ∀ i, i < len → s i < 256) (hk : k < 49) (hok : (sc s len (pc s len k)).2 = true) : ∃ B', f_X6_readStatement B = some B' ∧ Hd s len B0 B' (k + 1) (pc s len (k + 1)) := by
  obtain ⟨B', g1, g2, g3, g4, g5, g6⟩ := m_readSt h hl hs hk
  obtain ⟨a1, a2, a3, a4, a5, a6⟩ := g6 hok
  rw [hok] at g3
  obtain ⟨h15, h16, h17, hp, ho, hf, h14, h13, hj⟩ := h
  refine ⟨B', g1, g2, g3, a1, (sc_le hp).2, g4, g5, h14, h13, fun j hj2 => ?_⟩
  by_cases e : j = k
  · subst e; exact ⟨a4, a5, a6⟩
  · obtain ⟨x1, x2, x3⟩ := hj j (by omega)
    obtain ⟨y1, y2⟩ := a2 j (by omega)
    exact ⟨by rw [y1]; exact x1, by rw [y2]; exact x2, tld_congr (fun i hi => a3 i (by omega)) x3⟩
/-- all of them -/
theorem m_readAll {B0 B : jm} (h : Hd s len B0 B 0 0) (hl : len ≤ 96) (hs : ∀ i, i < len → s i < 256) {N : Nat} (h32 : N ≤ 32) (hN : ∀ j, j < N → pc s len j < len ∧ (sc s len (pc s len j)).2 = true) : ∃ B', f_X6_village_l20 10000 B = f_X6_village_l20 (10000 - N) B' ∧ Hd s len B0 B' N (pc s len N) := by
  have go : ∀ j, j ≤ N → ∃ B', f_X6_village_l20 10000 B = f_X6_village_l20 (10000 - j) B' ∧ Hd s len B0 B' j (pc s len j) := by
    intro j
    induction j with
    | zero => intro _; exact ⟨B, rfl, h⟩
    | succ j ih =>
      intro hj
      obtain ⟨B', b1, b2⟩ := ih (by omega)
      obtain ⟨C, c1, c2⟩ := m_readOk b2 hl hs (by omega) (hN j (by omega)).2
      refine ⟨C, ?_, c2⟩
      have e14 : B' 16 14 0 = nI len := by rw [b2.2.2.2.2.2.1 14 (by omega)]; exact b2.2.2.2.2.2.2.1
      rw [b1, show 10000 - j = (10000 - (j + 1)) + 1 by omega, f_X6_village_l20, b2.2.1, if_pos (show (nI 0 : Int32) = 0 from rfl), b2.2.2.1, c1, q_jb]
      have := (hN j (by omega)).1
      by_cases z : j = 0
      · rw [if_pos (by rw [z]; rfl)]
      · rw [if_neg (by rw [show (0 : Int32) = nI 0 from rfl, q_eq (by omega) (by omega)]; exact z), e14, b2.1, if_neg (by rw [q_le (by omega) (by omega)]; omega)]
  exact go N (Nat.le_refl N)
end Rs
