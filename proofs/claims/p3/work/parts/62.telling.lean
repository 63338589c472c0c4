/-! both sides tell a statement -/
section Tell
variable {s : Nat → Nat} {len : Nat} {τ : vl}
theorem num1_lt {q : Nat} (h : isd s len q = true) : num s 1 q < 10 := by
  unfold isd at h
  simp only [decide_eq_true_eq] at h
  unfold num
  rw [if_pos rfl]; omega
theorem num2_lt {q : Nat} (h : isd s len q = true) (h2 : isd s len (q + 1) = true) : num s 2 q < 100 := by
  unfold isd at h h2
  simp only [decide_eq_true_eq] at h h2
  unfold num
  rw [if_neg (by omega)]; omega
theorem x_dig {A : jm} (a1 : A 13 1 0 = nI len) (a0 : ∀ i, i < len → A 13 0 i = nI (s i)) (hl : len ≤ 96) {q : Nat} (h : isd s len q = true) : f_X1_digit A (nI q) = some (nI (num s 1 q)) := by
  unfold isd at h
  simp only [decide_eq_true_eq] at h
  unfold f_X1_digit num
  rw [a1, if_neg (by rw [q_le (by omega) (by omega)]; omega), q_gd (by omega) (by omega), q_cl (by omega), a0 q h.1, if_pos rfl, show (48 : Int32) = nI 48 from rfl, pk_sub (by omega)]
theorem x_pair {A : jm} (a1 : A 13 1 0 = nI len) (a0 : ∀ i, i < len → A 13 0 i = nI (s i)) (hl : len ≤ 96) {q : Nat} (h : isd s len q = true) (h2 : isd s len (q + 1) = true) : f_X1_pair A (nI q) = some (nI (num s 2 q)) := by
  unfold f_X1_pair
  rw [x_dig a1 a0 hl h, q_jb, show nI q + 1 = nI (q + 1) from nI_add q 1, x_dig a1 a0 hl h2, q_jb, show (10 : Int32) = nI 10 from rfl, pk_mul, nI_add]
  rfl
theorem m_in160 : ∀ a, a < 100 → f_X6_in (Int32.toInt64 (nI a)) 1 60 = if 1 ≤ a ∧ a ≤ 60 then nI 1 else nI 0 := by decide +kernel
/-- one and the same statement, on both sides -/
theorem st_step {A B : jm} (hf : wf τ) (hA : RW (A 2) τ) (hB : RM (B 16) τ) (a1 : A 13 1 0 = nI len) (a0 : ∀ i, i < len → A 13 0 i = nI (s i)) (hs : ∀ i, i < len → s i < 256) (hl : len ≤ 96) {p k : Nat} (hk : k < 49) (hok : (sc s len p).2 = true) (t19 : B 16 19 k = nI (s p)) (ht : tld s B k (s p) (p + 1)) : ∃ (r : Int32) (A' B' : jm), f_X1_tellStatement A 2 (nI p) = some (r, A') ∧ f_X6_comesTold B (nI k) = some (r, B') ∧ (∀ o, o ≠ 2 → A' o = A o) ∧ (∀ o, o ≠ 16 → B' o = B o) ∧ (∀ f, 10 < f → B' 16 f = B 16 f) ∧ (r = 0 ∨ (r = 1 ∧ ∃ τ', RW (A' 2) τ' ∧ RM (B' 16) τ' ∧ wf τ')) := by
  have hg := wg_of hf
  have hH := hf.1
  have hW := hf.2.1.2.1
  obtain ⟨o1, o2, -, o4, -, o6⟩ := sc_ok hok
  have sp := a0 p o1
  have hp2 := hs p o1
  have ix0 : (3 : Int32) * nI k = nI (3 * k) := by rw [show (3 : Int32) = nI 3 from rfl, pk_mul]
  have ix1 : nI (3 * k) + 1 = nI (3 * k + 1) := nI_add (3 * k) 1
  have ix2 : nI (3 * k) + 2 = nI (3 * k + 2) := nI_add (3 * k) 2
  have pl1 : ∀ j, nI p + nI j = nI (p + j) := fun j => nI_add p j
  have q1 : nI p + 1 = nI (p + 1) := pl1 1
  have q2 : nI p + 2 = nI (p + 2) := pl1 2
  have q3 : nI p + 3 = nI (p + 3) := pl1 3
  have q5 : nI p + 5 = nI (p + 5) := pl1 5
  have gb : ∀ {α : Type} (c : Prop) [Decidable c] (a : Option α), jgb (if c then nI 1 else nI 0) a = a := by
    intro α c _ a
    unfold jgb
    rw [if_pos]
    split
    · exact Or.inr rfl
    · exact Or.inl rfl
  have gb0 : ∀ {α : Type} (a : Option α), jgb (0 : Int32) a = a := fun a => if_pos (Or.inl rfl)
  have gb1 : ∀ {α : Type} (a : Option α), jgb (1 : Int32) a = a := fun a => if_pos (Or.inr rfl)
  -- the head of both
  have hx : f_X1_tellStatement A 2 (nI p) = (if nI (s p) = 101 then (jb (f_X1_pair A (nI (p + 1))) fun r1 => (jb2 (f_X4_pass A 2 r1) fun r2 M_2 => (jgb r2 (some (r2, M_2))))) else (if nI (s p) = 103 then (jb (f_X1_digit A (nI (p + 1))) fun r3 => (jb (f_X1_pair A (nI (p + 2))) fun r4 => (jb2 (f_X4_aim A 2 r3 r4) fun r5 M_5 => (jgb r5 (some (r5, M_5)))))) else (if nI (s p) = 104 then (jb (f_X1_digit A (nI (p + 1))) fun r6 => (jb (f_X1_digit A (nI (p + 2))) fun r7 => (jb (f_X1_pair A (nI (p + 3))) fun r8 => (jb2 (f_X4_addHouse A 2 r6 r7 r8) fun r9 M_9 => (jgb r9 (some (r9, M_9))))))) else (if nI (s p) = 108 then (jb (f_X1_digit A (nI (p + 1))) fun r10 => (jb2 (f_X4_turn A 2 r10) fun r11 M_11 => (jgb r11 (some (r11, M_11))))) else (if nI (s p) = 111 then (jb (f_X1_digit A (nI (p + 1))) fun r12 => (jb (f_X1_digit A (nI (p + 2))) fun r13 => (jb2 (f_X4_addDebt A 2 r12 r13) fun r14 M_14 => (jgb r14 (some (r14, M_14)))))) else (if nI (s p) = 119 then (jb (f_X1_pair A (nI (p + 1))) fun r15 => (jb (f_X1_pair A (nI (p + 3))) fun r16 => (jb (f_X1_digit A (nI (p + 5))) fun r17 => (jb2 (f_X4_addWalker A 2 r15 r16 r17) fun r18 M_18 => (jgb r18 (some (r18, M_18))))))) else (some (0, A)))))))) := by
    unfold f_X1_tellStatement
    rw [q_gd (by omega) (by omega), q_cl (by omega), sp, q1, q2, q3, q5]
  have dig : ∀ j, j < dg (s p) → isd s len (p + 1 + j) = true := o6
  unfold tld at ht
  obtain ⟨th, tw, tl, tg, to_, te⟩ := ht
  have hy : ∀ X : Option (Int32 × jm), f_X6_comesTold B (nI k) = X ↔ f_X6_comesTold B (nI k) = X := fun _ => Iff.rfl
  rcases dg_cases o2 with ⟨e, ed⟩ | ⟨e, ed⟩ | ⟨e, ed⟩ | ⟨e, ed⟩ | ⟨e, ed⟩ | ⟨e, ed⟩
  · -- h
    obtain ⟨u1, u2, u3⟩ := th e
    have d1 : isd s len (p + 1) = true := dig 0 (by omega)
    have d2 : isd s len (p + 2) = true := dig 1 (by omega)
    have d3 : isd s len (p + 3) = true := dig 2 (by omega)
    have d4 : isd s len (p + 4) = true := dig 3 (by omega)
    have n1 := num1_lt d1
    have n2 := num1_lt d2
    have n3 := num2_lt d3 d4
    obtain ⟨A', x1, x2, x3⟩ := p_addHouse hA hf (k := num s 1 (p + 1)) (f := num s 1 (p + 2)) (c := num s 2 (p + 3)) (by omega) (by omega) (by omega)
    obtain ⟨B', y1, y2, y3, y4⟩ := m_houseComes hB hg (k := num s 1 (p + 1)) (f := num s 1 (p + 2)) (c := num s 2 (p + 3)) (by omega) (by omega)
    have ec : (num s 1 (p + 1) < 6 ∧ num s 1 (p + 2) < 10 ∧ num s 2 (p + 3) < 49 ∧ vH τ < 7) ↔ (num s 1 (p + 1) < 6 ∧ num s 2 (p + 3) < 49 ∧ vH τ < 7) := ⟨fun z => ⟨z.1, z.2.2⟩, fun z => ⟨z.1, n2, z.2⟩⟩
    simp only [ec] at x1 x3
    refine ⟨if num s 1 (p + 1) < 6 ∧ num s 2 (p + 3) < 49 ∧ vH τ < 7 then nI 1 else nI 0, A', B', ?_, ?_, x2, y2, fun f hf2 => y3 f (by omega), ?_⟩
    · rw [hx, e, if_neg (by decide), if_neg (by decide), if_pos (by decide), x_dig a1 a0 hl d1, q_jb, x_dig a1 a0 hl d2, q_jb, x_pair a1 a0 hl d3 d4, q_jb, x1, q_jb2, gb]
    · unfold f_X6_comesTold
      rw [ix0, ix1, ix2, q_gd (by omega) (by omega), q_gd (by omega) (by omega), q_gd (by omega) (by omega), q_gd (by omega) (by omega), q_cl (by omega), q_cl (by omega), q_cl (by omega), q_cl (by omega), t19, e, u1, u2, u3, if_neg (by decide), if_pos (by decide), y1, q_jb2, gb]
    · by_cases z : num s 1 (p + 1) < 6 ∧ num s 2 (p + 3) < 49 ∧ vH τ < 7
      · rw [if_pos z] at x3 y4 ⊢
        exact Or.inr ⟨rfl, _, x3, y4, wf_addH hf z.2.2 z.1 n2 z.2.1⟩
      · rw [if_neg z]; exact Or.inl rfl
  · -- w
    obtain ⟨u1, u2, u3⟩ := tw e
    have d1 : isd s len (p + 1) = true := dig 0 (by omega)
    have d2 : isd s len (p + 2) = true := dig 1 (by omega)
    have d3 : isd s len (p + 3) = true := dig 2 (by omega)
    have d4 : isd s len (p + 4) = true := dig 3 (by omega)
    have d5 : isd s len (p + 5) = true := dig 4 (by omega)
    have n1 := num2_lt d1 d2
    have n2 := num2_lt d3 d4
    have n3 := num1_lt d5
    obtain ⟨A', x1, x2, x3⟩ := p_addWalker hA hf (a := num s 2 (p + 1)) (g := num s 2 (p + 3)) (s := num s 1 (p + 5)) (by omega) (by omega) (by omega)
    obtain ⟨B', y1, y2, y3, y4⟩ := m_walkerComes hB hg (a := num s 2 (p + 1)) (g := num s 2 (p + 3)) (s := num s 1 (p + 5)) (by omega) (by omega) (by omega)
    refine ⟨if num s 2 (p + 1) < 49 ∧ num s 2 (p + 3) < 49 ∧ num s 1 (p + 5) ≤ 2 ∧ vW τ < 6 then nI 1 else nI 0, A', B', ?_, ?_, x2, y2, fun f hf2 => y3 f (by omega), ?_⟩
    · rw [hx, e, if_neg (by decide), if_neg (by decide), if_neg (by decide), if_neg (by decide), if_neg (by decide), if_pos (by decide), x_pair a1 a0 hl d1 d2, q_jb, x_pair a1 a0 hl d3 d4, q_jb, x_dig a1 a0 hl d5, q_jb, x1, q_jb2, gb]
    · unfold f_X6_comesTold
      rw [ix0, ix1, ix2, q_gd (by omega) (by omega), q_gd (by omega) (by omega), q_gd (by omega) (by omega), q_gd (by omega) (by omega), q_cl (by omega), q_cl (by omega), q_cl (by omega), q_cl (by omega), t19, e, u1, u2, u3, if_neg (by decide), if_neg (by decide), if_neg (by decide), if_neg (by decide), if_pos (by decide), y1, q_jb2, gb]
    · by_cases z : num s 2 (p + 1) < 49 ∧ num s 2 (p + 3) < 49 ∧ num s 1 (p + 5) ≤ 2 ∧ vW τ < 6
      · rw [if_pos z] at x3 y4 ⊢
        exact Or.inr ⟨rfl, _, x3, y4, wf_addW hf z.2.2.2 z.1 z.2.1 z.2.2.1⟩
      · rw [if_neg z]; exact Or.inl rfl
  · -- l
    have u1 := tl e
    have d1 : isd s len (p + 1) = true := dig 0 (by omega)
    have n1 := num1_lt d1
    obtain ⟨A', x1, x2, x3⟩ := p_turn hA hf (h := num s 1 (p + 1)) (by omega)
    have tx : f_X1_tellStatement A 2 (nI p) = some (if num s 1 (p + 1) < vH τ then nI 1 else nI 0, A') := by
      rw [hx, e, if_neg (by decide), if_neg (by decide), if_neg (by decide), if_pos (by decide), x_dig a1 a0 hl d1, q_jb, x1, q_jb2, gb]
    have ty : f_X6_comesTold B (nI k) = (if f_X6_isHouse B (nI (num s 1 (p + 1))) = 0 then (jgb (f_X6_isHouse B (nI (num s 1 (p + 1)))) (some ((f_X6_isHouse B (nI (num s 1 (p + 1)))), B))) else (jgd (nI (num s 1 (p + 1))) 8 (jgd (nI (num s 1 (p + 1))) 8 (jgb (f_X6_isHouse B (nI (num s 1 (p + 1)))) (some ((f_X6_isHouse B (nI (num s 1 (p + 1)))), (ju B 16 4 (Int32.toNatClampNeg (nI (num s 1 (p + 1)))) (1 - (B 16 4 (Int32.toNatClampNeg (nI (num s 1 (p + 1)))))))))))) ) := by
      unfold f_X6_comesTold
      rw [ix0, ix1, ix2, q_gd (by omega) (by omega), q_gd (by omega) (by omega), q_gd (by omega) (by omega), q_gd (by omega) (by omega), q_cl (by omega), q_cl (by omega), t19, e, u1, if_neg (by decide), if_neg (by decide), if_pos (by decide)]
    rw [m_isHouse hB hg] at ty
    by_cases z : num s 1 (p + 1) < vH τ
    · rw [if_pos z] at tx x3
      have h4 := (hf.2.1.2.2.1 _ z).2.2.2
      have v4 : B 16 4 (num s 1 (p + 1)) = nI (τ 4 (num s 1 (p + 1))) := (hB.2.2.2.1 _ z).2.2.2
      have r4 := RM_house hB (F := 4) (h := num s 1 (p + 1)) (x := 1 - τ 4 (num s 1 (p + 1))) (by omega)
      refine ⟨_, A', _, tx, ?_, x2, fun o q => ?_, fun f q => ?_, Or.inr ⟨rfl, turnH τ (num s 1 (p + 1)), x3, r4, wf_turn hf⟩⟩
      · rw [ty, if_pos ((okv_nI (by omega) (by omega)).mpr z), if_neg z10, q_gd (by omega) (by omega), q_cl (by omega), v4, show (nI 1 : Int32) = 1 from rfl, gb1, show (1 : Int32) - nI (τ 4 (num s 1 (p + 1))) = nI (1 - τ 4 (num s 1 (p + 1))) from pk_sub h4, q_gd (by omega) (by omega)]
      · rw [ju_ne q]
      · rw [ju_f (by omega)]
    · rw [if_neg z] at tx
      refine ⟨_, A', B, tx, ?_, x2, fun _ _ => rfl, fun _ _ => rfl, Or.inl rfl⟩
      rw [ty, if_neg (fun y => z ((okv_nI (by omega) (by omega)).mp y)), if_pos z00, show (nI 0 : Int32) = 0 from rfl, gb0]
  · -- g
    obtain ⟨u1, u2⟩ := tg e
    have d1 : isd s len (p + 1) = true := dig 0 (by omega)
    have d2 : isd s len (p + 2) = true := dig 1 (by omega)
    have d3 : isd s len (p + 3) = true := dig 2 (by omega)
    have n1 := num1_lt d1
    have n2 := num2_lt d2 d3
    obtain ⟨A', x1, x2, x3⟩ := p_aim hA hf (w := num s 1 (p + 1)) (c := num s 2 (p + 2)) (by omega) (by omega)
    have tx : f_X1_tellStatement A 2 (nI p) = some (if num s 1 (p + 1) < vW τ ∧ num s 2 (p + 2) < 49 then nI 1 else nI 0, A') := by
      rw [hx, e, if_neg (by decide), if_pos (by decide), x_dig a1 a0 hl d1, q_jb, x_pair a1 a0 hl d2 d3, q_jb, x1, q_jb2, gb]
    have ty : f_X6_comesTold B (nI k) = (if f_X6_isWalker B (nI (num s 1 (p + 1))) = 0 then some (0, B) else if f_X6_isCell (nI (num s 2 (p + 2))) = 0 then some (0, B) else jgd (nI (num s 1 (p + 1))) 6 (some (1, ju B 16 7 (Int32.toNatClampNeg (nI (num s 1 (p + 1)))) (nI (num s 2 (p + 2)))))) := by
      unfold f_X6_comesTold f_X6_comesTold_j158 f_X6_comesTold_j159
      rw [ix0, ix1, ix2, q_gd (by omega) (by omega), q_gd (by omega) (by omega), q_gd (by omega) (by omega), q_gd (by omega) (by omega), q_cl (by omega), q_cl (by omega), q_cl (by omega), t19, e, u1, u2, if_pos (by decide), if_pos rfl, if_neg (show ¬ (1 : Int32) = 0 by decide), gb0, gb1]
    rw [m_isWalker hB hg, m_isCell] at ty
    by_cases z : num s 1 (p + 1) < vW τ ∧ num s 2 (p + 2) < 49
    · rw [if_pos z] at tx x3
      refine ⟨_, A', ju B 16 7 (num s 1 (p + 1)) (nI (num s 2 (p + 2))), tx, ?_, x2, fun o q => ju_ne q, fun f q => ju_f (by omega), Or.inr ⟨rfl, _, x3, RM_goal hB, wf_aim hf z.2⟩⟩
      rw [ty, if_pos ((okv_nI (by omega) (by omega)).mpr z.1), if_neg z10, if_pos ((okv_nI (by omega) (by omega)).mpr z.2), if_neg z10, q_gd (by omega) (by omega), q_cl (by omega)]; rfl
    · rw [if_neg z] at tx
      refine ⟨_, A', B, tx, ?_, x2, fun _ _ => rfl, fun _ _ => rfl, Or.inl rfl⟩
      rw [ty]
      by_cases z1 : num s 1 (p + 1) < vW τ
      · rw [if_pos ((okv_nI (by omega) (by omega)).mpr z1), if_neg z10, if_neg (fun y => z ⟨z1, (okv_nI (by omega) (by omega)).mp y⟩), if_pos z00]; rfl
      · rw [if_neg (fun y => z1 ((okv_nI (by omega) (by omega)).mp y)), if_pos z00]; rfl
  · -- o
    obtain ⟨u1, u2⟩ := to_ e
    have u2 : B 16 20 (3 * k + 1) = nI (num s 1 (p + 2)) := u2
    have d1 : isd s len (p + 1) = true := dig 0 (by omega)
    have d2 : isd s len (p + 2) = true := dig 1 (by omega)
    have n1 := num1_lt d1
    have n2 := num1_lt d2
    obtain ⟨A', x1, x2, x3⟩ := p_addDebt hA hf (w := num s 1 (p + 1)) (h := num s 1 (p + 2)) (by omega) (by omega)
    have tx : f_X1_tellStatement A 2 (nI p) = some (if num s 1 (p + 1) < vW τ ∧ num s 1 (p + 2) < vH τ then nI 1 else nI 0, A') := by
      rw [hx, e, if_neg (by decide), if_neg (by decide), if_neg (by decide), if_neg (by decide), if_pos (by decide), x_dig a1 a0 hl d1, q_jb, x_dig a1 a0 hl d2, q_jb, x1, q_jb2, gb]
    have ty : f_X6_comesTold B (nI k) = (if f_X6_isWalker B (nI (num s 1 (p + 1))) = 0 then some (0, B) else if f_X6_isHouse B (nI (num s 1 (p + 2))) = 0 then some (0, B) else jgd (nI (7 * num s 1 (p + 1) + num s 1 (p + 2))) 42 (if B 16 9 (7 * num s 1 (p + 1) + num s 1 (p + 2)) = 0 then (jgd (nI (7 * num s 1 (p + 1) + num s 1 (p + 2))) 42 (some (1, ju B 16 9 (7 * num s 1 (p + 1) + num s 1 (p + 2)) 1))) else some (1, B))) := by
      unfold f_X6_comesTold f_X6_comesTold_j196 f_X6_comesTold_j197
      rw [ix0, ix1, ix2, q_gd (by omega) (by omega), q_gd (by omega) (by omega), q_gd (by omega) (by omega), q_gd (by omega) (by omega), q_cl (by omega), q_cl (by omega), q_cl (by omega), t19, e, u1, u2, if_neg (by decide), if_neg (by decide), if_neg (by decide), if_pos (by decide), if_pos rfl, if_neg (show ¬ (1 : Int32) = 0 by decide), gb0, gb1, gb1, idx7, q_cl (by omega)]
    rw [m_isWalker hB hg, m_isHouse hB hg] at ty
    by_cases z : num s 1 (p + 1) < vW τ ∧ num s 1 (p + 2) < vH τ
    · rw [if_pos z] at tx x3
      have v9 : B 16 9 (7 * num s 1 (p + 1) + num s 1 (p + 2)) = nI (τ (20 + num s 1 (p + 1)) (num s 1 (p + 2))) := hB.2.2.2.2.2 _ (by omega) _ (by omega)
      have hd := hf.2.1.2.2.2.2 (num s 1 (p + 1)) (num s 1 (p + 2))
      rw [if_pos ((okv_nI (by omega) (by omega)).mpr z.1), if_neg z10, if_pos ((okv_nI (by omega) (by omega)).mpr z.2), if_neg z10, q_gd (by omega) (by omega)] at ty
      by_cases y : τ (20 + num s 1 (p + 1)) (num s 1 (p + 2)) = 0
      · rw [if_pos y] at x3
        refine ⟨_, A', ju B 16 9 (7 * num s 1 (p + 1) + num s 1 (p + 2)) 1, tx, ?_, x2, fun o q => ju_ne q, fun f q => ju_f (by omega), Or.inr ⟨rfl, _, x3, RM_debt hB (by omega), wf_debt hf z.1 z.2 (by omega)⟩⟩
        rw [ty, if_pos (by rw [v9, y]; rfl), q_gd (by omega) (by omega)]; rfl
      · rw [if_neg y] at x3
        refine ⟨_, A', B, tx, ?_, x2, fun _ _ => rfl, fun _ _ => rfl, Or.inr ⟨rfl, τ, x3, hB, hf⟩⟩
        rw [ty, if_neg (by rw [v9, show (0 : Int32) = nI 0 from rfl, q_eq (by omega) (by omega)]; exact y)]; rfl
    · rw [if_neg z] at tx
      refine ⟨_, A', B, tx, ?_, x2, fun _ _ => rfl, fun _ _ => rfl, Or.inl rfl⟩
      rw [ty]
      by_cases z1 : num s 1 (p + 1) < vW τ
      · rw [if_pos ((okv_nI (by omega) (by omega)).mpr z1), if_neg z10, if_neg (fun y => z ⟨z1, (okv_nI (by omega) (by omega)).mp y⟩), if_pos z00]; rfl
      · rw [if_neg (fun y => z1 ((okv_nI (by omega) (by omega)).mp y)), if_pos z00]; rfl
  · -- e
    have u1 := te e
    have d1 : isd s len (p + 1) = true := dig 0 (by omega)
    have d2 : isd s len (p + 2) = true := dig 1 (by omega)
    have n1 := num2_lt d1 d2
    have h999 := hf.2.2.2
    obtain ⟨A', x1, x2, x3⟩ := p_pass hA hf (n := num s 2 (p + 1)) (by omega)
    have tx : f_X1_tellStatement A 2 (nI p) = some (if 1 ≤ num s 2 (p + 1) ∧ num s 2 (p + 1) ≤ 60 ∧ τ 10 0 + num s 2 (p + 1) ≤ 999 then nI 1 else nI 0, A') := by
      rw [hx, e, if_pos (by decide), x_pair a1 a0 hl d1 d2, q_jb, x1, q_jb2, gb]
    have ty : f_X6_comesTold B (nI k) = (if f_X6_in (Int32.toInt64 (nI (num s 2 (p + 1)))) 1 60 = 0 then some (0, B) else if 999 < B 16 10 0 + nI (num s 2 (p + 1)) then some (0, B) else jb (f_X6_goEvenings B (nI (num s 2 (p + 1)))) fun M_14 => some (1, M_14)) := by
      unfold f_X6_comesTold f_X6_comesTold_j261 f_X6_comesTold_j262
      rw [ix0, ix1, ix2, q_gd (by omega) (by omega), q_gd (by omega) (by omega), q_gd (by omega) (by omega), q_gd (by omega) (by omega), q_cl (by omega), q_cl (by omega), t19, e, u1, if_neg (by decide), if_neg (by decide), if_neg (by decide), if_neg (by decide), if_neg (by decide), if_pos rfl, if_neg (show ¬ (1 : Int32) = 0 by decide), gb0]
      simp only [gb1]
    rw [m_in160 _ n1, hB.2.2.1, nI_add] at ty
    by_cases z : 1 ≤ num s 2 (p + 1) ∧ num s 2 (p + 1) ≤ 60
    · rw [if_pos z, if_neg z10] at ty
      by_cases y : τ 10 0 + num s 2 (p + 1) ≤ 999
      · rw [if_pos ⟨z.1, z.2, y⟩] at tx x3
        obtain ⟨B', y1, y2, y3⟩ := m_goEvenings hB hg (n := num s 2 (p + 1)) (by omega)
        refine ⟨_, A', B', tx, ?_, x2, y3.1, fun f q => y3.2 f (by omega) (by omega) (by omega), Or.inr ⟨rfl, _, x3, y2, wf_ev hf y⟩⟩
        rw [ty, if_neg (by rw [show (999 : Int32) = nI 999 from rfl, q_lt (by omega) (by omega)]; omega), y1, q_jb]; rfl
      · rw [if_neg (fun q => y q.2.2)] at tx
        refine ⟨_, A', B, tx, ?_, x2, fun _ _ => rfl, fun _ _ => rfl, Or.inl rfl⟩
        rw [ty, if_pos (by rw [show (999 : Int32) = nI 999 from rfl, q_lt (by omega) (by omega)]; omega)]; rfl
    · rw [if_neg (fun q => z ⟨q.1, q.2.1⟩)] at tx
      refine ⟨_, A', B, tx, ?_, x2, fun _ _ => rfl, fun _ _ => rfl, Or.inl rfl⟩
      rw [ty, if_neg z, if_pos z00]; rfl
end Tell
