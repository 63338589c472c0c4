/-! a round of doors: the best next one, and the least steps -/
def bw (b : Nat → Bool) (g : Nat → Nat) : Nat → Option Nat
  | 0 => none
  | n + 1 => match bw b g n with
    | none => if b n then some n else none
    | some j => if b n && decide (g n < g j) then some n else some j
section Bw
variable {b : Nat → Bool} {g : Nat → Nat} {n j : Nat}
theorem bw_u : bw b g (n + 1) = (match bw b g n with
    | none => if b n then some n else none
    | some j => if b n && decide (g n < g j) then some n else some j) := (rfl)
theorem bw_f (h : b n = false) : bw b g (n + 1) = bw b g n := by
  rw [bw_u]
  cases q : bw b g n
  · show (if b n = true then some n else none) = none
    rw [h]; rfl
  · rename_i i
    show (if (b n && decide (g n < g i)) = true then some n else some i) = some i
    rw [h]; rfl
theorem bw_t0 (h : b n = true) (h2 : bw b g n = none) : bw b g (n + 1) = some n := by
  rw [bw_u, h2]
  show (if b n = true then some n else none) = some n
  rw [if_pos h]
theorem bw_t1 (h : b n = true) (h2 : bw b g n = some j) (h3 : g n < g j) : bw b g (n + 1) = some n := by
  rw [bw_u, h2]
  show (if (b n && decide (g n < g j)) = true then some n else some j) = some n
  rw [if_pos (by rw [h, decide_eq_true h3]; rfl)]
theorem bw_t2 (h2 : bw b g n = some j) (h3 : g j ≤ g n) : bw b g (n + 1) = some j := by
  rw [bw_u, h2]
  show (if (b n && decide (g n < g j)) = true then some n else some j) = some j
  rw [if_neg (by rw [decide_eq_false (show ¬ g n < g j by omega), Bool.and_false]; simp)]
theorem bw_none : ∀ n, bw b g n = none → ∀ i, i < n → b i = false
  | 0, _, i, hi => absurd hi (Nat.not_lt_zero i)
  | n + 1, h, i, hi => by
    cases q : bw b g n
    · cases c : b n
      · by_cases z : i = n
        · rw [z]; exact c
        · exact bw_none n q i (by omega)
      · rw [bw_t0 c q] at h; cases h
    · rename_i j
      cases c : b n
      · rw [bw_f c, q] at h; cases h
      · by_cases z : g n < g j
        · rw [bw_t1 c q z] at h; cases h
        · rw [bw_t2 q (by omega)] at h; cases h
theorem bw_some : ∀ n j, bw b g n = some j → j < n ∧ b j = true ∧ (∀ i, i < n → b i = true → g j ≤ g i) ∧ (∀ i, i < j → b i = true → g j < g i)
  | 0, _, h => by cases h
  | n + 1, j, h => by
    cases q : bw b g n
    · have hn := bw_none n q
      cases c : b n
      · rw [bw_f c, q] at h; cases h
      · rw [bw_t0 c q] at h
        have e : n = j := Option.some.inj h
        rw [← e]
        refine ⟨by omega, c, fun i hi hb => ?_, fun i hi hb => ?_⟩
        · by_cases z : i = n
          · rw [z]; exact Nat.le_refl _
          · rw [hn i (by omega)] at hb; cases hb
        · rw [hn i hi] at hb; cases hb
    · rename_i k
      obtain ⟨k1, k2, k3, k4⟩ := bw_some n k q
      cases c : b n
      · rw [bw_f c, q] at h
        have e : k = j := Option.some.inj h
        rw [← e]
        refine ⟨by omega, k2, fun i hi hb => ?_, k4⟩
        by_cases z : i = n
        · rw [z, c] at hb; cases hb
        · exact k3 i (by omega) hb
      · by_cases z : g n < g k
        · rw [bw_t1 c q z] at h
          have e : n = j := Option.some.inj h
          rw [← e]
          refine ⟨by omega, c, fun i hi hb => ?_, fun i hi hb => ?_⟩
          · by_cases y : i = n
            · rw [y]; exact Nat.le_refl _
            · have := k3 i (by omega) hb; omega
          · have := k3 i hi hb; omega
        · rw [bw_t2 q (by omega)] at h
          have e : k = j := Option.some.inj h
          rw [← e]
          refine ⟨by omega, k2, fun i hi hb => ?_, k4⟩
          by_cases y : i = n
          · rw [y]; omega
          · exact k3 i (by omega) hb
end Bw
def sl (o : Option Nat) (f : Nat → Nat) : Nat := match o with
  | none => 0
  | some j => f j
def spf (p : Nat → Nat) (H : Nat) : Nat → Nat → Nat → Nat
  | 0, _, _ => 0
  | k + 1, r, c => sl (bw (fun h => bt (nI r) h) (fun h => stp c (p h) + spf p H k (r - 2 ^ h) (p h)) H) (fun j => stp c (p j) + spf p H k (r - 2 ^ j) (p j))
def sp (p : Nat → Nat) (H r c : Nat) : Nat := spf p H r r c
def gd2 (p : Nat → Nat) (H r c h : Nat) : Nat := stp c (p h) + sp p H (r - 2 ^ h) (p h)
def door (p : Nat → Nat) (H r c : Nat) : Option Nat := bw (fun h => bt (nI r) h) (gd2 p H r c) H
def dr (p : Nat → Nat) (H : Nat) : Nat → Nat → Nat → Option Nat
  | 0, r, c => door p H r c
  | k + 1, r, c => match door p H r c with
    | none => none
    | some j => dr p H k (r - 2 ^ j) (p j)
def oj (o : Option Nat) : Int32 := match o with
  | none => -9
  | some j => nI j
def cb (r H : Nat) : Nat := cn (fun h => bt (nI r) h) H
theorem rb1 : ∀ r, r < 128 → ∀ h, h < 7 → bt (nI r) h = true → 2 ^ h ≤ r ∧ nI r &&& (bi h ^^^ -1) = nI (r - 2 ^ h) := by decide +kernel
theorem rb2 : ∀ r, r < 128 → ∀ h, h < 7 → ∀ i, i < 7 → bt (nI r) h = true → bt (nI (r - 2 ^ h)) i = (bt (nI r) i && decide (i ≠ h)) := by decide +kernel
theorem rb0 : ∀ h, h < 8 → bt (nI 0) h = false := by decide +kernel
section Sp
variable {p : Nat → Nat} {H : Nat}
theorem spf_0 (hH : H ≤ 7) (k c : Nat) : spf p H k 0 c = 0 := by
  cases k with
  | zero => rfl
  | succ k =>
    show sl (bw (fun h => bt (nI 0) h) _ H) _ = 0
    have : ∀ (g : Nat → Nat) n, n ≤ 7 → bw (fun h => bt (nI 0) h) g n = none := by
      intro g n
      induction n with
      | zero => intro _; rfl
      | succ n ih => intro hn; rw [bw_f (rb0 n (by omega))]; exact ih (by omega)
    rw [this _ H hH]; rfl
theorem spf_fuel (hH : H ≤ 7) : ∀ k k' r c, r ≤ k → r ≤ k' → spf p H k r c = spf p H k' r c
  | 0, k', r, c, h, _ => by rw [show r = 0 by omega, spf_0 hH, spf_0 hH]
  | k + 1, 0, r, c, _, h => by rw [show r = 0 by omega, spf_0 hH, spf_0 hH]
  | k + 1, k' + 1, r, c, h, h' => by
    have e : ∀ i, spf p H k (r - 2 ^ i) (p i) = spf p H k' (r - 2 ^ i) (p i) := fun i => by
      have := Nat.one_le_two_pow (n := i)
      exact spf_fuel hH k k' _ _ (by omega) (by omega)
    show sl (bw _ (fun i => stp c (p i) + spf p H k (r - 2 ^ i) (p i)) H) (fun i => stp c (p i) + spf p H k (r - 2 ^ i) (p i)) = sl (bw _ (fun i => stp c (p i) + spf p H k' (r - 2 ^ i) (p i)) H) (fun i => stp c (p i) + spf p H k' (r - 2 ^ i) (p i))
    rw [show (fun i => stp c (p i) + spf p H k (r - 2 ^ i) (p i)) = (fun i => stp c (p i) + spf p H k' (r - 2 ^ i) (p i)) from funext (fun i => by rw [e i])]
theorem sp_eq (hH : H ≤ 7) (r c : Nat) : sp p H r c = sl (door p H r c) (gd2 p H r c) := by
  have e : (fun i => stp c (p i) + spf p H r (r - 2 ^ i) (p i)) = gd2 p H r c := funext (fun i => by
    show _ = stp c (p i) + spf p H (r - 2 ^ i) (r - 2 ^ i) (p i)
    rw [spf_fuel hH r (r - 2 ^ i) (r - 2 ^ i) (p i) (Nat.sub_le _ _) (Nat.le_refl _)])
  show spf p H r r c = _
  rw [spf_fuel hH r (r + 1) r c (Nat.le_refl _) (by omega)]
  show sl (bw _ (fun i => stp c (p i) + spf p H r (r - 2 ^ i) (p i)) H) (fun i => stp c (p i) + spf p H r (r - 2 ^ i) (p i)) = _
  rw [e]; rfl
theorem spf_le (hp : ∀ h, p h < 49) : ∀ k r c, c < 49 → spf p H k r c ≤ 12 * k
  | 0, _, _, _ => Nat.le_refl 0
  | k + 1, r, c, hc => by
    show sl (bw _ _ H) (fun j => stp c (p j) + spf p H k (r - 2 ^ j) (p j)) ≤ 12 * (k + 1)
    cases bw (fun h => bt (nI r) h) (fun h => stp c (p h) + spf p H k (r - 2 ^ h) (p h)) H with
    | none => exact Nat.zero_le _
    | some j =>
      show stp c (p j) + spf p H k (r - 2 ^ j) (p j) ≤ _
      have h1 := stp_lt c hc (p j) (hp j)
      have h2 := spf_le hp k (r - 2 ^ j) (p j) (hp j)
      omega
theorem sp_le (hp : ∀ h, p h < 49) {r c : Nat} (hr : r < 128) (hc : c < 49) : sp p H r c < 1600 := by
  have := spf_le (H := H) hp r r c hc
  unfold sp
  omega
theorem gd2_le (hp : ∀ h, p h < 49) {r c h : Nat} (hr : r < 128) (hc : c < 49) : gd2 p H r c h < 1700 := by
  have hs : r - 2 ^ h ≤ r := Nat.sub_le _ _
  have h1 := sp_le (H := H) hp (r := r - 2 ^ h) (c := p h) (Nat.lt_of_le_of_lt hs hr) (hp h)
  have h2 := stp_lt c hc (p h) (hp h)
  unfold gd2
  omega
theorem cn_none {b : Nat → Bool} : ∀ n, (∀ i, i < n → b i = false) → cn b n = 0
  | 0, _ => rfl
  | n + 1, h => by
    show cn b n + (if b n = true then 1 else 0) = 0
    rw [cn_none n (fun i hi => h i (by omega)), h n (by omega)]; rfl
theorem door_none {r c : Nat} (h : door p H r c = none) : cb r H = 0 := cn_none H (bw_none H h)
theorem cb_dn (hH : H ≤ 7) {r j : Nat} (hr : r < 128) (hj : j < H) (hb : bt (nI r) j = true) : cb r H = cb (r - 2 ^ j) H + 1 := by
  have h0 : bt (nI (r - 2 ^ j)) j = false := by rw [rb2 r hr j (by omega) j (by omega) hb]; simp
  have e : cn (fun h => bt (nI r) h) H = cn (fun h => if h < H then bt (nI r) h else if h = j then true else bt (nI (r - 2 ^ j)) h) H := cn_congr H (fun i hi => by rw [if_pos hi])
  unfold cb
  rw [e, cn_one (fun h => bt (nI (r - 2 ^ j)) h) (fun h => if h < H then bt (nI r) h else if h = j then true else bt (nI (r - 2 ^ j)) h) j h0 (by show (if j < H then bt (nI r) j else _) = true; rw [if_pos hj]; exact hb) (fun i hi => by
    show (if i < H then bt (nI r) i else if i = j then true else bt (nI (r - 2 ^ j)) i) = bt (nI (r - 2 ^ j)) i
    by_cases z : i < H
    · rw [if_pos z, rb2 r hr j (by omega) i (by omega) hb, decide_eq_true hi, Bool.and_true]
    · rw [if_neg z, if_neg hi]) H, if_pos hj]
theorem door_some {r c j : Nat} (h : door p H r c = some j) : j < H ∧ bt (nI r) j = true ∧ ∀ i, i < j → bt (nI r) i = true → gd2 p H r c j < gd2 p H r c i := by
  obtain ⟨h1, h2, -, h4⟩ := bw_some H j h
  exact ⟨h1, h2, h4⟩
theorem dr_none (hH : H ≤ 7) : ∀ n r c, r < 128 → cb r H ≤ n → dr p H n r c = none
  | 0, r, c, hr, h => by
    show door p H r c = none
    cases q : door p H r c with
    | none => rfl
    | some j =>
      obtain ⟨h1, h2, -⟩ := door_some q
      have := cb_dn hH hr h1 h2
      omega
  | n + 1, r, c, hr, h => by
    show (match door p H r c with | none => none | some j => dr p H n (r - 2 ^ j) (p j)) = none
    cases q : door p H r c with
    | none => rfl
    | some j =>
      obtain ⟨h1, h2, -⟩ := door_some q
      have := cb_dn hH hr h1 h2
      exact dr_none hH n _ _ (Nat.lt_of_le_of_lt (Nat.sub_le _ _) hr) (by omega)
theorem dr_s {n r c j : Nat} (h : door p H r c = some j) : dr p H (n + 1) r c = dr p H n (r - 2 ^ j) (p j) := by
  show (match door p H r c with | none => none | some j => dr p H n (r - 2 ^ j) (p j)) = _
  rw [h]
theorem dr_n {n r c : Nat} (h : door p H r c = none) : dr p H n r c = none := by
  cases n with
  | zero => exact h
  | succ n =>
    show (match door p H r c with | none => none | some j => dr p H n (r - 2 ^ j) (p j)) = _
    rw [h]
end Sp
/-! the class's round -/
section Xr
variable {M : jm} {p : Nat → Nat} {H a : Nat}
def gdr (a r : Nat) : Prop := nI r &&& (nI a ^^^ -1) = 0
def TB (p : Nat → Nat) (H a : Nat) (M : jm) (R : Nat) : Prop := ∀ r, r < R → gdr a r → ∀ h, h < H → M 15 0 (r * 7 + h) = nI (sp p H r (p h))
theorem gdr_dn {r h : Nat} (hr : r < 128) (hh : h < 7) (hb : bt (nI r) h = true) (hg : gdr a r) : gdr a (r - 2 ^ h) := by
  unfold gdr at hg ⊢
  rw [← (rb1 r hr h hh hb).2, Int32.and_assoc, Int32.and_comm (bi h ^^^ -1), ← Int32.and_assoc, hg, Int32.zero_and]
theorem x_stepsBy (hH : H ≤ 7) (hp : ∀ h, p h < 49) (h3 : ∀ h, h < H → M 1 3 h = nI (p h)) {R r h c : Nat} (hT : TB p H a M R) (hR : r ≤ R) (hr : r < 128) (hg : gdr a r) (hh : h < H) (hb : bt (nI r) h = true) (hc : c < 49) : f_X2_stepsBy M 1 (nI c) (nI r) (nI h) = some (nI (gd2 p H r c h)) := by
  obtain ⟨b1, b2⟩ := rb1 r hr h (by omega) hb
  have e1 : nI r &&& (((1 : Int32) <<< (nI h &&& 31)) ^^^ -1) = nI (r - 2 ^ h) := b2
  have e2 : nI (r - 2 ^ h) * 7 + nI h = nI ((r - 2 ^ h) * 7 + h) := by rw [show (7 : Int32) = nI 7 from rfl, pk_mul, nI_add]
  have hpos := Nat.one_le_two_pow (n := h)
  unfold f_X2_stepsBy
  rw [e1, e2, q_gd (by omega) (by omega), q_gd (by omega) (by omega), q_cl (by omega), q_cl (by omega), h3 h hh, p_steps c hc (p h) (hp h), hT _ (by omega) (gdr_dn hr (by omega) hb hg) h hh, nI_add]
  rfl
theorem x_nextDoor (hH : H ≤ 7) (hp : ∀ h, p h < 49) (h0 : M 1 0 0 = nI H) (h3 : ∀ h, h < H → M 1 3 h = nI (p h)) {R r c : Nat} (hT : TB p H a M R) (hR : r ≤ R) (hr : r < 128) (hg : gdr a r) (hc : c < 49) : f_X2_nextDoor M 1 (nI c) (nI r) = some (oj (door p H r c)) := by
  unfold f_X2_nextDoor
  refine loopE (fun k (s : Int32 × Int32) i => f_X2_nextDoor_l10 M 1 (nI c) (nI r) k s.1 s.2 i) (fun i (s : Int32 × Int32) => (bw (fun h => bt (nI r) h) (gd2 p H r c) i = none ∧ s.1 = -9) ∨ ∃ j, bw (fun h => bt (nI r) h) (gd2 p H r c) i = some j ∧ s.1 = nI j ∧ s.2 = nI (gd2 p H r c j)) (fun o => o = some (oj (door p H r c))) H (fun k s i hi hq => ?_) (fun k s hq => ?_) H 0 10000 (-9, 0) (by omega) (by omega) (Or.inl ⟨rfl, rfl⟩)
  · show ∃ s' : Int32 × Int32, f_X2_nextDoor_l10 M 1 (nI c) (nI r) (k + 1) s.1 s.2 (nI i) = f_X2_nextDoor_l10 M 1 (nI c) (nI r) k s'.1 s'.2 (nI (i + 1)) ∧ _
    have et : ((nI r >>> (nI i &&& 31)) &&& 1 = 0) ↔ bt (nI r) i = false := q_tst (nI r) (by omega)
    have hgi := gd2_le (H := H) hp (h := i) hr hc
    rw [f_X2_nextDoor_l10, h0, if_neg (by rw [q_le (by omega) (by omega)]; omega), i_inc]
    by_cases cbt : bt (nI r) i = false
    · rw [if_pos (et.mpr cbt)]
      refine ⟨s, rfl, ?_⟩
      rw [bw_f cbt]; exact hq
    · have cbt' : bt (nI r) i = true := by simpa using cbt
      rw [if_neg (fun z => cbt (et.mp z)), x_stepsBy hH hp h3 hT hR hr hg hi cbt' hc, q_jb]
      rcases hq with ⟨q1, q2⟩ | ⟨j, q1, q2, q3⟩
      · rw [if_pos q2]
        exact ⟨(nI i, nI (gd2 p H r c i)), rfl, Or.inr ⟨i, bw_t0 cbt' q1, rfl, rfl⟩⟩
      · have hj := (bw_some i j q1).1
        have hgj := gd2_le (H := H) hp (h := j) hr hc
        have hj9 : ∀ j, j < 8 → ¬ nI j = (-9 : Int32) := by decide +kernel
        rw [if_neg (by rw [q2]; exact hj9 j (by omega)), q3]
        by_cases z : gd2 p H r c j ≤ gd2 p H r c i
        · rw [if_pos ((q_le (by omega) (by omega)).mpr z)]
          exact ⟨(s.1, nI (gd2 p H r c j)), rfl, Or.inr ⟨j, bw_t2 q1 z, q2, rfl⟩⟩
        · rw [if_neg (fun y => z ((q_le (by omega) (by omega)).mp y))]
          exact ⟨(nI i, nI (gd2 p H r c i)), rfl, Or.inr ⟨i, bw_t1 cbt' q1 (by omega), rfl, rfl⟩⟩
  · show f_X2_nextDoor_l10 M 1 (nI c) (nI r) (k + 1) s.1 s.2 (nI H) = some (oj (door p H r c))
    rw [f_X2_nextDoor_l10, h0, if_pos ((q_le (by omega) (by omega)).mpr (Nat.le_refl _))]
    unfold door
    rcases hq with ⟨q1, q2⟩ | ⟨j, q1, q2, q3⟩
    · rw [q1, q2]; rfl
    · rw [q1, q2]; rfl
theorem oj9 {o : Option Nat} {j : Nat} (h : o = some j) (hj : j < 8) : ¬ oj o = -9 := by
  have hj9 : ∀ j, j < 8 → ¬ nI j = (-9 : Int32) := by decide +kernel
  rw [h]
  exact hj9 j hj
theorem x_fewest (hH : H ≤ 7) (hp : ∀ h, p h < 49) (h0 : M 1 0 0 = nI H) (h3 : ∀ h, h < H → M 1 3 h = nI (p h)) {R r c : Nat} (hT : TB p H a M R) (hR : r ≤ R) (hr : r < 128) (hg : gdr a r) (hc : c < 49) : f_X2_fewest M 1 (nI c) (nI r) = some (nI (sp p H r c)) := by
  unfold f_X2_fewest
  rw [x_nextDoor hH hp h0 h3 hT hR hr hg hc, q_jb, sp_eq hH]
  cases q : door p H r c with
  | none => rfl
  | some j =>
    obtain ⟨d1, d2, -⟩ := door_some q
    rw [if_neg (oj9 rfl (by omega))]
    show (jb (f_X2_stepsBy M 1 (nI c) (nI r) (nI j)) fun r2 => some r2) = some (nI (gd2 p H r c j))
    rw [x_stepsBy hH hp h3 hT hR hr hg d1 d2 hc, q_jb]
theorem x_plan {w : Nat} (hH : H ≤ 7) (hp : ∀ h, p h < 49) (h0 : M 1 0 0 = nI H) (h3 : ∀ h, h < H → M 1 3 h = nI (p h)) (ha : a < 128) (hA : f_X4_owesBehind M 1 (nI w) 0 = some (nI a)) : ∃ M', f_X2_plan M 1 (nI w) = some M' ∧ (∀ o, o ≠ 15 → M' o = M o) ∧ M' 15 1 0 = nI a ∧ TB p H a M' (a + 1) := by
  unfold f_X2_plan
  rw [hA, q_jb]
  refine loopE (fun k c i => f_X2_plan_l12 1 k c i) (fun i (c : jm) => (∀ o, o ≠ 15 → c o = M o) ∧ c 15 1 0 = nI a ∧ TB p H a c i) (fun o => ∃ M', o = some M' ∧ (∀ o, o ≠ 15 → M' o = M o) ∧ M' 15 1 0 = nI a ∧ TB p H a M' (a + 1)) (a + 1) (fun k c i hi hq => ?_) (fun k c hq => ?_) (a + 1) 0 10000 _ (by omega) (by omega) ⟨fun o ho => ju_ne ho, ju_self, fun r hr => absurd hr (Nat.not_lt_zero r)⟩
  · show ∃ c', f_X2_plan_l12 1 (k + 1) c (nI i) = f_X2_plan_l12 1 k c' (nI (i + 1)) ∧ (∀ o, o ≠ 15 → c' o = M o) ∧ c' 15 1 0 = nI a ∧ TB p H a c' (i + 1)
    obtain ⟨q1, q2, q3⟩ := hq
    rw [f_X2_plan_l12, q2, if_neg (by rw [q_lt (by omega) (by omega)]; omega)]
    by_cases hg : gdr a i
    · have hg' : nI i &&& (nI a ^^^ -1) = 0 := hg
      rw [if_pos hg']
      refine loopE (fun kk c' h => f_X2_plan_l37 1 (f_X2_plan_l12 1 k) (nI i) kk c' h) (fun h (c' : jm) => (∀ o, o ≠ 15 → c' o = M o) ∧ c' 15 1 0 = nI a ∧ TB p H a c' i ∧ ∀ h', h' < h → c' 15 0 (i * 7 + h') = nI (sp p H i (p h'))) (fun o => ∃ c', o = f_X2_plan_l12 1 k c' (nI (i + 1)) ∧ (∀ o, o ≠ 15 → c' o = M o) ∧ c' 15 1 0 = nI a ∧ TB p H a c' (i + 1)) H (fun kk c' h hh hq' => ?_) (fun kk c' hq' => ?_) H 0 10000 c (by omega) (by omega) ⟨q1, q2, q3, fun h' hh' => absurd hh' (Nat.not_lt_zero h')⟩
      · show ∃ c2, f_X2_plan_l37 1 (f_X2_plan_l12 1 k) (nI i) (kk + 1) c' (nI h) = f_X2_plan_l37 1 (f_X2_plan_l12 1 k) (nI i) kk c2 (nI (h + 1)) ∧ (∀ o, o ≠ 15 → c2 o = M o) ∧ c2 15 1 0 = nI a ∧ TB p H a c2 i ∧ ∀ h', h' < h + 1 → c2 15 0 (i * 7 + h') = nI (sp p H i (p h'))
        obtain ⟨u1, u2, u3, u4⟩ := hq'
        have c0 : c' 1 0 0 = nI H := by rw [u1 1 (by omega)]; exact h0
        have c3 : ∀ h, h < H → c' 1 3 h = nI (p h) := fun h hh => by rw [u1 1 (by omega)]; exact h3 h hh
        have e2 : nI i * 7 + nI h = nI (i * 7 + h) := by rw [show (7 : Int32) = nI 7 from rfl, pk_mul, nI_add]
        rw [f_X2_plan_l37, c0, if_neg (by rw [q_le (by omega) (by omega)]; omega), q_gd (by omega) (by omega), q_cl (by omega), c3 h hh, x_fewest hH hp c0 c3 u3 (Nat.le_refl _) (by omega) hg (hp h), q_jb, e2, q_gd (by omega) (by omega), q_cl (by omega), i_inc]
        refine ⟨_, rfl, fun o ho => by rw [ju_ne ho, u1 o ho], by rw [ju_g (by omega)]; exact u2, fun r hr hgr h' hh' => ?_, fun h' hh' => ?_⟩
        · rw [ju_o, if_neg (by omega)]; exact u3 r hr hgr h' hh'
        · rw [ju_o]
          by_cases z : h' = h
          · rw [z, if_pos ⟨rfl, rfl⟩]
          · rw [if_neg (by omega)]; exact u4 h' (by omega)
      · show ∃ c2, f_X2_plan_l37 1 (f_X2_plan_l12 1 k) (nI i) (kk + 1) c' (nI H) = f_X2_plan_l12 1 k c2 (nI (i + 1)) ∧ (∀ o, o ≠ 15 → c2 o = M o) ∧ c2 15 1 0 = nI a ∧ TB p H a c2 (i + 1)
        obtain ⟨u1, u2, u3, u4⟩ := hq'
        rw [f_X2_plan_l37, show c' 1 0 0 = nI H by rw [u1 1 (by omega)]; exact h0, if_pos ((q_le (by omega) (by omega)).mpr (Nat.le_refl _)), i_inc]
        refine ⟨c', rfl, u1, u2, fun r hr hgr h' hh' => ?_⟩
        by_cases z : r = i
        · rw [z]; exact u4 h' hh'
        · exact u3 r (by omega) hgr h' hh'
    · have hg' : ¬ nI i &&& (nI a ^^^ -1) = 0 := hg
      rw [if_neg hg', i_inc]
      refine ⟨c, rfl, q1, q2, fun r hr hgr h' hh' => ?_⟩
      by_cases z : r = i
      · rw [z] at hgr; exact absurd hgr hg
      · exact q3 r (by omega) hgr h' hh'
  · show ∃ M', f_X2_plan_l12 1 (k + 1) c (nI (a + 1)) = some M' ∧ (∀ o, o ≠ 15 → M' o = M o) ∧ M' 15 1 0 = nI a ∧ TB p H a M' (a + 1)
    obtain ⟨q1, q2, q3⟩ := hq
    rw [f_X2_plan_l12, q2, if_pos (by rw [q_lt (by omega) (by omega)]; omega)]
    exact ⟨c, rfl, q1, q2, q3⟩
theorem x_stopL (hH : H ≤ 7) (hp : ∀ h, p h < 49) (h0 : M 1 0 0 = nI H) (h3 : ∀ h, h < H → M 1 3 h = nI (p h)) (hT : TB p H a M (a + 1)) {n : Nat} (hn : n < 2 ^ 31) : ∀ d i r c k, i + d = 7 → d < k → r < 128 → r ≤ a → gdr a r → c < 49 → cb r H ≤ d → i ≤ n → f_X2_stop_l12 M 1 (nI n) k (nI r) (nI c) (nI i) = some (oj (dr p H (n - i) r c)) := by
  intro d
  induction d with
  | zero =>
    intro i r c k hi hk hr ha hg hc hcb hin
    obtain ⟨k, rfl⟩ : ∃ j, k = j + 1 := ⟨k - 1, by omega⟩
    rw [f_X2_stop_l12, if_pos (by rw [show (7 : Int32) = nI 7 from rfl, q_le (by omega) (by omega)]; omega), dr_none hH (n - i) r c hr (by omega)]
    rfl
  | succ d ih =>
    intro i r c k hi hk hr ha hg hc hcb hin
    obtain ⟨k, rfl⟩ : ∃ j, k = j + 1 := ⟨k - 1, by omega⟩
    rw [f_X2_stop_l12, if_neg (by rw [show (7 : Int32) = nI 7 from rfl, q_le (by omega) (by omega)]; omega), x_nextDoor hH hp h0 h3 hT (by omega) hr hg hc, q_jb]
    cases q : door p H r c with
    | none =>
      rw [dr_n q]; rfl
    | some j =>
      obtain ⟨d1, d2, -⟩ := door_some q
      have hcb2 := cb_dn hH hr d1 d2
      obtain ⟨b1, b2⟩ := rb1 r hr j (by omega) d2
      have e1 : nI r &&& (((1 : Int32) <<< (nI j &&& 31)) ^^^ -1) = nI (r - 2 ^ j) := b2
      rw [if_neg (oj9 rfl (by omega))]
      show (if nI i = nI n then some (nI j) else jgd (nI j) 8 (f_X2_stop_l12 M 1 (nI n) k (nI r &&& (((1 : Int32) <<< (nI j &&& 31)) ^^^ -1)) (M 1 3 (Int32.toNatClampNeg (nI j))) (nI i + 1))) = _
      by_cases z : i = n
      · rw [if_pos (by rw [z]), show n - i = 0 by omega]
        show _ = some (oj (door p H r c))
        rw [q]; rfl
      · rw [if_neg (fun y => z ((q_eq (by omega) hn).mp y)), q_gd (by omega) (by omega), q_cl (by omega), e1, h3 j d1, i_inc, ih (i + 1) (r - 2 ^ j) (p j) k (by omega) (by omega) (Nat.lt_of_le_of_lt (Nat.sub_le _ _) hr) (Nat.le_trans (Nat.sub_le _ _) ha) (gdr_dn hr (by omega) d2 hg) (hp j) (by omega) (by omega), show n - i = (n - (i + 1)) + 1 by omega, dr_s q]
end Xr
