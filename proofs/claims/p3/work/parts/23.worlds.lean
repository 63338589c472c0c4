section PW2
variable {M : jm} {o N : Nat} {σ : vl}
theorem p_none {d : Nat} (h : d ≤ 100) : (nI d - nI 1 = -nI 1) ↔ d = 0 := q_m1 d (by omega)
theorem p_minutesOf (hR : RB (M o) σ N) (hb : wb σ N) {h a : Nat} (hh : h < N) (ha : a ≤ 200) : f_X4_minutesOf M o (nI h) (nI a) = some (nI (mns (σ 1 h) (σ 2 h) a)) := by
  have hN8 := hb.1
  obtain ⟨e1, e2, e3, -⟩ := hR.2.1 h hh
  obtain ⟨k1, k2, k3, k4⟩ := hb.2.2.1 h hh
  unfold f_X4_minutesOf
  simp (disch := omega) only [q_gd, q_cl, e1, e2]
  rw [p_minutes k1 k2 ha]
theorem p_minutesBehind (hR : RB (M o) σ N) (hb : wb σ N) {w h n : Nat} (hw : w < vW σ) (hh : h < N) (hn : n ≤ 99) : f_X4_minutesBehind M o (nI w) (nI h) (nI n) = some (nI (mb σ w h n)) := by
  have hd := dk_le (w := w) (h := h) hb n
  unfold f_X4_minutesBehind mb
  rw [p_ageBehind hR hb hw hh hn, q_jb]
  simp only [q_lit]
  by_cases c : dk σ w h n = 0
  · rw [if_pos ((p_none hd).mpr c), if_pos c]
  · rw [if_neg (fun z => c ((p_none hd).mp z)), if_neg c, pk_sub (by omega), p_minutesOf hR hb hh (by omega)]
    rfl
theorem mb_le {w h n : Nat} (hb : wb σ N) (hh : h < N) : mb σ w h n ≤ 300 := by
  have hd := dk_le (w := w) (h := h) hb n
  unfold mb
  split
  · omega
  · exact mns_le (hb.2.2.1 h hh).2.1 (by omega)
theorem price_le {w n : Nat} (hb : wb σ (vH σ)) : price σ n w ≤ 2400 := by
  have := sm_le (f := fun h => mb σ w h n) (c := 300) (vH σ) (fun h hh => mb_le hb hh)
  have := hb.1
  unfold price
  omega
theorem prices_le {n : Nat} (hb : wb σ (vH σ)) : prices σ n ≤ 14400 := by
  have := sm_le (f := price σ n) (c := 2400) (vW σ) (fun w _ => price_le hb)
  have := hb.2.1
  unfold prices
  omega
theorem p_priceBehind (h0 : M o 0 0 = nI (vH σ)) (hR : RB (M o) σ (vH σ)) (hb : wb σ (vH σ)) {w n : Nat} (hw : w < vW σ) (hn : n ≤ 99) : f_X4_priceBehind M o (nI w) (nI n) = some (nI (price σ n w)) := by
  have hN8 := hb.1
  unfold f_X4_priceBehind
  simp only [q_lit]
  rw [loop0 (L := fun k a i => f_X4_priceBehind_l5 M o (nI w) (nI n) k a i) (f := fun i z => z + nI (mb σ w i n)) (K := fun a => some a) (n := vH σ)]
  · rw [ff_sm (fun i => mb σ w i n) 0, Nat.zero_add]; rfl
  · intro k a i hi
    rw [f_X4_priceBehind_l5, h0, if_neg (by rw [q_le (by omega) (by omega)]; omega), p_minutesBehind hR hb hw hi hn, q_jb]
    simp only [q_lit, nI_add]
  · intro k a
    rw [f_X4_priceBehind_l5, h0, if_pos (by rw [q_le (by omega) (by omega)]; omega)]
  · omega
theorem p_pricesBehind (h0 : M o 0 0 = nI (vH σ)) (hR : RB (M o) σ (vH σ)) (hb : wb σ (vH σ)) {n : Nat} (hn : n ≤ 99) : f_X4_pricesBehind M o (nI n) = some (nI (prices σ n)) := by
  have hN8 := hb.1
  have hW6 := hb.2.1
  unfold f_X4_pricesBehind
  simp only [q_lit]
  rw [loop0 (L := fun k a i => f_X4_pricesBehind_l4 M o (nI n) k a i) (f := fun w z => z + nI (price σ n w)) (K := fun a => some a) (n := vW σ)]
  · rw [ff_sm (price σ n) 0, Nat.zero_add]; rfl
  · intro k a w hw
    rw [f_X4_pricesBehind_l4, hR.1, if_neg (by rw [q_le (by omega) (by omega)]; omega)]
    simp only [q_lit]
    rw [loop0 (L := fun k2 a i => f_X4_pricesBehind_l15 M o (f_X4_pricesBehind_l4 M o (nI n) k) (nI n) (nI w) k2 a i) (f := fun i z => z + nI (mb σ w i n)) (K := fun a => f_X4_pricesBehind_l4 M o (nI n) k a (nI (w + 1))) (n := vH σ)]
    · obtain ⟨a, rfl⟩ := q_all a
      rw [ff_sm (fun i => mb σ w i n) a, nI_add]
      rfl
    · intro k2 a i hi
      rw [f_X4_pricesBehind_l15, h0, if_neg (by rw [q_le (by omega) (by omega)]; omega), p_minutesBehind hR hb hw hi hn, q_jb]
      simp only [q_lit, nI_add]
    · intro k2 a
      rw [f_X4_pricesBehind_l15, h0, if_pos (by rw [q_le (by omega) (by omega)]; omega)]
      simp only [q_lit, nI_add]
    · omega
  · intro k a
    rw [f_X4_pricesBehind_l4, hR.1, if_pos (by rw [q_le (by omega) (by omega)]; omega)]
  · omega
theorem p_owesBehind (h0 : M o 0 0 = nI (vH σ)) (hR : RB (M o) σ (vH σ)) (hb : wb σ (vH σ)) {w n : Nat} (hw : w < vW σ) (hn : n ≤ 99) : f_X4_owesBehind M o (nI w) (nI n) = some (nI (bs (owe σ n w) (vH σ))) := by
  have hN8 := hb.1
  unfold f_X4_owesBehind
  simp only [q_lit]
  rw [loop0 (L := fun k a i => f_X4_owesBehind_l5 M o (nI w) (nI n) k a i) (f := fun i z => if owe σ n w i then z ||| bi i else z) (K := fun a => some a) (n := vH σ)]
  · rw [ff_bs _ _ hN8]
  · intro k a i hi
    have hd := dk_le (w := w) (h := i) hb n
    rw [f_X4_owesBehind_l5, h0, if_neg (by rw [q_le (by omega) (by omega)]; omega), p_ageBehind hR hb hw hi hn, q_jb]
    simp only [q_lit, nI_add]
    by_cases c : dk σ w i n = 0
    · rw [if_pos ((p_none hd).mpr c), if_neg (by simp [owe, c])]
    · rw [if_neg (fun z => c ((p_none hd).mp z)), if_pos (by simp [owe, c])]; rfl
  · intro k a
    rw [f_X4_owesBehind_l5, h0, if_pos (by rw [q_le (by omega) (by omega)]; omega)]
  · omega
theorem p_owersBehind (hR : RB (M o) σ N) (hb : wb σ N) {h n : Nat} (hh : h < N) (hn : n ≤ 99) : f_X4_owersBehind M o (nI h) (nI n) = some (nI (bs (fun w => owe σ n w h) (vW σ))) := by
  have hN8 := hb.1
  have hW6 := hb.2.1
  unfold f_X4_owersBehind
  simp only [q_lit]
  rw [loop0 (L := fun k a i => f_X4_owersBehind_l5 M o (nI h) (nI n) k a i) (f := fun i z => if owe σ n i h then z ||| bi i else z) (K := fun a => some a) (n := vW σ)]
  · rw [ff_bs (fun w => owe σ n w h) _ (by omega)]
  · intro k a i hi
    have hd := dk_le (w := i) (h := h) hb n
    rw [f_X4_owersBehind_l5, hR.1, if_neg (by rw [q_le (by omega) (by omega)]; omega), p_ageBehind hR hb hi hh hn, q_jb]
    simp only [q_lit, nI_add]
    by_cases c : dk σ i h n = 0
    · rw [if_pos ((p_none hd).mpr c), if_neg (by simp [owe, c])]
    · rw [if_neg (fun z => c ((p_none hd).mp z)), if_pos (by simp [owe, c])]; rfl
  · intro k a
    rw [f_X4_owersBehind_l5, hR.1, if_pos (by rw [q_le (by omega) (by omega)]; omega)]
  · omega
theorem p_debtsBehind (h0 : M o 0 0 = nI (vH σ)) (hR : RB (M o) σ (vH σ)) (hb : wb σ (vH σ)) {n : Nat} (hn : n ≤ 99) : f_X4_debtsBehind M o (nI n) = some (nI (debts σ n)) := by
  have hN8 := hb.1
  have hW6 := hb.2.1
  unfold f_X4_debtsBehind
  simp only [q_lit]
  rw [loop0 (L := fun k a i => f_X4_debtsBehind_l4 M o (nI n) k a i) (f := fun w z => z + nI (cn (owe σ n w) (vH σ))) (K := fun a => some a) (n := vW σ)]
  · rw [ff_sm (fun w => cn (owe σ n w) (vH σ)) 0, Nat.zero_add]; rfl
  · intro k a w hw
    rw [f_X4_debtsBehind_l4, hR.1, if_neg (by rw [q_le (by omega) (by omega)]; omega), p_owesBehind h0 hR hb hw hn, q_jb, p_bitCount hN8]
    simp only [q_lit, nI_add]
  · intro k a
    rw [f_X4_debtsBehind_l4, hR.1, if_pos (by rw [q_le (by omega) (by omega)]; omega)]
  · omega
def hvy (x : Nat) : Nat := if x ≤ 30 then x else 2 * x
def burden (σ : vl) : Nat := sm (fun w => hvy (price σ 0 w)) (vW σ)
theorem p_burden (h0 : M o 0 0 = nI (vH σ)) (hR : RB (M o) σ (vH σ)) (hb : wb σ (vH σ)) : f_X4_burden M o = some (nI (burden σ)) := by
  have hN8 := hb.1
  have hW6 := hb.2.1
  unfold f_X4_burden
  simp only [q_lit]
  rw [loop0 (L := fun k a i => f_X4_burden_l4 M o k a i) (f := fun w z => z + nI (hvy (price σ 0 w))) (K := fun a => some a) (n := vW σ)]
  · rw [ff_sm (fun w => hvy (price σ 0 w)) 0, Nat.zero_add]; rfl
  · intro k a w hw
    have hp := price_le (w := w) (n := 0) hb
    rw [f_X4_burden_l4, hR.1, if_neg (by rw [q_le (by omega) (by omega)]; omega)]
    simp only [q_lit]
    rw [p_priceBehind h0 hR hb hw (by omega), q_jb]
    simp (disch := omega) only [nI_add, pk_mul, q_le]
    unfold hvy
    split <;> rfl
  · intro k a
    rw [f_X4_burden_l4, hR.1, if_pos (by rw [q_le (by omega) (by omega)]; omega)]
  · omega
/-- the greatest of debts: 0 none, else age + 1 -/
def mx (f : Nat → Nat) : Nat → Nat
  | 0 => 0
  | n + 1 => max (mx f n) (f n)
theorem mx_le {f : Nat → Nat} {c : Nat} : ∀ n, (∀ i, i < n → f i ≤ c) → mx f n ≤ c
  | 0, _ => Nat.zero_le c
  | n + 1, h => by
    have h1 := mx_le n (fun i hi => h i (by omega))
    have h2 := h n (by omega)
    show max (mx f n) (f n) ≤ c
    omega
theorem ff_mx {f : Nat → Nat} : ∀ n, (∀ i, i < n → f i ≤ 100) → ff (fun i z => if z < nI (f i) - nI 1 then nI (f i) - nI 1 else z) n 0 (nI 0 - nI 1) = nI (mx f n) - nI 1
  | 0, _ => rfl
  | n + 1, h => by
    have h1 := mx_le n (fun i hi => h i (by omega))
    have h2 := h n (by omega)
    rw [ff_succ, ff_mx n (fun i hi => h i (by omega)), Nat.zero_add]
    show (if nI (mx f n) - nI 1 < nI (f n) - nI 1 then nI (f n) - nI 1 else nI (mx f n) - nI 1) = nI (max (mx f n) (f n)) - nI 1
    have e : nI (mx f n) - nI 1 < nI (f n) - nI 1 ↔ mx f n < f n := by
      rw [Int32.lt_iff_toInt_lt, pk_sub_toInt (by omega) (by omega), pk_sub_toInt (by omega) (by omega)]; omega
    by_cases c : mx f n < f n
    · rw [if_pos (e.mpr c), Nat.max_eq_right (by omega)]
    · rw [if_neg (fun z => c (e.mp z)), Nat.max_eq_left (by omega)]
theorem p_highestAgeOf (h0 : M o 0 0 = nI (vH σ)) (hR : RB (M o) σ (vH σ)) (hb : wb σ (vH σ)) {w : Nat} (hw : w < vW σ) : f_X4_highestAgeOf M o (nI w) = some (nI (mx (fun h => σ (20 + w) h) (vH σ)) - nI 1) := by
  have hN8 := hb.1
  have hW6 := hb.2.1
  unfold f_X4_highestAgeOf
  simp only [q_lit]
  rw [show (-nI 1 : Int32) = nI 0 - nI 1 from rfl]
  rw [loop0 (L := fun k a i => f_X4_highestAgeOf_l4 M o (nI w) k a i) (f := fun i z => if z < nI (σ (20 + w) i) - nI 1 then nI (σ (20 + w) i) - nI 1 else z) (K := fun a => some a) (n := vH σ)]
  · rw [ff_mx (f := fun h => σ (20 + w) h) _ (fun i _ => hb.2.2.2.2 w i)]
  · intro k a i hi
    rw [f_X4_highestAgeOf_l4, h0, if_neg (by rw [q_le (by omega) (by omega)]; omega)]
    simp (disch := omega) only [q_lit, nI_add, pk_mul, q_gd, q_cl, hR.2.2.2 w (by omega) i (by omega)]
  · intro k a
    rw [f_X4_highestAgeOf_l4, h0, if_pos (by rw [q_le (by omega) (by omega)]; omega)]
  · omega
theorem p_seesFrom (h0 : M o 0 0 = nI (vH σ)) (hR : RB (M o) σ (vH σ)) (hb : wb σ (vH σ)) {w c : Nat} (hw : w < vW σ) (hc : c < 49) : f_X4_seesFrom M o (nI w) (nI c) = some (nI (bs (see σ w c) (vH σ))) := by
  have hN8 := hb.1
  unfold f_X4_seesFrom
  simp only [q_lit]
  rw [loop0 (L := fun k a i => f_X4_seesFrom_l5 M o (nI w) (nI c) k a i) (f := fun i z => if see σ w c i then z ||| bi i else z) (K := fun a => some a) (n := vH σ)]
  · rw [ff_bs _ _ hN8]
  · intro k a i hi
    obtain ⟨e1, e2, e3, -⟩ := hR.2.1 i hi
    have k3 := (hb.2.2.1 i hi).2.2.1
    rw [f_X4_seesFrom_l5, h0, if_neg (by rw [q_le (by omega) (by omega)]; omega), q_gd (by omega) (by omega), p_rangeOf hR hb hw hi, q_jb]
    simp (disch := omega) only [q_lit, nI_add, q_cl, e3]
    rw [p_steps _ hc _ k3]
    by_cases q : see σ w c i = true
    · rw [if_neg (fun z => by rw [(p_rcmp hb hi hc).mp z] at q; cases q), if_pos q]; rfl
    · rw [if_pos ((p_rcmp hb hi hc).mpr (by simpa using q)), if_neg q]
  · intro k a
    rw [f_X4_seesFrom_l5, h0, if_pos (by rw [q_le (by omega) (by omega)]; omega)]
  · omega
theorem p_seenBy (hR : RB (M o) σ N) (hb : wb σ N) {h : Nat} (hh : h < N) : f_X4_seenBy M o (nI h) = some (nI (bs (fun w => see σ w (σ 6 w) h) (vW σ))) := by
  have hN8 := hb.1
  have hW6 := hb.2.1
  obtain ⟨e1, e2, e3, -⟩ := hR.2.1 h hh
  have k3 := (hb.2.2.1 h hh).2.2.1
  unfold f_X4_seenBy
  simp only [q_lit]
  rw [loop0 (L := fun k a i => f_X4_seenBy_l4 M o (nI h) k a i) (f := fun i z => if see σ i (σ 6 i) h then z ||| bi i else z) (K := fun a => some a) (n := vW σ)]
  · rw [ff_bs (fun w => see σ w (σ 6 w) h) _ (by omega)]
  · intro k a i hi
    have hc := (hb.2.2.2.1 i hi).1
    rw [f_X4_seenBy_l4, hR.1, if_neg (by rw [q_le (by omega) (by omega)]; omega), q_gd (by omega) (by omega), q_gd (by omega) (by omega), p_rangeOf hR hb hi hh, q_jb]
    simp (disch := omega) only [q_lit, nI_add, q_cl, e3, (hR.2.2.1 i hi).1]
    rw [p_steps _ hc _ k3]
    by_cases q : see σ i (σ 6 i) h = true
    · rw [if_neg (fun z => by rw [(p_rcmp hb hh hc).mp z] at q; cases q), if_pos q]; rfl
    · rw [if_pos ((p_rcmp hb hh hc).mpr (by simpa using q)), if_neg q]
  · intro k a
    rw [f_X4_seenBy_l4, hR.1, if_pos (by rw [q_le (by omega) (by omega)]; omega)]
  · omega
/-- in how many of the evenings 1 .. n he sees it -/
def sgt (σ : vl) (w h : Nat) (n : Nat) : Nat := cn (fun k => see σ w (pl σ w (k + 1)) h) n
theorem p_sightings (hR : RB (M o) σ N) (hb : wb σ N) {w h n : Nat} (hw : w < vW σ) (hh : h < N) (hn : n ≤ 99) : f_X4_sightings M o (nI w) (nI h) (nI n) = some (nI (sgt σ w h n)) := by
  have hN8 := hb.1
  have hW6 := hb.2.1
  obtain ⟨e1, e2, e3, -⟩ := hR.2.1 h hh
  have k3 := (hb.2.2.1 h hh).2.2.1
  have L : ∀ d k f, k + d = n → d < f → f_X4_sightings_l6 M o (nI w) (nI h) (nI n) f (nI (sgt σ w h k)) (nI (k + 1)) = some (nI (sgt σ w h n)) := by
    intro d
    induction d with
    | zero =>
      intro k f h1 h2
      obtain ⟨f, rfl⟩ : ∃ j, f = j + 1 := ⟨f - 1, by omega⟩
      rw [f_X4_sightings_l6, if_pos (by rw [q_lt (by omega) (by omega)]; omega), show k = n by omega]
    | succ d ih =>
      intro k f h1 h2
      obtain ⟨f, rfl⟩ : ∃ j, f = j + 1 := ⟨f - 1, by omega⟩
      have hc := pl_lt hb hw (k + 1)
      rw [f_X4_sightings_l6, if_neg (by rw [q_lt (by omega) (by omega)]; omega), p_placeBehind hR hb hw (by omega), q_jb, q_gd (by omega) (by omega), p_rangeOf hR hb hw hh, q_jb]
      simp (disch := omega) only [q_lit, nI_add, q_cl, e3]
      rw [p_steps _ hc _ k3]
      have ih := ih (k + 1) f (by omega) (by omega)
      by_cases q : see σ w (pl σ w (k + 1)) h = true
      · rw [if_neg (fun z => by rw [(p_rcmp hb hh hc).mp z] at q; cases q)]
        have e : sgt σ w h (k + 1) = sgt σ w h k + 1 := by
          show cn _ k + (if see σ w (pl σ w (k + 1)) h then 1 else 0) = _
          rw [if_pos q]; rfl
        rw [e] at ih
        exact ih
      · rw [if_pos ((p_rcmp hb hh hc).mpr (by simpa using q))]
        have e : sgt σ w h (k + 1) = sgt σ w h k := by
          show cn _ k + (if see σ w (pl σ w (k + 1)) h then 1 else 0) = _
          rw [if_neg q]; rfl
        rw [e] at ih
        exact ih
  exact L n 0 10000 (by omega) (by omega)
end PW2
