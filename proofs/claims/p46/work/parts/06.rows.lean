/-! the memory of the two systems: object, field, place; 17 objects: 0 the class itself, 1 .. 11 its Worlds (now, mind, picture, the eight that are kept), 12 History, 13 Letters, 14 WayFinder, 15 Round, 16 the reference -/
abbrev jm : Type := Nat → Nat → Nat → Int32
abbrev jX : Type := va_G × ClassId × ClassId × (Nat → Nat)
def jO (X : jX) (o : Nat) : Nat := X.2.2.2 (64 * o + 63)
def jA (X : jX) (o k : Nat) : Nat := X.2.2.2 (64 * o + k)
def jcl : List vw_C := [(RX0, TX0, 3), (RX1, TX1, 2), (RX2, TX2, 2), (RX3, TX3, 3), (RX4, TX4, 11), (RX5, TX5, 11), (RX6, TX6, 39)]
def jC (c : Nat) : vw_C := match c with
  | 0 => (RX0, TX0, 3)
  | 1 => (RX1, TX1, 2)
  | 2 => (RX2, TX2, 2)
  | 3 => (RX3, TX3, 3)
  | 4 => (RX4, TX4, 11)
  | 5 => (RX5, TX5, 11)
  | _ => (RX6, TX6, 39)
theorem jcl_at : ∀ c, c < 7 → jcl[c]? = some (jC c)
  | 0, _ => rfl
  | 1, _ => rfl
  | 2, _ => rfl
  | 3, _ => rfl
  | 4, _ => rfl
  | 5, _ => rfl
  | 6, _ => rfl
  | n + 7, h => absurd h (by omega)
def jcls (o : Nat) : Nat := if o = 0 then 5 else if o ≤ 11 then 4 else if o = 12 then 0 else if o = 13 then 1 else if o = 14 then 3 else if o = 15 then 2 else 6
def job (o c : Nat) : Prop := o < 17 ∧ jcls o = c
/-- lengths of the int arrays (0: no int array) -/
def jal (c k : Nat) : Nat := match c with
  | 1 => if k = 0 then 96 else 0
  | 2 => if k = 0 then 896 else 0
  | 3 => if k = 0 then 49 else 0
  | 4 => [0, 8, 8, 8, 0, 0, 6, 6, 6, 48, 0].getD k 0
  | 5 => [0, 0, 0, 0, 0, 0, 0, 0, 12, 0, 7].getD k 0
  | 6 => [0, 8, 8, 8, 8, 0, 6, 6, 6, 42, 0, 0, 7, 96, 0, 0, 0, 0, 49, 49, 147, 91, 91, 0, 0, 0, 0, 728, 91, 0, 6272, 6272, 0, 1024, 49, 12, 0, 8, 0].getD k 0
  | _ => 0
/-- kinds of the fields: 0 a number, 1 a row of its own, 2 an object, 3 the reference's keptIn -/
def jft (c k : Nat) : Nat := match c with
  | 0 => if k = 0 then 1 else 0
  | 5 => [2, 2, 2, 0, 2, 2, 2, 2, 1, 0, 1].getD k 0
  | 6 => if k = 26 then 3 else if jal 6 k = 0 then 0 else 1
  | c => if jal c k = 0 then 0 else 1
/-- whom the class's own object fields name -/
def jpt (k : Nat) : Nat := [1, 2, 3, 0, 12, 13, 14, 15].getD k 0
def jfw (X : jX) (c o k : Nat) (z : Int32) : Value := match jft c k with
  | 0 => .int z
  | 1 => .ref (jA X o k)
  | 2 => .ref (jO X (jpt k))
  | _ => if z = 0 then .null else .ref (jA X o z.toNatClampNeg)
def ju (M : jm) (o k i : Nat) (x : Int32) : jm := fun o' k' i' => if o' = o ∧ k' = k ∧ i' = i then x else M o' k' i'
/-- a row taken over from another object's -/
def jcp (M : jm) (o k o2 : Nat) : jm := fun o' k' i' => if o' = o ∧ k' = k then M o2 k i' else M o' k' i'
def jrp (X : jX) (M : jm) (H : Heap) : Prop :=
  (∀ o, o < 17 → t_OB (jO X o) (X.1.1 (jcls o)) (jC (jcls o)).2.2 (X.1.2 (jcls o)) H (fun k => jfw X (jcls o) o k (M o k 0))) ∧
  (∀ o k, o < 17 → jal (jcls o) k ≠ 0 → H[jA X o k]? = some (vp_cell X.2.1 (jal (jcls o) k, .inl (M o k)))) ∧
  H[jA X 12 0]? = some (vp_cell X.2.2.1 (8, .inr (.inr (.inr (.inr (fun i => some (jO X (4 + i))))))))
/-- codes of the cells -/
def jvl (q : Nat) : Prop := ∃ o k, o < 17 ∧ k < 64 ∧ q = 64 * o + k ∧ (k = 63 ∨ jal (jcls o) k ≠ 0 ∨ (o = 12 ∧ k = 0))
def jst (X : jX) (A : Nat → Prop) : Prop := ∀ q, jvl q → A (X.2.2.2 q) ∧ ∀ r, jvl r → X.2.2.2 q = X.2.2.2 r → q = r
/-- the words that a call hands on -/
def jtb : List Cond := lw_tbl.filter goodWord
/-- the links to nest mates -/
def jnw : List (String × Nat × MethodName) := [(RX5, 35, yX1_init), (RX5, 42, yX3_init), (RX5, 49, yX2_init), (RX4, 58, yX5_isCell), (RX4, 90, yX5_reach), (RX4, 99, yX5_stepTowards), (RX4, 93, yX5_steps), (RX4, 84, yX5_minutes), (RX3, 41, yX5_steps), (RX2, 42, yX5_steps)]
def jN (U : State) : Prop := ∀ q ∈ jnw, va_Nw (.methodLinkNest q.1 q.2.1 q.2.2 RX5) U
theorem jN.warm {s U : State} (hW : s.WarmedH U.vm) (h : jN s) : jN U := fun q hq => va_Nw.warmM hW (h q hq)
theorem jN.same {s U : State} (hv : s.vm = U.vm) (h : jN s) : jN U := fun q hq => va_Nw.same rfl hv (h q hq)
def jK (X : jX) (U : State) : Prop := va_K X.1 jcl [(X.2.1, .int), (X.2.2.1, .object RX4)] U ∧ jN U
theorem jK.warm {X : jX} {s U : State} (hW : s.WarmedH U.vm) (h : jK X s) : jK X U := ⟨va_K.moved hW.alike h.1, h.2.warm hW⟩
theorem jtb_mem {w : Cond} (i : Nat) (h : lw_tbl[i]? = some w) (h2 : goodWord w = true) : w ∈ jtb := List.mem_filter.mpr ⟨List.mem_of_getElem? h, h2⟩
theorem jtb_good : ∀ w ∈ jtb, (w.onTables && w.keeps) = true ∨ ∃ ty, w = .arrayClass ty := fun w h => good_of_word (List.mem_filter.mp h).2
def jB (X : jX) (M : jm) (U : State) : Prop := jrp X M U.heap ∧ jK X U
def jws (y : MethodName) (b : ByteArray) (n : Nat) (ret : Option FieldType) : List Cond := Cond.code y b n ret :: jtb
def jrm (f n : Nat) : Room := { frames := f, cells := 0, slots := 0, locals := n }
def jfl (own : String) (index c k : Nat) : Cond := .fieldLink own index ((jC c).2.1 k).1 ((jC c).2.1 k).2.1 ((jC c).2.1 k).2.2.1
/-- what a pure method ends with -/
def jQ (v : Value) : Array Value → State → Outcome → State → Prop := fun _ st o t => o = .returned (some v) ∧ t.heap = st.heap
/-- what a method ends with that leaves the memory N -/
def jQm (X : jX) (A : Nat → Prop) (v : Option Value) (N : jm) : Array Value → State → Outcome → State → Prop := fun _ st o t => (o = .returned v ∧ jB X N t) ∧ va_F A st t
-- guards of the functions
def jgd {α : Type} (i : Int32) (n : Nat) (a : Option α) : Option α := if i < 0 ∨ n ≤ i.toNatClampNeg then none else a
def jgb {α : Type} (v : Int32) (a : Option α) : Option α := if v = 0 ∨ v = 1 then a else none
def jgz {α : Type} (v : Int32) (a : Option α) : Option α := if v = 0 then none else a
def jgl {α : Type} (v : Int64) (a : Option α) : Option α := if v = 0 then none else a
def jgk {α : Type} (z : Int32) (a : Option α) : Option α := if z = 21 ∨ z = 22 ∨ z = 28 then a else none
def jb {α β : Type} (a : Option β) (k : β → Option α) : Option α := a.bind k
def jb2 {α β : Type} (a : Option (β × jm)) (k : β → jm → Option α) : Option α := a.bind fun q => k q.1 q.2
theorem jh_t {c : Prop} {α : Type} {A B z : α} {hd : Decidable c} (h : @ite α c hd A B = z) (hc : c) : A = z := by rw [if_pos hc] at h; exact h
theorem jh_f {c : Prop} {α : Type} {A B z : α} {hd : Decidable c} (h : @ite α c hd A B = z) (hc : ¬ c) : B = z := by rw [if_neg hc] at h; exact h
theorem jh_gd {α : Type} {i : Int32} {n : Nat} {a : Option α} {r : α} (h : jgd i n a = some r) : vp_in i n ∧ a = some r := by
  unfold jgd at h
  by_cases c : i < 0 ∨ n ≤ i.toNatClampNeg
  · rw [if_pos c] at h; cases h
  · rw [if_neg c] at h; exact ⟨c, h⟩
theorem jh_gb {α : Type} {v : Int32} {a : Option α} {r : α} (h : jgb v a = some r) : (v = 0 ∨ v = 1) ∧ a = some r := by
  unfold jgb at h
  by_cases c : v = 0 ∨ v = 1
  · rw [if_pos c] at h; exact ⟨c, h⟩
  · rw [if_neg c] at h; cases h
theorem jh_gz {α : Type} {v : Int32} {a : Option α} {r : α} (h : jgz v a = some r) : ¬ v = 0 ∧ a = some r := by
  unfold jgz at h
  by_cases c : v = 0
  · rw [if_pos c] at h; cases h
  · rw [if_neg c] at h; exact ⟨c, h⟩
theorem jh_gl {α : Type} {v : Int64} {a : Option α} {r : α} (h : jgl v a = some r) : ¬ v = 0 ∧ a = some r := by
  unfold jgl at h
  by_cases c : v = 0
  · rw [if_pos c] at h; cases h
  · rw [if_neg c] at h; exact ⟨c, h⟩
theorem jh_gk {α : Type} {z : Int32} {a : Option α} {r : α} (h : jgk z a = some r) : (z = 21 ∨ z = 22 ∨ z = 28) ∧ a = some r := by
  unfold jgk at h
  by_cases c : z = 21 ∨ z = 22 ∨ z = 28
  · rw [if_pos c] at h; exact ⟨c, h⟩
  · rw [if_neg c] at h; cases h
theorem jh_b {α β : Type} {a : Option β} {k : β → Option α} {r : α} (h : jb a k = some r) : ∃ b, a = some b ∧ k b = some r := by
  cases a with
  | none => cases h
  | some b => exact ⟨b, rfl, h⟩
theorem jh_b2 {α β : Type} {a : Option (β × jm)} {k : β → jm → Option α} {r : α} (h : jb2 a k = some r) : ∃ b N, a = some (b, N) ∧ k b N = some r := by
  cases a with
  | none => cases h
  | some q => exact ⟨q.1, q.2, rfl, h⟩
theorem jn_b {v : Int32} (h : v = 0 ∨ v = 1) : narrow .boolean (.int v) = .int v := by
  rcases h with rfl | rfl <;> rfl
theorem jf_b {v : Int32} (h : v = 0 ∨ v = 1) : fits .boolean (.int v) = true := by
  rcases h with rfl | rfl <;> rfl
theorem jcls_lt (o : Nat) : jcls o < 7 := by
  unfold jcls
  repeat' split
  all_goals omega
theorem jgetD_out {q : List Nat} {k : Nat} (h : q.length ≤ k) : q.getD k 0 = 0 := by rw [List.getD_eq_getElem?_getD, List.getElem?_eq_none h]; rfl
theorem jal_k : ∀ c, c < 7 → ∀ k, jal c k ≠ 0 → k < 39 := by
  intro c hc k h
  rcases Nat.lt_or_ge k 39 with q | q
  · exact q
  · exfalso
    apply h
    rcases (show c = 0 ∨ c = 1 ∨ c = 2 ∨ c = 3 ∨ c = 4 ∨ c = 5 ∨ c = 6 by omega) with rfl | rfl | rfl | rfl | rfl | rfl | rfl
    · rfl
    · show (if k = 0 then 96 else 0) = 0; rw [if_neg (by omega)]
    · show (if k = 0 then 896 else 0) = 0; rw [if_neg (by omega)]
    · show (if k = 0 then 49 else 0) = 0; rw [if_neg (by omega)]
    · exact jgetD_out (by simp; omega)
    · exact jgetD_out (by simp; omega)
    · exact jgetD_out (by simp; omega)
theorem jft_arr0 : ∀ c, c < 7 → ∀ k, k < 39 → jal c k ≠ 0 → jft c k = 1 := by decide +kernel
theorem jft_arr {c k : Nat} (hc : c < 7) (h : jal c k ≠ 0) : jft c k = 1 := jft_arr0 c hc k (jal_k c hc k h) h
theorem jft_num0 : ∀ c, c < 7 → ∀ k, k < 39 → k < (jC c).2.2 → (jft c k = 0 ∨ jft c k = 3) → jal c k = 0 := by decide +kernel
theorem jC_le : ∀ c, (jC c).2.2 ≤ 39
  | 0 => by decide
  | 1 => by decide
  | 2 => by decide
  | 3 => by decide
  | 4 => by decide
  | 5 => by decide
  | _ + 6 => Nat.le_refl _
theorem jtl_1 {w : Cond} (i : Nat) (h : tables_1_1[i]? = some w) : w ∈ lw_tbl := List.mem_append.mpr (Or.inr (List.mem_append.mpr (Or.inl (List.mem_of_getElem? h))))
theorem jtl_2 {w : Cond} (i : Nat) (h : tables_1_2[i]? = some w) : w ∈ lw_tbl := List.mem_append.mpr (Or.inr (List.mem_append.mpr (Or.inr (List.mem_append.mpr (Or.inl (List.mem_of_getElem? h))))))
theorem jtl_3 {w : Cond} (i : Nat) (h : tables_1_3[i]? = some w) : w ∈ lw_tbl := List.mem_append.mpr (Or.inr (List.mem_append.mpr (Or.inr (List.mem_append.mpr (Or.inr (List.mem_append.mpr (Or.inl (List.mem_of_getElem? h))))))))
theorem jtl_4 {w : Cond} (i : Nat) (h : tables_1_4[i]? = some w) : w ∈ lw_tbl := List.mem_append.mpr (Or.inr (List.mem_append.mpr (Or.inr (List.mem_append.mpr (Or.inr (List.mem_append.mpr (Or.inr (List.mem_append.mpr (Or.inl (List.mem_of_getElem? h))))))))))
theorem jtl_5 {w : Cond} (i : Nat) (h : tables_1_5[i]? = some w) : w ∈ lw_tbl := List.mem_append.mpr (Or.inr (List.mem_append.mpr (Or.inr (List.mem_append.mpr (Or.inr (List.mem_append.mpr (Or.inr (List.mem_append.mpr (Or.inr (List.mem_append.mpr (Or.inl (List.mem_of_getElem? h))))))))))))
theorem jtl_6 {w : Cond} (i : Nat) (h : tables_1_6[i]? = some w) : w ∈ lw_tbl := List.mem_append.mpr (Or.inr (List.mem_append.mpr (Or.inr (List.mem_append.mpr (Or.inr (List.mem_append.mpr (Or.inr (List.mem_append.mpr (Or.inr (List.mem_append.mpr (Or.inr (List.mem_of_getElem? h))))))))))))
set_option maxRecDepth 100000 in
theorem jin0_0_0 : u_lay (jC 0).1 (jC 0).2.1 0 ∈ lw_tbl ∧ goodWord (u_lay (jC 0).1 (jC 0).2.1 0) = true := ⟨jtl_1 91 rfl, rfl⟩
set_option maxRecDepth 100000 in
theorem jin0_0_1 : u_lay (jC 0).1 (jC 0).2.1 1 ∈ lw_tbl ∧ goodWord (u_lay (jC 0).1 (jC 0).2.1 1) = true := ⟨jtl_1 93 rfl, rfl⟩
set_option maxRecDepth 100000 in
theorem jin0_0_2 : u_lay (jC 0).1 (jC 0).2.1 2 ∈ lw_tbl ∧ goodWord (u_lay (jC 0).1 (jC 0).2.1 2) = true := ⟨jtl_1 95 rfl, rfl⟩
set_option maxRecDepth 100000 in
theorem jin0_1_0 : u_lay (jC 1).1 (jC 1).2.1 0 ∈ lw_tbl ∧ goodWord (u_lay (jC 1).1 (jC 1).2.1 0) = true := ⟨jtl_1 107 rfl, rfl⟩
set_option maxRecDepth 100000 in
theorem jin0_1_1 : u_lay (jC 1).1 (jC 1).2.1 1 ∈ lw_tbl ∧ goodWord (u_lay (jC 1).1 (jC 1).2.1 1) = true := ⟨jtl_1 109 rfl, rfl⟩
set_option maxRecDepth 100000 in
theorem jin0_2_0 : u_lay (jC 2).1 (jC 2).2.1 0 ∈ lw_tbl ∧ goodWord (u_lay (jC 2).1 (jC 2).2.1 0) = true := ⟨jtl_1 139 rfl, rfl⟩
set_option maxRecDepth 100000 in
theorem jin0_2_1 : u_lay (jC 2).1 (jC 2).2.1 1 ∈ lw_tbl ∧ goodWord (u_lay (jC 2).1 (jC 2).2.1 1) = true := ⟨jtl_1 141 rfl, rfl⟩
set_option maxRecDepth 100000 in
theorem jin0_3_0 : u_lay (jC 3).1 (jC 3).2.1 0 ∈ lw_tbl ∧ goodWord (u_lay (jC 3).1 (jC 3).2.1 0) = true := ⟨jtl_1 123 rfl, rfl⟩
set_option maxRecDepth 100000 in
theorem jin0_3_1 : u_lay (jC 3).1 (jC 3).2.1 1 ∈ lw_tbl ∧ goodWord (u_lay (jC 3).1 (jC 3).2.1 1) = true := ⟨jtl_1 125 rfl, rfl⟩
set_option maxRecDepth 100000 in
theorem jin0_3_2 : u_lay (jC 3).1 (jC 3).2.1 2 ∈ lw_tbl ∧ goodWord (u_lay (jC 3).1 (jC 3).2.1 2) = true := ⟨jtl_1 127 rfl, rfl⟩
set_option maxRecDepth 100000 in
theorem jin0_4_0 : u_lay (jC 4).1 (jC 4).2.1 0 ∈ lw_tbl ∧ goodWord (u_lay (jC 4).1 (jC 4).2.1 0) = true := ⟨jtl_1 54 rfl, rfl⟩
set_option maxRecDepth 100000 in
theorem jin0_4_1 : u_lay (jC 4).1 (jC 4).2.1 1 ∈ lw_tbl ∧ goodWord (u_lay (jC 4).1 (jC 4).2.1 1) = true := ⟨jtl_1 56 rfl, rfl⟩
set_option maxRecDepth 100000 in
theorem jin0_4_2 : u_lay (jC 4).1 (jC 4).2.1 2 ∈ lw_tbl ∧ goodWord (u_lay (jC 4).1 (jC 4).2.1 2) = true := ⟨jtl_1 58 rfl, rfl⟩
set_option maxRecDepth 100000 in
theorem jin0_4_3 : u_lay (jC 4).1 (jC 4).2.1 3 ∈ lw_tbl ∧ goodWord (u_lay (jC 4).1 (jC 4).2.1 3) = true := ⟨jtl_1 60 rfl, rfl⟩
set_option maxRecDepth 100000 in
theorem jin0_4_4 : u_lay (jC 4).1 (jC 4).2.1 4 ∈ lw_tbl ∧ goodWord (u_lay (jC 4).1 (jC 4).2.1 4) = true := ⟨jtl_1 62 rfl, rfl⟩
set_option maxRecDepth 100000 in
theorem jin0_4_5 : u_lay (jC 4).1 (jC 4).2.1 5 ∈ lw_tbl ∧ goodWord (u_lay (jC 4).1 (jC 4).2.1 5) = true := ⟨jtl_1 64 rfl, rfl⟩
set_option maxRecDepth 100000 in
theorem jin0_4_6 : u_lay (jC 4).1 (jC 4).2.1 6 ∈ lw_tbl ∧ goodWord (u_lay (jC 4).1 (jC 4).2.1 6) = true := ⟨jtl_1 66 rfl, rfl⟩
set_option maxRecDepth 100000 in
theorem jin0_4_7 : u_lay (jC 4).1 (jC 4).2.1 7 ∈ lw_tbl ∧ goodWord (u_lay (jC 4).1 (jC 4).2.1 7) = true := ⟨jtl_1 68 rfl, rfl⟩
set_option maxRecDepth 100000 in
theorem jin0_4_8 : u_lay (jC 4).1 (jC 4).2.1 8 ∈ lw_tbl ∧ goodWord (u_lay (jC 4).1 (jC 4).2.1 8) = true := ⟨jtl_1 70 rfl, rfl⟩
set_option maxRecDepth 100000 in
theorem jin0_4_9 : u_lay (jC 4).1 (jC 4).2.1 9 ∈ lw_tbl ∧ goodWord (u_lay (jC 4).1 (jC 4).2.1 9) = true := ⟨jtl_1 72 rfl, rfl⟩
set_option maxRecDepth 100000 in
theorem jin0_4_10 : u_lay (jC 4).1 (jC 4).2.1 10 ∈ lw_tbl ∧ goodWord (u_lay (jC 4).1 (jC 4).2.1 10) = true := ⟨jtl_1 74 rfl, rfl⟩
set_option maxRecDepth 100000 in
theorem jin0_5_0 : u_lay (jC 5).1 (jC 5).2.1 0 ∈ lw_tbl ∧ goodWord (u_lay (jC 5).1 (jC 5).2.1 0) = true := ⟨jtl_1 155 rfl, rfl⟩
set_option maxRecDepth 100000 in
theorem jin0_5_1 : u_lay (jC 5).1 (jC 5).2.1 1 ∈ lw_tbl ∧ goodWord (u_lay (jC 5).1 (jC 5).2.1 1) = true := ⟨jtl_1 157 rfl, rfl⟩
set_option maxRecDepth 100000 in
theorem jin0_5_2 : u_lay (jC 5).1 (jC 5).2.1 2 ∈ lw_tbl ∧ goodWord (u_lay (jC 5).1 (jC 5).2.1 2) = true := ⟨jtl_1 159 rfl, rfl⟩
set_option maxRecDepth 100000 in
theorem jin0_5_3 : u_lay (jC 5).1 (jC 5).2.1 3 ∈ lw_tbl ∧ goodWord (u_lay (jC 5).1 (jC 5).2.1 3) = true := ⟨jtl_1 161 rfl, rfl⟩
set_option maxRecDepth 100000 in
theorem jin0_5_4 : u_lay (jC 5).1 (jC 5).2.1 4 ∈ lw_tbl ∧ goodWord (u_lay (jC 5).1 (jC 5).2.1 4) = true := ⟨jtl_1 163 rfl, rfl⟩
set_option maxRecDepth 100000 in
theorem jin0_5_5 : u_lay (jC 5).1 (jC 5).2.1 5 ∈ lw_tbl ∧ goodWord (u_lay (jC 5).1 (jC 5).2.1 5) = true := ⟨jtl_1 165 rfl, rfl⟩
set_option maxRecDepth 100000 in
theorem jin0_5_6 : u_lay (jC 5).1 (jC 5).2.1 6 ∈ lw_tbl ∧ goodWord (u_lay (jC 5).1 (jC 5).2.1 6) = true := ⟨jtl_1 167 rfl, rfl⟩
set_option maxRecDepth 100000 in
theorem jin0_5_7 : u_lay (jC 5).1 (jC 5).2.1 7 ∈ lw_tbl ∧ goodWord (u_lay (jC 5).1 (jC 5).2.1 7) = true := ⟨jtl_1 169 rfl, rfl⟩
set_option maxRecDepth 100000 in
theorem jin0_5_8 : u_lay (jC 5).1 (jC 5).2.1 8 ∈ lw_tbl ∧ goodWord (u_lay (jC 5).1 (jC 5).2.1 8) = true := ⟨jtl_1 171 rfl, rfl⟩
set_option maxRecDepth 100000 in
theorem jin0_5_9 : u_lay (jC 5).1 (jC 5).2.1 9 ∈ lw_tbl ∧ goodWord (u_lay (jC 5).1 (jC 5).2.1 9) = true := ⟨jtl_1 173 rfl, rfl⟩
set_option maxRecDepth 100000 in
theorem jin0_5_10 : u_lay (jC 5).1 (jC 5).2.1 10 ∈ lw_tbl ∧ goodWord (u_lay (jC 5).1 (jC 5).2.1 10) = true := ⟨jtl_1 175 rfl, rfl⟩
set_option maxRecDepth 100000 in
theorem jin0_6_0 : u_lay (jC 6).1 (jC 6).2.1 0 ∈ lw_tbl ∧ goodWord (u_lay (jC 6).1 (jC 6).2.1 0) = true := ⟨jtl_4 18 rfl, rfl⟩
set_option maxRecDepth 100000 in
theorem jin0_6_1 : u_lay (jC 6).1 (jC 6).2.1 1 ∈ lw_tbl ∧ goodWord (u_lay (jC 6).1 (jC 6).2.1 1) = true := ⟨jtl_4 20 rfl, rfl⟩
set_option maxRecDepth 100000 in
theorem jin0_6_2 : u_lay (jC 6).1 (jC 6).2.1 2 ∈ lw_tbl ∧ goodWord (u_lay (jC 6).1 (jC 6).2.1 2) = true := ⟨jtl_4 22 rfl, rfl⟩
set_option maxRecDepth 100000 in
theorem jin0_6_3 : u_lay (jC 6).1 (jC 6).2.1 3 ∈ lw_tbl ∧ goodWord (u_lay (jC 6).1 (jC 6).2.1 3) = true := ⟨jtl_4 24 rfl, rfl⟩
set_option maxRecDepth 100000 in
theorem jin0_6_4 : u_lay (jC 6).1 (jC 6).2.1 4 ∈ lw_tbl ∧ goodWord (u_lay (jC 6).1 (jC 6).2.1 4) = true := ⟨jtl_4 26 rfl, rfl⟩
set_option maxRecDepth 100000 in
theorem jin0_6_5 : u_lay (jC 6).1 (jC 6).2.1 5 ∈ lw_tbl ∧ goodWord (u_lay (jC 6).1 (jC 6).2.1 5) = true := ⟨jtl_4 28 rfl, rfl⟩
set_option maxRecDepth 100000 in
theorem jin0_6_6 : u_lay (jC 6).1 (jC 6).2.1 6 ∈ lw_tbl ∧ goodWord (u_lay (jC 6).1 (jC 6).2.1 6) = true := ⟨jtl_4 30 rfl, rfl⟩
set_option maxRecDepth 100000 in
theorem jin0_6_7 : u_lay (jC 6).1 (jC 6).2.1 7 ∈ lw_tbl ∧ goodWord (u_lay (jC 6).1 (jC 6).2.1 7) = true := ⟨jtl_4 32 rfl, rfl⟩
set_option maxRecDepth 100000 in
theorem jin0_6_8 : u_lay (jC 6).1 (jC 6).2.1 8 ∈ lw_tbl ∧ goodWord (u_lay (jC 6).1 (jC 6).2.1 8) = true := ⟨jtl_4 34 rfl, rfl⟩
set_option maxRecDepth 100000 in
theorem jin0_6_9 : u_lay (jC 6).1 (jC 6).2.1 9 ∈ lw_tbl ∧ goodWord (u_lay (jC 6).1 (jC 6).2.1 9) = true := ⟨jtl_4 36 rfl, rfl⟩
set_option maxRecDepth 100000 in
theorem jin0_6_10 : u_lay (jC 6).1 (jC 6).2.1 10 ∈ lw_tbl ∧ goodWord (u_lay (jC 6).1 (jC 6).2.1 10) = true := ⟨jtl_4 38 rfl, rfl⟩
set_option maxRecDepth 100000 in
theorem jin0_6_11 : u_lay (jC 6).1 (jC 6).2.1 11 ∈ lw_tbl ∧ goodWord (u_lay (jC 6).1 (jC 6).2.1 11) = true := ⟨jtl_4 40 rfl, rfl⟩
set_option maxRecDepth 100000 in
theorem jin0_6_12 : u_lay (jC 6).1 (jC 6).2.1 12 ∈ lw_tbl ∧ goodWord (u_lay (jC 6).1 (jC 6).2.1 12) = true := ⟨jtl_4 42 rfl, rfl⟩
set_option maxRecDepth 100000 in
theorem jin0_6_13 : u_lay (jC 6).1 (jC 6).2.1 13 ∈ lw_tbl ∧ goodWord (u_lay (jC 6).1 (jC 6).2.1 13) = true := ⟨jtl_4 44 rfl, rfl⟩
set_option maxRecDepth 100000 in
theorem jin0_6_14 : u_lay (jC 6).1 (jC 6).2.1 14 ∈ lw_tbl ∧ goodWord (u_lay (jC 6).1 (jC 6).2.1 14) = true := ⟨jtl_4 46 rfl, rfl⟩
set_option maxRecDepth 100000 in
theorem jin0_6_15 : u_lay (jC 6).1 (jC 6).2.1 15 ∈ lw_tbl ∧ goodWord (u_lay (jC 6).1 (jC 6).2.1 15) = true := ⟨jtl_4 48 rfl, rfl⟩
set_option maxRecDepth 100000 in
theorem jin0_6_16 : u_lay (jC 6).1 (jC 6).2.1 16 ∈ lw_tbl ∧ goodWord (u_lay (jC 6).1 (jC 6).2.1 16) = true := ⟨jtl_4 50 rfl, rfl⟩
set_option maxRecDepth 100000 in
theorem jin0_6_17 : u_lay (jC 6).1 (jC 6).2.1 17 ∈ lw_tbl ∧ goodWord (u_lay (jC 6).1 (jC 6).2.1 17) = true := ⟨jtl_4 52 rfl, rfl⟩
set_option maxRecDepth 100000 in
theorem jin0_6_18 : u_lay (jC 6).1 (jC 6).2.1 18 ∈ lw_tbl ∧ goodWord (u_lay (jC 6).1 (jC 6).2.1 18) = true := ⟨jtl_4 54 rfl, rfl⟩
set_option maxRecDepth 100000 in
theorem jin0_6_19 : u_lay (jC 6).1 (jC 6).2.1 19 ∈ lw_tbl ∧ goodWord (u_lay (jC 6).1 (jC 6).2.1 19) = true := ⟨jtl_4 56 rfl, rfl⟩
set_option maxRecDepth 100000 in
theorem jin0_6_20 : u_lay (jC 6).1 (jC 6).2.1 20 ∈ lw_tbl ∧ goodWord (u_lay (jC 6).1 (jC 6).2.1 20) = true := ⟨jtl_4 58 rfl, rfl⟩
set_option maxRecDepth 100000 in
theorem jin0_6_21 : u_lay (jC 6).1 (jC 6).2.1 21 ∈ lw_tbl ∧ goodWord (u_lay (jC 6).1 (jC 6).2.1 21) = true := ⟨jtl_4 60 rfl, rfl⟩
set_option maxRecDepth 100000 in
theorem jin0_6_22 : u_lay (jC 6).1 (jC 6).2.1 22 ∈ lw_tbl ∧ goodWord (u_lay (jC 6).1 (jC 6).2.1 22) = true := ⟨jtl_4 62 rfl, rfl⟩
set_option maxRecDepth 100000 in
theorem jin0_6_23 : u_lay (jC 6).1 (jC 6).2.1 23 ∈ lw_tbl ∧ goodWord (u_lay (jC 6).1 (jC 6).2.1 23) = true := ⟨jtl_4 64 rfl, rfl⟩
set_option maxRecDepth 100000 in
theorem jin0_6_24 : u_lay (jC 6).1 (jC 6).2.1 24 ∈ lw_tbl ∧ goodWord (u_lay (jC 6).1 (jC 6).2.1 24) = true := ⟨jtl_4 66 rfl, rfl⟩
set_option maxRecDepth 100000 in
theorem jin0_6_25 : u_lay (jC 6).1 (jC 6).2.1 25 ∈ lw_tbl ∧ goodWord (u_lay (jC 6).1 (jC 6).2.1 25) = true := ⟨jtl_4 68 rfl, rfl⟩
set_option maxRecDepth 100000 in
theorem jin0_6_26 : u_lay (jC 6).1 (jC 6).2.1 26 ∈ lw_tbl ∧ goodWord (u_lay (jC 6).1 (jC 6).2.1 26) = true := ⟨jtl_4 70 rfl, rfl⟩
set_option maxRecDepth 100000 in
theorem jin0_6_27 : u_lay (jC 6).1 (jC 6).2.1 27 ∈ lw_tbl ∧ goodWord (u_lay (jC 6).1 (jC 6).2.1 27) = true := ⟨jtl_4 72 rfl, rfl⟩
set_option maxRecDepth 100000 in
theorem jin0_6_28 : u_lay (jC 6).1 (jC 6).2.1 28 ∈ lw_tbl ∧ goodWord (u_lay (jC 6).1 (jC 6).2.1 28) = true := ⟨jtl_4 74 rfl, rfl⟩
set_option maxRecDepth 100000 in
theorem jin0_6_29 : u_lay (jC 6).1 (jC 6).2.1 29 ∈ lw_tbl ∧ goodWord (u_lay (jC 6).1 (jC 6).2.1 29) = true := ⟨jtl_4 76 rfl, rfl⟩
set_option maxRecDepth 100000 in
theorem jin0_6_30 : u_lay (jC 6).1 (jC 6).2.1 30 ∈ lw_tbl ∧ goodWord (u_lay (jC 6).1 (jC 6).2.1 30) = true := ⟨jtl_4 78 rfl, rfl⟩
set_option maxRecDepth 100000 in
theorem jin0_6_31 : u_lay (jC 6).1 (jC 6).2.1 31 ∈ lw_tbl ∧ goodWord (u_lay (jC 6).1 (jC 6).2.1 31) = true := ⟨jtl_4 80 rfl, rfl⟩
set_option maxRecDepth 100000 in
theorem jin0_6_32 : u_lay (jC 6).1 (jC 6).2.1 32 ∈ lw_tbl ∧ goodWord (u_lay (jC 6).1 (jC 6).2.1 32) = true := ⟨jtl_4 82 rfl, rfl⟩
set_option maxRecDepth 100000 in
theorem jin0_6_33 : u_lay (jC 6).1 (jC 6).2.1 33 ∈ lw_tbl ∧ goodWord (u_lay (jC 6).1 (jC 6).2.1 33) = true := ⟨jtl_4 84 rfl, rfl⟩
set_option maxRecDepth 100000 in
theorem jin0_6_34 : u_lay (jC 6).1 (jC 6).2.1 34 ∈ lw_tbl ∧ goodWord (u_lay (jC 6).1 (jC 6).2.1 34) = true := ⟨jtl_4 86 rfl, rfl⟩
set_option maxRecDepth 100000 in
theorem jin0_6_35 : u_lay (jC 6).1 (jC 6).2.1 35 ∈ lw_tbl ∧ goodWord (u_lay (jC 6).1 (jC 6).2.1 35) = true := ⟨jtl_4 88 rfl, rfl⟩
set_option maxRecDepth 100000 in
theorem jin0_6_36 : u_lay (jC 6).1 (jC 6).2.1 36 ∈ lw_tbl ∧ goodWord (u_lay (jC 6).1 (jC 6).2.1 36) = true := ⟨jtl_4 90 rfl, rfl⟩
set_option maxRecDepth 100000 in
theorem jin0_6_37 : u_lay (jC 6).1 (jC 6).2.1 37 ∈ lw_tbl ∧ goodWord (u_lay (jC 6).1 (jC 6).2.1 37) = true := ⟨jtl_4 92 rfl, rfl⟩
set_option maxRecDepth 100000 in
theorem jin0_6_38 : u_lay (jC 6).1 (jC 6).2.1 38 ∈ lw_tbl ∧ goodWord (u_lay (jC 6).1 (jC 6).2.1 38) = true := ⟨jtl_4 94 rfl, rfl⟩
theorem jin0 : ∀ c, c < 7 → ∀ k, k < 39 → k < (jC c).2.2 → u_lay (jC c).1 (jC c).2.1 k ∈ lw_tbl ∧ goodWord (u_lay (jC c).1 (jC c).2.1 k) = true
  | 0, _ => fun k _ h => match k, h with
    | 0, _ => jin0_0_0
    | 1, _ => jin0_0_1
    | 2, _ => jin0_0_2
    | k + 3, h => absurd h (by show ¬ k + 3 < 3; omega)
  | 1, _ => fun k _ h => match k, h with
    | 0, _ => jin0_1_0
    | 1, _ => jin0_1_1
    | k + 2, h => absurd h (by show ¬ k + 2 < 2; omega)
  | 2, _ => fun k _ h => match k, h with
    | 0, _ => jin0_2_0
    | 1, _ => jin0_2_1
    | k + 2, h => absurd h (by show ¬ k + 2 < 2; omega)
  | 3, _ => fun k _ h => match k, h with
    | 0, _ => jin0_3_0
    | 1, _ => jin0_3_1
    | 2, _ => jin0_3_2
    | k + 3, h => absurd h (by show ¬ k + 3 < 3; omega)
  | 4, _ => fun k _ h => match k, h with
    | 0, _ => jin0_4_0
    | 1, _ => jin0_4_1
    | 2, _ => jin0_4_2
    | 3, _ => jin0_4_3
    | 4, _ => jin0_4_4
    | 5, _ => jin0_4_5
    | 6, _ => jin0_4_6
    | 7, _ => jin0_4_7
    | 8, _ => jin0_4_8
    | 9, _ => jin0_4_9
    | 10, _ => jin0_4_10
    | k + 11, h => absurd h (by show ¬ k + 11 < 11; omega)
  | 5, _ => fun k _ h => match k, h with
    | 0, _ => jin0_5_0
    | 1, _ => jin0_5_1
    | 2, _ => jin0_5_2
    | 3, _ => jin0_5_3
    | 4, _ => jin0_5_4
    | 5, _ => jin0_5_5
    | 6, _ => jin0_5_6
    | 7, _ => jin0_5_7
    | 8, _ => jin0_5_8
    | 9, _ => jin0_5_9
    | 10, _ => jin0_5_10
    | k + 11, h => absurd h (by show ¬ k + 11 < 11; omega)
  | 6, _ => fun k _ h => match k, h with
    | 0, _ => jin0_6_0
    | 1, _ => jin0_6_1
    | 2, _ => jin0_6_2
    | 3, _ => jin0_6_3
    | 4, _ => jin0_6_4
    | 5, _ => jin0_6_5
    | 6, _ => jin0_6_6
    | 7, _ => jin0_6_7
    | 8, _ => jin0_6_8
    | 9, _ => jin0_6_9
    | 10, _ => jin0_6_10
    | 11, _ => jin0_6_11
    | 12, _ => jin0_6_12
    | 13, _ => jin0_6_13
    | 14, _ => jin0_6_14
    | 15, _ => jin0_6_15
    | 16, _ => jin0_6_16
    | 17, _ => jin0_6_17
    | 18, _ => jin0_6_18
    | 19, _ => jin0_6_19
    | 20, _ => jin0_6_20
    | 21, _ => jin0_6_21
    | 22, _ => jin0_6_22
    | 23, _ => jin0_6_23
    | 24, _ => jin0_6_24
    | 25, _ => jin0_6_25
    | 26, _ => jin0_6_26
    | 27, _ => jin0_6_27
    | 28, _ => jin0_6_28
    | 29, _ => jin0_6_29
    | 30, _ => jin0_6_30
    | 31, _ => jin0_6_31
    | 32, _ => jin0_6_32
    | 33, _ => jin0_6_33
    | 34, _ => jin0_6_34
    | 35, _ => jin0_6_35
    | 36, _ => jin0_6_36
    | 37, _ => jin0_6_37
    | 38, _ => jin0_6_38
    | k + 39, h => absurd h (by show ¬ k + 39 < 39; omega)
  | c + 7, h => absurd h (by omega)
theorem jin {c : Nat} (hc : c < 7) : ∀ w ∈ u_ws (jC c).1 (jC c).2.1 (jC c).2.2, w ∈ jtb := by
  intro w hw
  obtain ⟨k, hk, rfl⟩ := List.mem_map.mp hw
  have hk := List.mem_range.mp hk
  exact List.mem_filter.mpr (jin0 c hc k (Nat.lt_of_lt_of_le hk (jC_le c)) hk)
theorem jnm : ∀ c, c < 7 → ∀ a, a < (jC c).2.2 → ∀ b, b < (jC c).2.2 → a ≠ b → ((jC c).2.1 a).2.1 ≠ ((jC c).2.1 b).2.1
  | 0, _ => nmX0
  | 1, _ => nmX1
  | 2, _ => nmX2
  | 3, _ => nmX3
  | 4, _ => nmX4
  | 5, _ => nmX5
  | 6, _ => nmX6
  | n + 7, h => absurd h (by omega)
def jty (c k : Nat) : FieldType := match c with
  | 0 => tyX0 k
  | 1 => tyX1 k
  | 2 => tyX2 k
  | 3 => tyX3 k
  | 4 => tyX4 k
  | 5 => tyX5 k
  | _ => tyX6 k
theorem jty0 : ∀ c, c < 7 → ∀ k, k < 39 → k < (jC c).2.2 → parseFieldDescriptor ((jC c).2.1 k).2.2.1 = some (jty c k) := by decide +kernel
theorem jpd_lt {q r o k o' k' : Nat} (h : 64 * o + k = 64 * o' + k') (hk : k < 64) (hk' : k' < 64) : o = o' ∧ k = k' := by omega
theorem jvl_O {o : Nat} (ho : o < 17) : jvl (64 * o + 63) := ⟨o, 63, ho, by omega, rfl, Or.inl rfl⟩
theorem jvl_A {o k : Nat} (ho : o < 17) (h : jal (jcls o) k ≠ 0) : jvl (64 * o + k) := ⟨o, k, ho, by have := jal_k _ (jcls_lt o) k h; omega, rfl, Or.inr (Or.inl h)⟩
theorem jvl_R : jvl (64 * 12 + 0) := ⟨12, 0, by omega, by omega, rfl, Or.inr (Or.inr ⟨rfl, rfl⟩)⟩
theorem jrp_arr {X : jX} {M : jm} {H : Heap} (hP : jrp X M H) {o c k n : Nat} (hj : job o c) (hn : jal c k = n) (h0 : n ≠ 0) : H[jA X o k]? = some (vp_cell X.2.1 (n, .inl (M o k))) := by
  obtain ⟨ho, rfl⟩ := hj
  subst hn
  exact hP.2.1 o k ho h0
theorem jblind {As : List Value} {X : jX} {M : jm} : FrameBlind (va_Pc As (jB X M)) := fun a U g mk q => ⟨q.1, q.2.1, va_K.moved (u := U) (U := U.calling g mk a) (Vm.Alike.refl U.vm) q.2.2.1, q.2.2.2.same (U := U.calling g mk a) rfl⟩
theorem jblind0 {As : List Value} : FrameBlind (va_Pc As jN) := fun a U g mk q => ⟨q.1, q.2.same (U := U.calling g mk a) rfl⟩
/-- a cell of an object changed in one number -/
theorem jrp_put {X : jX} {A : Nat → Prop} {M : jm} {H H1 : Heap} (hs : jst X A) (hP : jrp X M H) {o c k : Nat} (hj : job o c) (hk : k < (jC c).2.2) {z : Int32} (hf : jft c k = 0 ∨ jft c k = 3)
    (h1 : t_OB (jO X o) (X.1.1 c) (jC c).2.2 (X.1.2 c) H1 (updV (fun j => jfw X c o j (M o j 0)) k (jfw X c o k z))) (h2 : ∀ q, q ≠ jO X o → H1[q]? = H[q]?) : jrp X (ju M o k 0 z) H1 := by
  obtain ⟨ho, rfl⟩ := hj
  have hal := jft_num0 (jcls o) (jcls_lt o) k (Nat.lt_of_lt_of_le hk (jC_le _)) hk hf
  refine ⟨fun o' ho' => ?_, fun o' k' ho' h => ?_, ?_⟩
  · by_cases e : o' = o
    · subst e
      refine h1.to fun j hjN => ?_
      show updV _ k _ j = jfw X (jcls o') o' j (ju M o' k 0 z o' j 0)
      by_cases ej : j = k
      · subst ej
        simp [updV, ju]
      · simp [updV, ju, ej]
    · have hne : jO X o' ≠ jO X o := fun q => e (by have := (hs _ (jvl_O ho')).2 _ (jvl_O ho) q; omega)
      refine ((hP.1 o' ho').kept (h2 _ hne)).to fun j _ => ?_
      simp [ju, e]
  · have hne : jA X o' k' ≠ jO X o := fun q => by
      have q1 := (hs _ (jvl_A ho' h)).2 _ (jvl_O ho) q
      have q2 := jal_k _ (jcls_lt o') k' h
      omega
    rw [h2 _ hne, hP.2.1 o' k' ho' h]
    have e : ju M o k 0 z o' k' = M o' k' := by
      funext i
      by_cases q : o' = o ∧ k' = k ∧ i = 0
      · obtain ⟨rfl, rfl, -⟩ := q
        exact absurd hal h
      · simp [ju, q]
    rw [e]
  · have hne : jA X 12 0 ≠ jO X o := fun q => by
      have q1 := (hs _ jvl_R).2 _ (jvl_O ho) q
      omega
    rw [h2 _ hne]
    exact hP.2.2
/-- a row of an object changed -/
theorem jrp_row {X : jX} {A : Nat → Prop} {M N : jm} {H H1 : Heap} (hs : jst X A) (hP : jrp X M H) {o c k n : Nat} (hj : job o c) (hn : jal c k = n) (h0 : n ≠ 0)
    (h1 : H1[jA X o k]? = some (vp_cell X.2.1 (n, .inl (N o k)))) (h2 : ∀ q, q ≠ jA X o k → H1[q]? = H[q]?) (hN : ∀ o' k', ¬ (o' = o ∧ k' = k) → N o' k' = M o' k') : jrp X N H1 := by
  obtain ⟨ho, rfl⟩ := hj
  subst hn
  have hk := jal_k _ (jcls_lt o) k h0
  refine ⟨fun o' ho' => ?_, fun o' k' ho' h => ?_, ?_⟩
  · have hne : jO X o' ≠ jA X o k := fun q => by
      have q1 := (hs _ (jvl_O ho')).2 _ (jvl_A ho h0) q
      omega
    refine ((hP.1 o' ho').kept (h2 _ hne)).to fun j _ => ?_
    by_cases q : o' = o ∧ j = k
    · obtain ⟨rfl, rfl⟩ := q
      simp only [jfw, jft_arr (jcls_lt o') h0]
    · show jfw X _ o' j (M o' j 0) = jfw X _ o' j (N o' j 0)
      rw [hN o' j q]
  · by_cases q : o' = o ∧ k' = k
    · obtain ⟨rfl, rfl⟩ := q
      exact h1
    · have hne : jA X o' k' ≠ jA X o k := fun z => q (by
        have q1 := (hs _ (jvl_A ho' h)).2 _ (jvl_A ho h0) z
        have q2 := jal_k _ (jcls_lt o') k' h
        omega)
      rw [h2 _ hne, hN o' k' q]
      exact hP.2.1 o' k' ho' h
  · have hne : jA X 12 0 ≠ jA X o k := fun z => by
      have q1 := (hs _ jvl_R).2 _ (jvl_A ho h0) z
      have : o = 12 ∧ k = 0 := by omega
      obtain ⟨rfl, rfl⟩ := this
      exact absurd h0 (by decide)
    rw [h2 _ hne]
    exact hP.2.2
theorem jb_w {i : Int32} (h : vp_in i 8) : job (4 + i.toNatClampNeg) 4 := by
  have hlt : i.toNatClampNeg < 8 := Nat.not_le.mp fun q => h (Or.inr q)
  refine ⟨by omega, ?_⟩
  unfold jcls
  rw [if_neg (by omega), if_pos (by omega)]
theorem jb_k {z : Int32} (h : z = 21 ∨ z = 22 ∨ z = 28) : jal 6 z.toNatClampNeg = 91 := by
  rcases h with rfl | rfl | rfl <;> rfl
theorem jb_kw (X : jX) {z : Int32} (h : z = 21 ∨ z = 22 ∨ z = 28) : jfw X 6 16 26 z = .ref (jA X 16 z.toNatClampNeg) := by
  rcases h with rfl | rfl | rfl <;> rfl
theorem jlt_c {o c : Nat} (hj : job o c) : c < 7 := by
  obtain ⟨-, rfl⟩ := hj
  exact jcls_lt o
section JR
variable {p : Program} {l : Launch} {e : Env} {R : Room} {s : State} {m : MethodId} {args : Array Value} {below : List Frame} {meth : Method} {c : Code} {H : Heap} {locs : List Loc} {cells slots : Nat} {Q : State → Prop}
variable {cc : ByteArray} {pc : Nat} {ls : Array Slot} {rest : List Value} {X : jX} {M : jm} {A : Nat → Prop}
theorem jr_get (hx : p.tables.exec = Jvm.exec) (hb : c.code = cc) {own : String} {index ci o k : Nat} {v : Value} (hts : ∀ w ∈ jtb, w.before args s = true) (hown : s.vm.findClass own = some m.cls) (hK : jK X s) (hP : jrp X M H) (hj : job o ci) (hk : k < (jC ci).2.2)
    (hl : jfl own index ci k ∈ jtb) (hv : jfw X ci o k (M o k 0) = v) (hdg : decode cc pc = .ok (.getfield index, 3))
    (kk : W p l e R s m args below meth c H locs cells slots Q (F0 m (pc + 3) ls (v :: rest))) : W p l e R s m args below meth c H locs cells slots Q (F0 m pc ls (.ref (jO X o) :: rest)) := by
  obtain ⟨ho, rfl⟩ := hj
  obtain ⟨cell, q1, q2, q3, q4⟩ := hP.1 o ho
  obtain ⟨hS, hfc, kC, hkC, hkind⟩ := hK.1.1 (jcls o) _ (jcl_at _ (jcls_lt o))
  obtain ⟨cf, kf, fi, f, hi, hsl⟩ := hS k hk
  refine W.getf hx hb hown (hts _ hl) hi (u_facts hfc hkC (u_lays hts (jin (jcls_lt o)) hk) hi).1 q1 (by rw [q3]; exact fun h => by cases h) (v := v) ?_ rfl rfl hdg kk
  rw [hsl, q4 k hk, ← hv]
theorem jr_put (hx : p.tables.exec = Jvm.exec) (hb : c.code = cc) {own : String} {index ci o k : Nat} {v : Value} {z : Int32} (hts : ∀ w ∈ jtb, w.before args s = true) (hown : s.vm.findClass own = some m.cls) (hK : jK X s) (hP : jrp X M H) (hs : jst X A) (hS0 : va_S A s.heap H locs) (hj : job o ci) (hk : k < (jC ci).2.2)
    (hl : jfl own index ci k ∈ jtb) (hfin : ((jC ci).2.1 k).2.2.2 = false) (hft : jft ci k = 0 ∨ jft ci k = 3) (hv : jfw X ci o k z = v) (hn : narrow (jty ci k) v = v) (hfit : fits (jty ci k) v = true) (hdg : decode cc pc = .ok (.putfield index, 3))
    (kk : ∀ (H1 : Heap) (locs1 : List Loc), jrp X (ju M o k 0 z) H1 → va_S A s.heap H1 locs1 → W p l e R s m args below meth c H1 locs1 cells slots Q (F0 m (pc + 3) ls rest)) : W p l e R s m args below meth c H locs cells slots Q (F0 m pc ls (v :: .ref (jO X o) :: rest)) := by
  have hj0 := hj
  obtain ⟨ho, rfl⟩ := hj
  have hc := jcls_lt o
  have hle := jC_le (jcls o)
  have hap := va_apart (own := own) hts (jin hc) (jty (jcls o)) (fun k hk => jty0 _ hc k (Nat.lt_of_lt_of_le hk hle) hk) (jnm _ hc) hK.1 (jcl_at _ hc)
  obtain ⟨cell, q1, q2, q3, q4⟩ := hP.1 o ho
  obtain ⟨hS, hfc, kC, hkC, hkind⟩ := hK.1.1 (jcls o) _ (jcl_at _ hc)
  obtain ⟨cf, kf, fi, f, hi, hsl⟩ := hS k hk
  have hlay := hts _ (jin hc _ (u_in_lay hk))
  unfold u_lay at hlay
  rw [if_neg (by rw [hfin]; decide)] at hlay
  have hst := (u_facts hfc hkC (u_lays hts (jin hc) hk) hi).1
  have h6 := u_store hfc hkC hkind hlay hi (jty0 _ hc k (Nat.lt_of_lt_of_le hk hle) hk) hn hfit
  refine W.putK hx hb (f := f) ⟨hown, hts _ hl, ⟨_, _, _, hi⟩, hst⟩ (by rw [q2]; exact h6) q1 q3 (by rw [hsl]; exact k2_hasslot (q4 k hk)) rfl rfl hdg fun H' e1 e2 e3 => ?_
  rw [hsl] at e1 ⊢
  refine kk H' _ (jrp_put hs hP hj0 hk hft ⟨_, e1, q2, q3, ?_⟩ e3) (hS0.put e2 e3 (hs _ (jvl_O ho)).1)
  rw [hv]
  exact t_set q4 hap hk v
theorem jr_ald (hx : p.tables.exec = Jvm.exec) (hb : c.code = cc) {o ci k n : Nat} {i : Int32} (hK : jK X s) (hP : jrp X M H) (hj : job o ci) (hn : jal ci k = n) (hin : vp_in i n) (hdg : decode cc pc = .ok (.iaload, 1))
    (kk : W p l e R s m args below meth c H locs cells slots Q (F0 m (pc + 1) ls (.int (M o k i.toNatClampNeg) :: rest))) : W p l e R s m args below meth c H locs cells slots Q (F0 m pc ls (.int i :: .ref (jA X o k) :: rest)) := by
  have hlt : i.toNatClampNeg < n := Nat.not_le.mp fun q => hin (Or.inr q)
  exact W.iald (v := .int (M o k i.toNatClampNeg)) hx hb (jrp_arr hP hj hn (by omega)) ((hK.1.2 0 _ rfl).1 n (fun j => .int (M o k j))) (fun q => by cases q) (by show ¬ (i < 0 ∨ (arrV _ _ _).slots.size ≤ _); rw [arrV_size]; exact hin) (by show (arrV _ _ _).slots[_]? = _; rw [arrV_read _ _ hlt]) rfl rfl hdg kk
theorem jr_ast (hx : p.tables.exec = Jvm.exec) (hb : c.code = cc) {o ci k n : Nat} {i x : Int32} (hK : jK X s) (hP : jrp X M H) (hs : jst X A) (hS : va_S A s.heap H locs) (hj : job o ci) (hn : jal ci k = n) (hin : vp_in i n) (hdg : decode cc pc = .ok (.iastore, 1))
    (kk : ∀ (H1 : Heap) (locs1 : List Loc), jrp X (ju M o k i.toNatClampNeg x) H1 → va_S A s.heap H1 locs1 → W p l e R s m args below meth c H1 locs1 cells slots Q (F0 m (pc + 1) ls rest)) : W p l e R s m args below meth c H locs cells slots Q (F0 m pc ls (.int x :: .int i :: .ref (jA X o k) :: rest)) := by
  have hlt : i.toNatClampNeg < n := Nat.not_le.mp fun q => hin (Or.inr q)
  have h0 : n ≠ 0 := by omega
  have hcell := jrp_arr hP hj hn h0
  refine W.iast hx hb hcell ((hK.1.2 0 _ rfl).1 n (fun j => .int (M o k j))) (fun q => by cases q) (by show ¬ (i < 0 ∨ (arrV _ _ _).slots.size ≤ _); rw [arrV_size]; exact hin) rfl rfl hdg fun H1 e z oq => ?_
  refine kk H1 _ (jrp_row hs hP hj hn h0 ?_ oq (fun o' k' h => ?_)) (hS.put z oq ?_)
  · rw [e, vp_cell_i, vp_cell_i, arrV_store]
    congr 2
    funext q
    by_cases hq : q = i.toNatClampNeg
    · subst hq
      simp [updV, ju]
    · simp [updV, ju, hq]
  · funext i'
    have : ¬ (o' = o ∧ k' = k ∧ i' = i.toNatClampNeg) := fun q => h ⟨q.1, q.2.1⟩
    simp only [ju, if_neg this]
  · obtain ⟨ho, rfl⟩ := hj
    exact (hs _ (jvl_A ho (by rw [hn]; exact h0))).1
theorem jr_kld (hx : p.tables.exec = Jvm.exec) (hb : c.code = cc) {i : Int32} (hK : jK X s) (hP : jrp X M H) (hin : vp_in i 8) (hdg : decode cc pc = .ok (.aaload, 1))
    (kk : W p l e R s m args below meth c H locs cells slots Q (F0 m (pc + 1) ls (.ref (jO X (4 + i.toNatClampNeg)) :: rest))) : W p l e R s m args below meth c H locs cells slots Q (F0 m pc ls (.int i :: .ref (jA X 12 0) :: rest)) := by
  have hlt : i.toNatClampNeg < 8 := Nat.not_le.mp fun q => hin (Or.inr q)
  exact W.aald (v := va_rf (some (jO X (4 + i.toNatClampNeg)))) (ty := .object RX4) hx hb hP.2.2 ((hK.1.2 1 _ rfl).1 8 (fun j => va_rf (some (jO X (4 + j))))) rfl (fun q => by cases q) (by show ¬ (i < 0 ∨ (arrV _ _ _).slots.size ≤ _); rw [arrV_size]; exact hin) (by show (arrV _ _ _).slots[_]? = _; rw [arrV_read _ _ hlt]) rfl rfl hdg kk
theorem arrV_ext {cI : ClassId} {N : Nat} {f g : Nat → Value} (h : ∀ j, j < N → f j = g j) : arrV cI N f = arrV cI N g := by
  unfold arrV
  congr 2
  funext j
  exact h j.val j.isLt
theorem jr_copy (hx : p.tables.exec = Jvm.exec) (hb : c.code = cc) (hml : c.maxLocals = ls.size) {own : String} {index o o2 ci k n : Nat} {nn : Int32} (hts : ∀ w ∈ jtb, w.before args s = true) (hown : s.vm.findClass own = some m.cls)
    (hlink : Cond.methodLink own index arraycopyName ∈ jtb) (hnat : Cond.native arraycopyName ∈ jtb) (hstat : Cond.static arraycopyName ∈ jtb) (hini : Cond.initialized "java/lang/System" ∈ jtb)
    (hK : jK X s) (hP : jrp X M H) (hs : jst X A) (hS : va_S A s.heap H locs) (hj : job o ci) (hj2 : job o2 ci) (hn : jal ci k = n) (h0 : n ≠ 0) (h3 : ¬ nn < 0) (hnn : nn.toNatClampNeg = n)
    (hframes : 1 ≤ R.frames) (hlocals : (rest.map fun v => v.category).sum + (nativeFrameWords "java/lang/System" "arraycopy" 5 + 11) ≤ R.locals) (hdg : decode cc pc = .ok (.invokestatic index, 3))
    (kk : ∀ (H1 : Heap) (locs1 : List Loc), jrp X (jcp M o k o2) H1 → va_S A s.heap H1 locs1 → W p l e R s m args below meth c H1 locs1 cells slots Q (F0 m (pc + 3) ls rest)) : W p l e R s m args below meth c H locs cells slots Q (F0 m pc ls (.int nn :: .int 0 :: .ref (jA X o k) :: .int 0 :: .ref (jA X o2 k) :: rest)) := by
  intro T hT X1
  have hc0 := jrp_arr hP hj2 hn h0
  have hc1 := jrp_arr hP hj hn h0
  have hAd : A (jA X o k) := by
    obtain ⟨ho, rfl⟩ := hj
    exact (hs _ (jvl_A ho (by rw [hn]; exact h0))).1
  have nz : (0 : Int32).toNatClampNeg = 0 := rfl
  have nn1 : nn.toInt = (n : Int) := by
    have hz0 : (0 : Int) ≤ nn.toInt := by
      have := Int32.not_lt.mp h3
      simpa using Int32.le_iff_toInt_le.mp this
    rw [← hnn]
    show nn.toInt = ((nn.toInt.toNat : Nat) : Int)
    omega
  have z1 : (0 : Int32).toInt = 0 := rfl
  obtain ⟨-, k0, hk0, cm0, hkk0⟩ := (hK.1.2 0 _ rfl).1 n (fun j => .int (M o2 k j))
  obtain ⟨-, k1, hk1, cm1, hkk1⟩ := (hK.1.2 0 _ rfl).1 n (fun j => .int (M o k j))
  obtain ⟨vm', X', step⟩ := X1.arraycopy hx hown (hts _ hlink) (hts _ hnat) (hts _ hstat) (hts _ hini) (src := jA X o2 k) (dst := jA X o k) (cs := vp_cell X.2.1 (n, .inl (M o2 k))) (cd := vp_cell X.2.1 (n, .inl (M o k))) (srcPos := 0) (destPos := 0) (n := nn) (by rw [hT]; exact hc0) (by rw [hT]; exact hc1)
    (fun _ h => by cases h) (fun _ h => by cases h) (fun h => by cases h) (fun h => by cases h) hk0 hk1 hkk0 hkk1 (by simp [refKind]) (by decide) (by decide) h3
    (by rw [z1, nn1]; show ¬ _ > ((arrV X.2.1 n (fun j => .int (M o2 k j))).slots.size : Int); rw [arrV_size]; omega)
    (by rw [z1, nn1]; show ¬ _ > ((arrV X.2.1 n (fun j => .int (M o k j))).slots.size : Int); rw [arrV_size]; omega)
    (fun vm₁ _ i hi => by
      have e : (vp_cell X.2.1 (n, .inl (M o2 k))).slots.getD ((0 : Int32).toNatClampNeg + i) .null = .int (M o2 k ((0 : Int32).toNatClampNeg + i)) := by
        show (arrV X.2.1 n (fun j => .int (M o2 k j))).slots.getD _ _ = _
        rw [Array.getD_eq_getD_getElem?, arrV_read _ _ (by rw [nz]; omega)]
        rfl
      refine ⟨?_, ?_⟩
      · rw [e]
        rfl
      · rw [e]
        exact trivial)
    (g := F0 m pc ls (.int nn :: .int 0 :: .ref (jA X o k) :: .int 0 :: .ref (jA X o2 k) :: rest)) rfl (by rw [hml]) (rest := rest) rfl (by rw [hb]; exact hdg) hframes (by show 2 * 0 + _ + _ ≤ _; omega)
  have e1 : copied (vp_cell X.2.1 (n, .inl (M o2 k))) (vp_cell X.2.1 (n, .inl (M o k))) 0 0 nn = vp_cell X.2.1 (n, .inl (va_cpy (M o2 k) (M o k) (0 : Int32).toNatClampNeg (0 : Int32).toNatClampNeg nn.toNatClampNeg)) := va_copied (fun z => .int z) X.2.1 X.2.1 (M o2 k) (M o k) (by rw [nz, hnn]; omega)
  have e2 : vp_cell X.2.1 (n, .inl (va_cpy (M o2 k) (M o k) (0 : Int32).toNatClampNeg (0 : Int32).toNatClampNeg nn.toNatClampNeg)) = vp_cell X.2.1 (n, .inl (M o2 k)) := by
    rw [vp_cell_i, vp_cell_i]
    refine arrV_ext fun j hj => ?_
    rw [nz, hnn]
    simp only [va_cpy]
    rw [if_pos ⟨Nat.zero_le _, by omega⟩]
    congr 2
    omega
  rw [e1, e2] at X' step
  have hl : jA X o k < H.size := (Array.getElem?_eq_some_iff.mp hc1).1
  have hheap : ((T.setVm vm').setCell (jA X o k) (vp_cell X.2.1 (n, .inl (M o2 k)))).heap = H.setIfInBounds (jA X o k) (vp_cell X.2.1 (n, .inl (M o2 k))) := by rw [← hT]; rfl
  have oq : ∀ q : Nat, q ≠ jA X o k → (H.setIfInBounds (jA X o k) (vp_cell X.2.1 (n, .inl (M o2 k))))[q]? = H[q]? := fun q hq => by simp [Array.getElem?_setIfInBounds, Ne.symm hq]
  have hnew : (H.setIfInBounds (jA X o k) (vp_cell X.2.1 (n, .inl (M o2 k))))[jA X o k]? = some (vp_cell X.2.1 (n, .inl (jcp M o k o2 o k))) := by
    have e : jcp M o k o2 o k = M o2 k := by funext i; simp [jcp]
    rw [e]
    simp [Array.getElem?_setIfInBounds, hl]
  obtain ⟨t, a1, b1⟩ := kk _ _ (jrp_row hs hP hj hn h0 hnew oq (fun o' k' h => by funext i; simp only [jcp, if_neg h])) ⟨by simp; exact hS.1, fun q g1 g2 => by
      rw [oq q (fun e => g2 (by rw [e]; exact hAd))]
      exact hS.2.1 q g1 g2, fun q hq => by
      rcases List.mem_append.mp hq with h | h
      · exact hS.2.2 q h
      · obtain ⟨z, -, hz⟩ := List.mem_map.mp h
        rw [← hz]
        exact hAd⟩ _ hheap X'
  exact ⟨t, step t a1, b1⟩
/-- behind a call that changes nothing -/
theorem jr_kp {mq : Array Value} {st0 : List Value} {v : Value} (hr : va_Run p l e R s m args below meth c H locs cells slots 0 0 (F0 m pc ls st0) rest (jQ v mq) (fun _ => False)) (kk : W p l e R s m args below meth c H locs cells slots Q (F0 m (pc + 3) ls (v :: rest))) : W p l e R s m args below meth c H locs cells slots Q (F0 m pc ls st0) := by
  intro T hT X1
  obtain ⟨v', st₀, t, T', L, h0, X', hL, e1, e2, ⟨hv, hh⟩, st⟩ := hr T hT X1
  cases hv
  obtain ⟨t2, a1, b1⟩ := kk T' (by rw [e1, hh, h0]) (Stand.forget X' (fun q h => (hL q h).elim))
  exact ⟨t2, st t2 a1, b1⟩
/-- behind a call that answers and leaves the memory N -/
theorem jr_km {mq : Array Value} {st0 : List Value} {v : Value} {N : jm} (hr : va_Run p l e R s m args below meth c H locs cells slots 0 0 (F0 m pc ls st0) rest (jQm X A (some v) N mq) A) (hS : va_S A s.heap H locs)
    (kk : ∀ (H1 : Heap) (locs1 : List Loc), jrp X N H1 → va_S A s.heap H1 locs1 → W p l e R s m args below meth c H1 locs1 cells slots Q (F0 m (pc + 3) ls (v :: rest))) : W p l e R s m args below meth c H locs cells slots Q (F0 m pc ls st0) := by
  intro T hT X1
  obtain ⟨v', st₀, t, T', L, h0, X', hL, e1, e2, ⟨⟨hv, hb⟩, hz, hk⟩, st⟩ := hr T hT X1
  cases hv
  rw [h0] at hz hk
  obtain ⟨t2, a1, b1⟩ := kk T'.heap (locs ++ L) (by rw [e1]; exact hb.1)
    ⟨Nat.le_trans hS.1 (by rw [e1]; exact hz), fun q h1 h2 => by rw [e1, hk q (Nat.lt_of_lt_of_le h1 hS.1) h2]; exact hS.2.1 q h1 h2, fun q hq => by
      rcases List.mem_append.mp hq with h | h
      · exact hS.2.2 q h
      · exact hL q h⟩ T' rfl X'
  exact ⟨t2, st t2 a1, b1⟩
theorem jr_kv {mq : Array Value} {st0 : List Value} {N : jm} (hr : va_Run p l e R s m args below meth c H locs cells slots 0 0 (F0 m pc ls st0) rest (jQm X A none N mq) A) (hS : va_S A s.heap H locs)
    (kk : ∀ (H1 : Heap) (locs1 : List Loc), jrp X N H1 → va_S A s.heap H1 locs1 → W p l e R s m args below meth c H1 locs1 cells slots Q (F0 m (pc + 3) ls rest)) : W p l e R s m args below meth c H locs cells slots Q (F0 m pc ls st0) := by
  intro T hT X1
  obtain ⟨v', st₀, t, T', L, h0, X', hL, e1, e2, ⟨⟨hv, hb⟩, hz, hk⟩, st⟩ := hr T hT X1
  cases hv
  rw [h0] at hz hk
  obtain ⟨t2, a1, b1⟩ := kk T'.heap (locs ++ L) (by rw [e1]; exact hb.1)
    ⟨Nat.le_trans hS.1 (by rw [e1]; exact hz), fun q h1 h2 => by rw [e1, hk q (Nat.lt_of_lt_of_le h1 hS.1) h2]; exact hS.2.1 q h1 h2, fun q hq => by
      rcases List.mem_append.mp hq with h | h
      · exact hS.2.2 q h
      · exact hL q h⟩ T' rfl X'
  exact ⟨t2, st t2 a1, b1⟩
/-- the words of a method -/
def jvw (y : MethodName) (b : ByteArray) (maxL : Nat) (ret : Option FieldType) (n : Nat) : Prop := Cond.code y b maxL ret ∈ jtb ∧ Cond.initialized y.cls ∈ jtb ∧ (y.cls ≠ "java/lang/invoke/MethodHandle" ∧ y.cls ≠ "java/lang/invoke/VarHandle" ∧ (parseMethodDescriptor y.desc).map (fun d => d.parameters.length) = some n)
def jiw (y : MethodName) : Prop := Cond.instanceMethod y ∈ jtb ∧ Cond.selects y.cls y y ∈ jtb
theorem jgood {y : MethodName} {b : ByteArray} {maxL : Nat} {ret : Option FieldType} (h : Cond.code y b maxL ret ∈ jtb) : GoodIn jtb (jws y b maxL ret) := fun w hw => by
  rcases List.mem_cons.mp hw with rfl | hw
  · exact ⟨h, jtb_good _ h⟩
  · exact ⟨hw, jtb_good _ hw⟩
variable {own : String} {index n maxL nL o ci : Nat} {y : MethodName} {bytes : ByteArray} {ret : Option FieldType} {rm : Room} {Qc : Array Value → State → Outcome → State → Prop} {free : Addr → Prop} {st0 As : List Value}
theorem jr_rv (S : CallFix p m c cc nL s args jtb own) (hK : jK X s) (hP : jrp X M H) (hj : job o ci) (hci : (jC ci).1 = y.cls) (hM : Met l y (jws y bytes maxL ret) rm (va_Pc (.ref (jO X o) :: As) (jB X M)) Qc 0 0 free) (hw : jvw y bytes maxL ret n) (hi : jiw y) (hl : Cond.methodLink own index y ∈ jtb)
    (hrc : rm.cells = 0) (hrs : rm.slots = 0) (hR : rm.frames + 1 ≤ R.frames ∧ 8 + (maxL + 11) + rm.locals ≤ R.locals) (hn : As.length = n) (hsz : ls.size = nL) (hst : st0 = As.reverse ++ .ref (jO X o) :: rest) (hW : (rest.map fun v => v.category).sum ≤ 8) (hdg : decode cc pc = .ok (.invokevirtual index, 3)) (hf : cells + 0 ≤ R.cells ∧ slots + 0 ≤ R.slots) :
    va_Run p l e R s m args below meth c H locs cells slots 0 0 (F0 m pc ls st0) rest (Qc (Value.ref (jO X o) :: As).toArray) free := by
  obtain ⟨hx, hb, hml, hown, hts⟩ := id S
  obtain ⟨hw1, hw2, hw3⟩ := hw
  refine va_runV (C := (jC ci).1) (n := n) S hM ⟨callB_of n hts (jgood hw1) rfl hrc hrs (hts _ hw2) (hts _ hl) hw3 hR, hts _ hi.1, by rw [hci]; exact hts _ hi.2⟩ ⟨jblind, ?_, fun U hU hW => ⟨rfl, by rw [hU]; exact hP, hK.warm hW⟩⟩ rfl hn hsz hst (lv_room hW) hdg hf
  obtain ⟨ho, rfl⟩ := hj
  obtain ⟨cell, q1, q2, q3, -⟩ := hP.1 o ho
  exact ⟨cell, q1, by rw [q3]; rfl, by rw [q2]; exact (hK.1.1 _ _ (jcl_at _ (jcls_lt o))).2.1⟩
theorem jr_rs (S : CallFix p m c cc nL s args jtb own) (hN : jN s) (hM : Met l y (jws y bytes maxL ret) rm (va_Pc As jN) Qc 0 0 free) (hw : jvw y bytes maxL ret n) (hi : Cond.static y ∈ jtb) (hl : Cond.methodLink own index y ∈ jtb)
    (hrc : rm.cells = 0) (hrs : rm.slots = 0) (hR : rm.frames + 1 ≤ R.frames ∧ 8 + (maxL + 11) + rm.locals ≤ R.locals) (hn : As.length = n) (hsz : ls.size = nL) (hst : st0 = As.reverse ++ rest) (hW : (rest.map fun v => v.category).sum ≤ 8) (hdg : decode cc pc = .ok (.invokestatic index, 3)) (hf : cells + 0 ≤ R.cells ∧ slots + 0 ≤ R.slots) :
    va_Run p l e R s m args below meth c H locs cells slots 0 0 (F0 m pc ls st0) rest (Qc As.toArray) free := by
  obtain ⟨hx, hb, hml, hown, hts⟩ := id S
  obtain ⟨hw1, hw2, hw3⟩ := hw
  exact va_runS (n := n) S hM ⟨callB_of n hts (jgood hw1) rfl hrc hrs (hts _ hw2) (hts _ hl) hw3 hR, hts _ hi⟩ ⟨jblind0, fun U hU hW => ⟨rfl, hN.warm hW⟩⟩ rfl hn hsz hst (lv_room hW) hdg hf
theorem jr_rn (S : CallFix p m c cc nL s args jtb own) (hN : jN s) (hM : Met l y (jws y bytes maxL ret) rm (va_Pc As jN) Qc 0 0 free) (hw : jvw y bytes maxL ret n) (hi : Cond.static y ∈ jtb) (hl : (own, index, y) ∈ jnw)
    (hrc : rm.cells = 0) (hrs : rm.slots = 0) (hR : rm.frames + 1 ≤ R.frames ∧ 8 + (maxL + 11) + rm.locals ≤ R.locals) (hn : As.length = n) (hsz : ls.size = nL) (hst : st0 = As.reverse ++ rest) (hW : (rest.map fun v => v.category).sum ≤ 8) (hdg : decode cc pc = .ok (.invokestatic index, 3)) (hf : cells + 0 ≤ R.cells ∧ slots + 0 ≤ R.slots) :
    va_Run p l e R s m args below meth c H locs cells slots 0 0 (F0 m pc ls st0) rest (Qc As.toArray) free := by
  obtain ⟨hx, hb, hml, hown, hts⟩ := id S
  obtain ⟨hw1, hw2, hw3⟩ := hw
  exact va_runSN (n := n) (host := RX5) S hM ⟨va_cnB n hts (jgood hw1) rfl hrc hrs (hN _ hl) (hts _ hw2) hw3 hR, hts _ hi, trivial⟩ ⟨jblind0, fun U hU hW => ⟨rfl, hN.warm hW⟩⟩ rfl hn hsz hst (lv_room hW) hdg hf
-- ends of methods
theorem je_i {v r : Int32} (hx : p.tables.exec = Jvm.exec) (hb : c.code = cc) (hr : meth.sig.returnType = some .int) (hlocks : meth.locks = false) (hv : v = r) (hdg : decode cc pc = .ok (.ireturn, 1)) :
    W p l e R s m args below meth c s.heap [] cells slots (MQ below (jQ (.int r)) args s cells slots (fun _ => False)) (F0 m pc ls [.int v]) := by
  subst hv
  exact W.iret hx hb hr (fun t ht _ => ⟨rfl, ht⟩) (fun _ h => absurd h List.not_mem_nil) hdg
theorem je_z {v r : Int32} (hx : p.tables.exec = Jvm.exec) (hb : c.code = cc) (hr : meth.sig.returnType = some .boolean) (hlocks : meth.locks = false) (hz : v = 0 ∨ v = 1) (hv : v = r) (hdg : decode cc pc = .ok (.ireturn, 1)) :
    W p l e R s m args below meth c s.heap [] cells slots (MQ below (jQ (.int r)) args s cells slots (fun _ => False)) (F0 m pc ls [.int v]) := by
  subst hv
  exact W.zret hx hb hr (jn_b hz) (fun t ht _ => ⟨rfl, ht⟩) (fun _ h => absurd h List.not_mem_nil) hdg
theorem je_l {v r : Int64} (hx : p.tables.exec = Jvm.exec) (hb : c.code = cc) (hr : meth.sig.returnType = some .long) (hlocks : meth.locks = false) (hv : v = r) (hdg : decode cc pc = .ok (.lreturn, 1)) :
    W p l e R s m args below meth c s.heap [] cells slots (MQ below (jQ (.long r)) args s cells slots (fun _ => False)) (F0 m pc ls [.long v]) := by
  subst hv
  exact W.lret hx hb hr (fun t ht _ => ⟨rfl, ht⟩) (fun _ h => absurd h List.not_mem_nil) hdg
theorem je_mi {v r : Int32} {N : jm} (hx : p.tables.exec = Jvm.exec) (hb : c.code = cc) (hr : meth.sig.returnType = some .int) (hlocks : meth.locks = false) (hK : jK X s) (hP : jrp X M H) (hS : va_S A s.heap H locs) (hv : some (v, M) = some (r, N)) (hdg : decode cc pc = .ok (.ireturn, 1)) :
    W p l e R s m args below meth c H locs cells slots (MQ below (jQm X A (some (.int r)) N) args s cells slots A) (F0 m pc ls [.int v]) := by
  cases hv
  exact W.iret hx hb hr (fun t ht hW => ⟨⟨rfl, by rw [ht]; exact hP, hK.warm hW⟩, hS.F ht⟩) hS.2.2 hdg
theorem je_mz {v r : Int32} {N : jm} (hx : p.tables.exec = Jvm.exec) (hb : c.code = cc) (hr : meth.sig.returnType = some .boolean) (hlocks : meth.locks = false) (hK : jK X s) (hP : jrp X M H) (hS : va_S A s.heap H locs) (hz : v = 0 ∨ v = 1) (hv : some (v, M) = some (r, N)) (hdg : decode cc pc = .ok (.ireturn, 1)) :
    W p l e R s m args below meth c H locs cells slots (MQ below (jQm X A (some (.int r)) N) args s cells slots A) (F0 m pc ls [.int v]) := by
  cases hv
  exact W.zret hx hb hr (jn_b hz) (fun t ht hW => ⟨⟨rfl, by rw [ht]; exact hP, hK.warm hW⟩, hS.F ht⟩) hS.2.2 hdg
theorem je_ml {v r : Int64} {N : jm} (hx : p.tables.exec = Jvm.exec) (hb : c.code = cc) (hr : meth.sig.returnType = some .long) (hlocks : meth.locks = false) (hK : jK X s) (hP : jrp X M H) (hS : va_S A s.heap H locs) (hv : some (v, M) = some (r, N)) (hdg : decode cc pc = .ok (.lreturn, 1)) :
    W p l e R s m args below meth c H locs cells slots (MQ below (jQm X A (some (.long r)) N) args s cells slots A) (F0 m pc ls [.long v]) := by
  cases hv
  exact W.lret hx hb hr (fun t ht hW => ⟨⟨rfl, by rw [ht]; exact hP, hK.warm hW⟩, hS.F ht⟩) hS.2.2 hdg
theorem je_mv {N : jm} (hx : p.tables.exec = Jvm.exec) (hb : c.code = cc) (hr : meth.sig.returnType = none) (hlocks : meth.locks = false) (hK : jK X s) (hP : jrp X M H) (hS : va_S A s.heap H locs) (hv : some M = some N) (hdg : decode cc pc = .ok (.return_, 1)) :
    W p l e R s m args below meth c H locs cells slots (MQ below (jQm X A none N) args s cells slots A) (F0 m pc ls []) := by
  cases hv
  exact W.vret hx hb hr (fun t ht hW => ⟨⟨rfl, by rw [ht]; exact hP, hK.warm hW⟩, hS.F ht⟩) hS.2.2 hdg
end JR
