/-! Arrays.fill over a row of ints; a World as its constructor leaves it (its rows from z on) -/
def jwo (z : Nat) : va_E := .inr (4, [.int 0, .ref z, .ref (z + 1), .ref (z + 2), .int 0, .int 0, .ref (z + 3), .ref (z + 4), .ref (z + 5), .ref (z + 6), .int 0])
def jPf (X : jX) (a N : Nat) (f : Nat → Int32) (U : State) : Prop := U.heap[a]? = some (vp_cell X.2.1 (N, .inl f)) ∧ jK X U
def jQf (X : jX) (a N : Nat) (v : Int32) : Array Value → State → Outcome → State → Prop := fun _ st o t => (o = .returned none ∧ t.heap[a]? = some (vp_cell X.2.1 (N, .inl (fun _ => v))) ∧ t.heap.size = st.heap.size) ∧ va_F (fun q => q = a) st t
set_option maxRecDepth 100000 in
theorem m_J7_fill (l : Launch) (X : jX) (a N : Nat) (f : Nat → Int32) (v : Int32) (hN : N < 2 ^ 31) : Met l yJ7_fill_53178 (jws yJ7_fill_53178 cJ7_fill_53178 4 none) (jrm 0 0) (va_Pc [.ref a, .int v] (jPf X a N f)) (jQf X a N v) 0 0 (fun q => q = a) := by
  refine jm_of (by decide) (Nat.le_of_ble_eq_true rfl) ?_
  intro p e s m args below meth c ls S hr hlocks hB hl
  have S : CallFix p m c cJ7_fill_53178 4 s args jtb RJ7 := S
  obtain ⟨hx, hb, hml, hown, hts⟩ := id S
  obtain ⟨hc, hK⟩ := hB
  have hl : lv_has ls 4 [(0, .ref a), (1, .int v)] := hl
  have hP1 : ∀ (H : Heap) (g : Nat → Int32), H[a]? = some (vp_cell X.2.1 (N, .inl g)) → va_P X.1 jcl [(a, .inl (X.2.1, N, .inl g))] H := fun H g hg k q h => by
    match k, h with
    | 0, h => cases h; exact hg
    | k + 1, h => simp at h
  have hD1 : ∀ (g : Nat → Int32), va_D (fun q => q = a) [(a, .inl (X.2.1, N, .inl g))] := fun g => ⟨fun i j p q h1 h2 _ => by
    have q1 : i < 1 := (List.getElem?_eq_some_iff.mp h1).1
    have q2 : j < 1 := (List.getElem?_eq_some_iff.mp h2).1
    omega, fun k q h => by
    match k, h with
    | 0, h => cases h; rfl
    | k + 1, h => simp at h⟩
  have hS : va_S (fun q => q = a) s.heap s.heap [] := va_S.rf
  have hP := hP1 _ f hc
  refine lv_iconst (v := 0) hx hb dJ7_fill_53178_0 (by decide) ?_
  refine lv_istore_n (lv' := [(2, .int 0), (0, .ref a), (1, .int v)]) hx hb dJ7_fill_53178_1 rfl hl (Nat.le_of_ble_eq_true rfl) rfl (fun ls hl => ?_)
  refine lv_aload_n hx hb dJ7_fill_53178_2 rfl (lv_at hl 1 rfl) ?_
  refine va_alen (v := nI N) hx hb hK.1 hP 0 0 rfl rfl rfl dJ7_fill_53178_3 ?_
  refine lv_istore_n (lv' := [(3, .int (nI N)), (2, .int 0), (0, .ref a), (1, .int v)]) hx hb dJ7_fill_53178_4 rfl hl (Nat.le_of_ble_eq_true rfl) rfl (fun ls hl => ?_)
  have L : ∀ (k i : Nat) (g : Nat → Int32) (H : Heap) (locs : List Loc) (ls : Array Slot), i + k = N → (∀ j, j < i → g j = v) → H.size = s.heap.size → H[a]? = some (vp_cell X.2.1 (N, .inl g)) → va_S (fun q => q = a) s.heap H locs → lv_has ls 4 [(0, .ref a), (1, .int v), (2, .int (nI i)), (3, .int (nI N))] → W p l e (jrm 0 0) s m args below meth c H locs 0 0 (MQ below (jQf X a N v) args s 0 0 (fun q => q = a)) (F0 m 5 ls []) := by
    intro k
    induction k with
    | zero =>
      intro i g H locs ls hi hg hsz hc hS hl
      refine lv_iload_n hx hb dJ7_fill_53178_5 rfl (lv_at hl 2 rfl) ?_
      refine lv_iload_n hx hb dJ7_fill_53178_6 rfl (lv_at hl 3 rfl) ?_
      refine lv_icmp_ge (tgt := 20) hx hb dJ7_fill_53178_7 rfl (fun _ => ?_) (fun c => absurd (nI_le (by omega) (by omega)) c)
      refine W.vret hx hb hr (fun t ht hW => ⟨⟨rfl, ?_, by rw [ht]; exact hsz⟩, hS.F ht⟩) hS.2.2 dJ7_fill_53178_20
      rw [ht, hc, vp_cell_i, vp_cell_i]
      rw [arrV_ext (g := fun j => .int v) (fun j hj => by rw [hg j (by omega)])]
    | succ k ih =>
      intro i g H locs ls hi hg hsz hc hS hl
      refine lv_iload_n hx hb dJ7_fill_53178_5 rfl (lv_at hl 2 rfl) ?_
      refine lv_iload_n hx hb dJ7_fill_53178_6 rfl (lv_at hl 3 rfl) ?_
      refine lv_icmp_ge (tgt := 20) hx hb dJ7_fill_53178_7 rfl (fun c => absurd c (nI_ge (by omega) (by omega))) (fun _ => ?_)
      refine lv_aload_n hx hb dJ7_fill_53178_10 rfl (lv_at hl 0 rfl) ?_
      refine lv_iload_n hx hb dJ7_fill_53178_11 rfl (lv_at hl 2 rfl) ?_
      refine lv_iload_n hx hb dJ7_fill_53178_12 rfl (lv_at hl 1 rfl) ?_
      have hin : vp_in (nI i) N := vp_in_nI (by omega) (by omega)
      refine W.iast hx hb hc ((hK.1.2 0 _ rfl).1 N (fun j => .int (g j))) (fun q => by cases q) (by show ¬ (nI i < 0 ∨ (arrV _ _ _).slots.size ≤ _); rw [arrV_size]; exact hin) rfl rfl dJ7_fill_53178_13 (fun H1 e z oq => ?_)
      have hcl : (nI i).toNatClampNeg = i := nI_clamp (by omega)
      refine lv_iinc (v := nI (i + 1)) (lv' := [(2, .int (nI (i + 1))), (0, .ref a), (1, .int v), (3, .int (nI N))]) hx hb dJ7_fill_53178_14 hl (k := 2) rfl (nI_1 i) (Nat.le_of_ble_eq_true rfl) rfl (fun ls hl => ?_)
      refine lv_goto (tgt := 5) hx hb dJ7_fill_53178_17 rfl ?_
      refine ih (i + 1) (upd g i v) H1 _ ls (by omega) (fun j hj => ?_) (z.trans hsz) ?_ (hS.put z oq rfl) (lv_sub hl [1, 2, 0, 3] rfl)
      · by_cases ej : j = i
        · simp [upd, ej]
        · simp only [upd, if_neg ej]; exact hg j (by omega)
      · rw [e, hcl, vp_cell_i, vp_cell_i, arrV_store]
        congr 2
        funext q
        by_cases hq : q = i
        · subst hq; simp [updV, upd]
        · simp [updV, upd, hq]
  exact L N 0 f _ _ ls (by omega) (fun j hj => absurd hj (Nat.not_lt_zero j)) rfl hc hS (lv_sub hl [2, 3, 1, 0] rfl)
section JF
variable {p : Program} {l : Launch} {e : Env} {R : Room} {s : State} {m : MethodId} {args : Array Value} {below : List Frame} {meth : Method} {c : Code} {H : Heap} {locs : List Loc} {cells slots : Nat} {Q : State → Prop}
variable {cc : ByteArray} {pc : Nat} {ls : Array Slot} {rest : List Value} {X : jX} {A : Nat → Prop} {n : Nat} {cs : List va_E} {nL index : Nat} {own : String}
theorem jz_fill {j N : Nat} {f : Nat → Int32} {v : Int32} (S : CallFix p m c cc nL s args jtb own) (hK : jK X s) (hz : jz X n cs H) (hj : cs[j]? = some (.inl (X.2.1, N, .inl f))) (hN : N < 2 ^ 31) (hS : va_S A s.heap H locs) (hA : ∀ q, n ≤ q → A q)
    (hw : jvw yJ7_fill_53178 cJ7_fill_53178 4 none 2) (hi : Cond.static yJ7_fill_53178 ∈ jtb) (hl : Cond.methodLink own index yJ7_fill_53178 ∈ jtb) (hR : (jrm 0 0).frames + 1 ≤ R.frames ∧ 8 + (4 + 11) + (jrm 0 0).locals ≤ R.locals) (hsz : ls.size = nL) (hdg : decode cc pc = .ok (.invokestatic index, 3))
    (kk : ∀ (H1 : Heap) (locs1 : List Loc), (∀ q, q < n → H1[q]? = H[q]?) → jz X n (cs.set j (.inl (X.2.1, N, .inl (fun _ => v)))) H1 → va_S A s.heap H1 locs1 → W p l e R s m args below meth c H1 locs1 cells slots Q (F0 m (pc + 3) ls [])) (hf : cells + 0 ≤ R.cells ∧ slots + 0 ≤ R.slots) : W p l e R s m args below meth c H locs cells slots Q (F0 m pc ls [.int v, .ref (n + j)]) := by
  obtain ⟨hx, hb, hml, hown, hts⟩ := id S
  obtain ⟨hw1, hw2, hw3⟩ := hw
  have hr := va_runS (H := H) (locs := locs) (below := below) (meth := meth) (e := e) (cells := cells) (slots := slots) (rest := []) (g := F0 m pc ls [.int v, .ref (n + j)]) (As := [.ref (n + j), .int v]) (n := 2) S (m_J7_fill l X (n + j) N f v hN) ⟨callB_of (R := R) 2 hts (jgood hw1) rfl rfl rfl (hts _ hw2) (hts _ hl) hw3 hR, hts _ hi⟩ ⟨fun a U g mk q => ⟨q.1, q.2.1, va_K.moved (u := U) (U := U.calling g mk a) (Vm.Alike.refl U.vm) q.2.2.1, q.2.2.2.same (U := U.calling g mk a) rfl⟩, fun U hU hW => ⟨rfl, by rw [hU]; exact hz.2 j _ hj, hK.warm hW⟩⟩ rfl rfl hsz rfl (by show 2 * 0 + 0 ≤ 8; omega) hdg hf
  intro T hT X1
  obtain ⟨v', st₀, t, T', L, h0, X', hL, e1, e2, ⟨⟨hv, hb1, hb2⟩, hzz, hk⟩, st⟩ := hr T hT X1
  cases hv
  rw [h0] at hzz hk hb2
  have hlt : n + j < H.size := (hz.2 j _ hj).lt
  have off : ∀ q, q ≠ n + j → t.heap[q]? = H[q]? := fun q hq => by
    by_cases hl : q < H.size
    · exact hk q hl hq
    · rw [Array.getElem?_eq_none (by omega), Array.getElem?_eq_none (by omega)]
  obtain ⟨t2, a1, b1⟩ := kk T'.heap (locs ++ L) (fun q hq => by rw [e1]; exact off q (by omega)) (by rw [e1]; exact hz.set hb2 off hb1)
    ⟨Nat.le_trans hS.1 (by rw [e1]; exact hzz), fun q h1 h2 => by rw [e1, off q (fun z => h2 (by rw [z]; exact hA _ (by omega)))]; exact hS.2.1 q h1 h2, fun q hq => by
      rcases List.mem_append.mp hq with h | h
      · exact hS.2.2 q h
      · exact hA _ (by rw [hL q h]; omega)⟩ T' rfl X'
  exact ⟨t2, st t2 a1, b1⟩
end JF
