theorem jclL_10 : Cond.classLink RL 10 (jC 6).1 ∈ jtb := jtb_mem 753 (by decide +kernel) rfl
theorem jclL_7 : Cond.classLink RL 7 (jC 5).1 ∈ jtb := jtb_mem 72 (by decide +kernel) rfl
theorem jim_X5_init : Cond.instanceMethod yX5_init ∈ jtb := jtb_mem 75 (by decide +kernel) rfl
theorem jim_X6_init : Cond.instanceMethod yX6_init ∈ jtb := jtb_mem 756 (by decide +kernel) rfl
theorem jini5 : Cond.initialized (jC 5).1 ∈ jtb := jtb_mem 61 (by decide +kernel) rfl
theorem jini6 : Cond.initialized (jC 6).1 ∈ jtb := jtb_mem 68 (by decide +kernel) rfl
theorem jins5 : Cond.instantiable (jC 5).1 (jC 5).2.2 ∈ jtb := jtb_mem 73 (by decide +kernel) rfl
theorem jins6 : Cond.instantiable (jC 6).1 (jC 6).2.2 ∈ jtb := jtb_mem 754 (by decide +kernel) rfl
theorem jmL_12 : Cond.methodLink RL 12 yX6_init ∈ jtb := jtb_mem 755 (by decide +kernel) rfl
theorem jmL_9 : Cond.methodLink RL 9 yX5_init ∈ jtb := jtb_mem 74 (by decide +kernel) rfl
theorem jw_X5_init : jvw yX5_init cX5_init 1 none 0 := ⟨jtb_mem 76 (by decide +kernel) rfl, jtb_mem 61 (by decide +kernel) rfl, by decide +kernel⟩
theorem jw_X6_init : jvw yX6_init cX6_init 1 none 0 := ⟨jtb_mem 757 (by decide +kernel) rfl, jtb_mem 68 (by decide +kernel) rfl, by decide +kernel⟩
theorem jao : lw_tbl[145]? = some (Cond.arrayOver (.object RX4)) := by decide +kernel
theorem jnw_mem : ∀ q ∈ jnw, Cond.methodLinkNest q.1 q.2.1 q.2.2 RX5 ∈ lw_tbl := by decide +kernel
theorem jins_all : ∀ c, c < 7 → Cond.instantiable (jC c).1 (jC c).2.2 ∈ jtb
  | 0, _ => jins0
  | 1, _ => jins1
  | 2, _ => jins2
  | 3, _ => jins3
  | 4, _ => jins4
  | 5, _ => jins5
  | 6, _ => jins6
  | c + 7, h => absurd h (by omega)
set_option maxHeartbeats 4000000 in
set_option maxRecDepth 100000 in
theorem whole_start {p : Program} {e : Env} {s : State} {m : MethodId} {below : List Frame} {meth : Method} {c : Code} (l : Launch) (hflags : l.flags = flags0) {b L : Nat} {xs : Nat → Int32} (hL : L ≤ 3072) (C0 : lw_At p s m meth c b L xs) : W p l e room_1 s m #[Value.ref b] below meth c s.heap [] 0 0 (lw_Z below #[Value.ref b] s) (entryFrame m ([Value.ref b] : List Value).toArray 4) := by
  obtain ⟨hx, hb, hr, hml, hown, hts0, hX, hbl, hlocks, hgv⟩ := id C0
  have hts : ∀ w ∈ jtb, w.before #[Value.ref b] s = true := fun w hw => hts0 w (List.mem_filter.mp hw).1
  have S : CallFix p m c code 4 s #[Value.ref b] jtb RL := ⟨hx, hb, hml, hown, hts⟩
  have hown : s.vm.findClass RL = some m.cls := hown
  have hN : jN s := fun q hq => va_Nw.of rfl (hts0 _ (jnw_mem q hq))
  have hover := hts0 _ (List.mem_of_getElem? jao)
  have hO : va_AO RX4 s := va_AO.of hover
  have hcls : ∀ c, c < 7 → ∃ (cC : ClassId) (iS : Nat → Nat), u_Kn s (jC c).1 (jC c).2.1 (jC c).2.2 cC iS := fun c hc => u_known (n := (jC c).2.2) hts (jin hc) (hts _ (jins_all c hc))
  obtain ⟨D, hD⟩ : ∃ D : va_G, ∀ (c : Nat) (q : vw_C), jcl[c]? = some q → u_Kn s q.1 q.2.1 q.2.2 (D.1 c) (D.2 c) := by
    refine ⟨(fun c => if h : c < 7 then Classical.choose (hcls c h) else 0, fun c => if h : c < 7 then Classical.choose (Classical.choose_spec (hcls c h)) else fun _ => 0), fun c q hq => ?_⟩
    have hc : c < 7 := (List.getElem?_eq_some_iff.mp hq).1
    have e : q = jC c := Option.some.inj (hq.symm.trans (jcl_at c hc))
    subst e
    show u_Kn s _ _ _ (if h : c < 7 then Classical.choose (hcls c h) else 0) (if h : c < 7 then Classical.choose (Classical.choose_spec (hcls c h)) else fun _ => 0)
    rw [dif_pos hc, dif_pos hc]
    exact Classical.choose_spec (Classical.choose_spec (hcls c hc))
  obtain ⟨cI, kI, comp, f1, f2, f3⟩ := Cond.arrayClass_spec (hts _ jarr)
  obtain ⟨compR, cR, kR, g1, -, g2, g3, g4⟩ := Cond.arrayOver_spec hover
  obtain ⟨n, hn⟩ : ∃ n, n = s.heap.size := ⟨_, rfl⟩
  obtain ⟨X, hXe⟩ : ∃ X, X = jXX D cI cR n := ⟨_, rfl⟩
  have hK : jK X s := by
    subst hXe
    refine ⟨⟨fun c q hq => hD c q hq, fun k q hk => ?_⟩, hN⟩
    match k, hk with
    | 0, hk => cases hk; exact ⟨fun N z => ⟨(fun k h => by cases h), kI, f2, comp, f3⟩, f1⟩
    | 1, hk => cases hk; exact ⟨fun N z => ⟨(fun k h => by cases h), kR, g2, compR, g3⟩, kR, compR, g2, g3, g1, g4⟩
    | k + 2, hk => simp at hk
  have hz : jz X n [] s.heap := by rw [hn]; exact jz.nil
  have hS : va_S (fun q : Nat => s.heap.size ≤ q) s.heap s.heap [] := va_S.rf
  have hAn : ∀ q, n ≤ q → (fun q : Nat => s.heap.size ≤ q) q := fun q h => by rw [← hn]; exact h
  have hl := lv_entry ([.ref b]) (n := 4) (Nat.le_of_ble_eq_true rfl)
  rw [lg_entry_eq]
  generalize (lg_sl ([.ref b]) ++ List.replicate (4 - (lg_sl ([.ref b])).length) Slot.unset).toArray = ls at hl ⊢
  have hl : lv_has ls 4 [(0, .ref b)] := hl
  refine jz_new (k := 0) (fs := [.null, .null, .null, .int 0, .null, .null, .null, .null, .null, .int 0, .null]) hx hb hts hown jclL_7 jins5 jini5 (by decide) hK hz hS rfl (by decide) (Nat.le_of_ble_eq_true rfl) (Nat.le_of_ble_eq_true rfl) dL_law_0 (fun H o1 hz hS => ?_)
  have hz : jz X n [.inr (5, [.null, .null, .null, .int 0, .null, .null, .null, .null, .null, .int 0, .null])] H := hz
  refine W.widen (k := 1) (n := 11) (by decide) (by decide) ?_
  refine lv_dup hx hb dL_law_3 rfl ?_
  refine jz_call (j := 0) (n1 := n + 1) (jz_ri (rest := [.ref (n + 0)]) S hK hO (hz.2 0 _ rfl) hz.1 (m_X5_init l X (n + 0) (n + 1)) jw_X5_init jim_X5_init jmL_9 rfl rfl rfl ⟨(Nat.le_of_ble_eq_true rfl), (Nat.le_of_ble_eq_true rfl)⟩ hl.1 rfl (Nat.le_of_ble_eq_true rfl) dL_law_4 ⟨(Nat.le_of_ble_eq_true rfl), (Nat.le_of_ble_eq_true rfl)⟩) hz rfl (Nat.le_of_ble_eq_true rfl) hS hAn (fun H locs o1 hz hS => ?_)
  have hz : jz X n [.inr (5, [.ref (n + 1), .ref (n + 9), .ref (n + 17), .int 0, .ref (n + 25), .ref (n + 91), .ref (n + 93), .ref (n + 95), .ref (n + 97), .int 0, .ref (n + 98)]), jwo (n + 2), .inl (X.2.1, 8, .inl (fun _ => 0)), .inl (X.2.1, 8, .inl (fun _ => 0)), .inl (X.2.1, 8, .inl (fun _ => 0)), .inl (X.2.1, 6, .inl (fun _ => 0)), .inl (X.2.1, 6, .inl (fun _ => 0)), .inl (X.2.1, 6, .inl (fun _ => 0)), .inl (X.2.1, 48, .inl (fun _ => (-1))), jwo (n + 10), .inl (X.2.1, 8, .inl (fun _ => 0)), .inl (X.2.1, 8, .inl (fun _ => 0)), .inl (X.2.1, 8, .inl (fun _ => 0)), .inl (X.2.1, 6, .inl (fun _ => 0)), .inl (X.2.1, 6, .inl (fun _ => 0)), .inl (X.2.1, 6, .inl (fun _ => 0)), .inl (X.2.1, 48, .inl (fun _ => (-1))), jwo (n + 18), .inl (X.2.1, 8, .inl (fun _ => 0)), .inl (X.2.1, 8, .inl (fun _ => 0)), .inl (X.2.1, 8, .inl (fun _ => 0)), .inl (X.2.1, 6, .inl (fun _ => 0)), .inl (X.2.1, 6, .inl (fun _ => 0)), .inl (X.2.1, 6, .inl (fun _ => 0)), .inl (X.2.1, 48, .inl (fun _ => (-1))), .inr (0, [.ref (n + 26), .int 0, .int 0]), .inl (X.2.2.1, 8, .inr (.inr (.inr (.inr (va_up (va_up (va_up (va_up (va_up (va_up (va_up (va_up (fun _ => none) (Int32.toNatClampNeg 0) (some (n + 27))) (Int32.toNatClampNeg 1) (some (n + 35))) (Int32.toNatClampNeg 2) (some (n + 43))) (Int32.toNatClampNeg 3) (some (n + 51))) (Int32.toNatClampNeg 4) (some (n + 59))) (Int32.toNatClampNeg 5) (some (n + 67))) (Int32.toNatClampNeg 6) (some (n + 75))) (Int32.toNatClampNeg 7) (some (n + 83))))))), jwo (n + 28), .inl (X.2.1, 8, .inl (fun _ => 0)), .inl (X.2.1, 8, .inl (fun _ => 0)), .inl (X.2.1, 8, .inl (fun _ => 0)), .inl (X.2.1, 6, .inl (fun _ => 0)), .inl (X.2.1, 6, .inl (fun _ => 0)), .inl (X.2.1, 6, .inl (fun _ => 0)), .inl (X.2.1, 48, .inl (fun _ => (-1))), jwo (n + 36), .inl (X.2.1, 8, .inl (fun _ => 0)), .inl (X.2.1, 8, .inl (fun _ => 0)), .inl (X.2.1, 8, .inl (fun _ => 0)), .inl (X.2.1, 6, .inl (fun _ => 0)), .inl (X.2.1, 6, .inl (fun _ => 0)), .inl (X.2.1, 6, .inl (fun _ => 0)), .inl (X.2.1, 48, .inl (fun _ => (-1))), jwo (n + 44), .inl (X.2.1, 8, .inl (fun _ => 0)), .inl (X.2.1, 8, .inl (fun _ => 0)), .inl (X.2.1, 8, .inl (fun _ => 0)), .inl (X.2.1, 6, .inl (fun _ => 0)), .inl (X.2.1, 6, .inl (fun _ => 0)), .inl (X.2.1, 6, .inl (fun _ => 0)), .inl (X.2.1, 48, .inl (fun _ => (-1))), jwo (n + 52), .inl (X.2.1, 8, .inl (fun _ => 0)), .inl (X.2.1, 8, .inl (fun _ => 0)), .inl (X.2.1, 8, .inl (fun _ => 0)), .inl (X.2.1, 6, .inl (fun _ => 0)), .inl (X.2.1, 6, .inl (fun _ => 0)), .inl (X.2.1, 6, .inl (fun _ => 0)), .inl (X.2.1, 48, .inl (fun _ => (-1))), jwo (n + 60), .inl (X.2.1, 8, .inl (fun _ => 0)), .inl (X.2.1, 8, .inl (fun _ => 0)), .inl (X.2.1, 8, .inl (fun _ => 0)), .inl (X.2.1, 6, .inl (fun _ => 0)), .inl (X.2.1, 6, .inl (fun _ => 0)), .inl (X.2.1, 6, .inl (fun _ => 0)), .inl (X.2.1, 48, .inl (fun _ => (-1))), jwo (n + 68), .inl (X.2.1, 8, .inl (fun _ => 0)), .inl (X.2.1, 8, .inl (fun _ => 0)), .inl (X.2.1, 8, .inl (fun _ => 0)), .inl (X.2.1, 6, .inl (fun _ => 0)), .inl (X.2.1, 6, .inl (fun _ => 0)), .inl (X.2.1, 6, .inl (fun _ => 0)), .inl (X.2.1, 48, .inl (fun _ => (-1))), jwo (n + 76), .inl (X.2.1, 8, .inl (fun _ => 0)), .inl (X.2.1, 8, .inl (fun _ => 0)), .inl (X.2.1, 8, .inl (fun _ => 0)), .inl (X.2.1, 6, .inl (fun _ => 0)), .inl (X.2.1, 6, .inl (fun _ => 0)), .inl (X.2.1, 6, .inl (fun _ => 0)), .inl (X.2.1, 48, .inl (fun _ => (-1))), jwo (n + 84), .inl (X.2.1, 8, .inl (fun _ => 0)), .inl (X.2.1, 8, .inl (fun _ => 0)), .inl (X.2.1, 8, .inl (fun _ => 0)), .inl (X.2.1, 6, .inl (fun _ => 0)), .inl (X.2.1, 6, .inl (fun _ => 0)), .inl (X.2.1, 6, .inl (fun _ => 0)), .inl (X.2.1, 48, .inl (fun _ => (-1))), .inr (1, [.ref (n + 92), .int 0]), .inl (X.2.1, 96, .inl (fun _ => 0)), .inr (3, [.ref (n + 94), .int 0, .int 0]), .inl (X.2.1, 49, .inl (fun _ => 0)), .inr (2, [.ref (n + 96), .int 0]), .inl (X.2.1, 896, .inl (fun _ => 0)), .inl (X.2.1, 12, .inl (fun _ => 0)), .inl (X.2.1, 7, .inl (fun _ => 0))] H := hz
  refine W.widen (k := 99) (n := 2200) (by decide) (by decide) ?_
  refine lv_astore_n (lv' := [(1, .ref (n + 0)), (0, .ref b)]) hx hb dL_law_7 rfl hl (Nat.le_of_ble_eq_true rfl) rfl (fun ls hl => ?_)
  refine jz_new (k := 99) (fs := [.int 0, .null, .null, .null, .null, .int 0, .null, .null, .null, .null, .int 0, .int 0, .null, .null, .int 0, .int 0, .int 0, .int 0, .null, .null, .null, .null, .null, .int 0, .int 0, .int 0, .null, .null, .null, .int 0, .null, .null, .int 0, .null, .null, .null, .int 0, .null, .int 0]) hx hb hts hown jclL_10 jins6 jini6 (by decide) hK hz hS rfl (by decide) (Nat.le_of_ble_eq_true rfl) (Nat.le_of_ble_eq_true rfl) dL_law_8 (fun H o1 hz hS => ?_)
  have hz : jz X n [.inr (5, [.ref (n + 1), .ref (n + 9), .ref (n + 17), .int 0, .ref (n + 25), .ref (n + 91), .ref (n + 93), .ref (n + 95), .ref (n + 97), .int 0, .ref (n + 98)]), jwo (n + 2), .inl (X.2.1, 8, .inl (fun _ => 0)), .inl (X.2.1, 8, .inl (fun _ => 0)), .inl (X.2.1, 8, .inl (fun _ => 0)), .inl (X.2.1, 6, .inl (fun _ => 0)), .inl (X.2.1, 6, .inl (fun _ => 0)), .inl (X.2.1, 6, .inl (fun _ => 0)), .inl (X.2.1, 48, .inl (fun _ => (-1))), jwo (n + 10), .inl (X.2.1, 8, .inl (fun _ => 0)), .inl (X.2.1, 8, .inl (fun _ => 0)), .inl (X.2.1, 8, .inl (fun _ => 0)), .inl (X.2.1, 6, .inl (fun _ => 0)), .inl (X.2.1, 6, .inl (fun _ => 0)), .inl (X.2.1, 6, .inl (fun _ => 0)), .inl (X.2.1, 48, .inl (fun _ => (-1))), jwo (n + 18), .inl (X.2.1, 8, .inl (fun _ => 0)), .inl (X.2.1, 8, .inl (fun _ => 0)), .inl (X.2.1, 8, .inl (fun _ => 0)), .inl (X.2.1, 6, .inl (fun _ => 0)), .inl (X.2.1, 6, .inl (fun _ => 0)), .inl (X.2.1, 6, .inl (fun _ => 0)), .inl (X.2.1, 48, .inl (fun _ => (-1))), .inr (0, [.ref (n + 26), .int 0, .int 0]), .inl (X.2.2.1, 8, .inr (.inr (.inr (.inr (va_up (va_up (va_up (va_up (va_up (va_up (va_up (va_up (fun _ => none) (Int32.toNatClampNeg 0) (some (n + 27))) (Int32.toNatClampNeg 1) (some (n + 35))) (Int32.toNatClampNeg 2) (some (n + 43))) (Int32.toNatClampNeg 3) (some (n + 51))) (Int32.toNatClampNeg 4) (some (n + 59))) (Int32.toNatClampNeg 5) (some (n + 67))) (Int32.toNatClampNeg 6) (some (n + 75))) (Int32.toNatClampNeg 7) (some (n + 83))))))), jwo (n + 28), .inl (X.2.1, 8, .inl (fun _ => 0)), .inl (X.2.1, 8, .inl (fun _ => 0)), .inl (X.2.1, 8, .inl (fun _ => 0)), .inl (X.2.1, 6, .inl (fun _ => 0)), .inl (X.2.1, 6, .inl (fun _ => 0)), .inl (X.2.1, 6, .inl (fun _ => 0)), .inl (X.2.1, 48, .inl (fun _ => (-1))), jwo (n + 36), .inl (X.2.1, 8, .inl (fun _ => 0)), .inl (X.2.1, 8, .inl (fun _ => 0)), .inl (X.2.1, 8, .inl (fun _ => 0)), .inl (X.2.1, 6, .inl (fun _ => 0)), .inl (X.2.1, 6, .inl (fun _ => 0)), .inl (X.2.1, 6, .inl (fun _ => 0)), .inl (X.2.1, 48, .inl (fun _ => (-1))), jwo (n + 44), .inl (X.2.1, 8, .inl (fun _ => 0)), .inl (X.2.1, 8, .inl (fun _ => 0)), .inl (X.2.1, 8, .inl (fun _ => 0)), .inl (X.2.1, 6, .inl (fun _ => 0)), .inl (X.2.1, 6, .inl (fun _ => 0)), .inl (X.2.1, 6, .inl (fun _ => 0)), .inl (X.2.1, 48, .inl (fun _ => (-1))), jwo (n + 52), .inl (X.2.1, 8, .inl (fun _ => 0)), .inl (X.2.1, 8, .inl (fun _ => 0)), .inl (X.2.1, 8, .inl (fun _ => 0)), .inl (X.2.1, 6, .inl (fun _ => 0)), .inl (X.2.1, 6, .inl (fun _ => 0)), .inl (X.2.1, 6, .inl (fun _ => 0)), .inl (X.2.1, 48, .inl (fun _ => (-1))), jwo (n + 60), .inl (X.2.1, 8, .inl (fun _ => 0)), .inl (X.2.1, 8, .inl (fun _ => 0)), .inl (X.2.1, 8, .inl (fun _ => 0)), .inl (X.2.1, 6, .inl (fun _ => 0)), .inl (X.2.1, 6, .inl (fun _ => 0)), .inl (X.2.1, 6, .inl (fun _ => 0)), .inl (X.2.1, 48, .inl (fun _ => (-1))), jwo (n + 68), .inl (X.2.1, 8, .inl (fun _ => 0)), .inl (X.2.1, 8, .inl (fun _ => 0)), .inl (X.2.1, 8, .inl (fun _ => 0)), .inl (X.2.1, 6, .inl (fun _ => 0)), .inl (X.2.1, 6, .inl (fun _ => 0)), .inl (X.2.1, 6, .inl (fun _ => 0)), .inl (X.2.1, 48, .inl (fun _ => (-1))), jwo (n + 76), .inl (X.2.1, 8, .inl (fun _ => 0)), .inl (X.2.1, 8, .inl (fun _ => 0)), .inl (X.2.1, 8, .inl (fun _ => 0)), .inl (X.2.1, 6, .inl (fun _ => 0)), .inl (X.2.1, 6, .inl (fun _ => 0)), .inl (X.2.1, 6, .inl (fun _ => 0)), .inl (X.2.1, 48, .inl (fun _ => (-1))), jwo (n + 84), .inl (X.2.1, 8, .inl (fun _ => 0)), .inl (X.2.1, 8, .inl (fun _ => 0)), .inl (X.2.1, 8, .inl (fun _ => 0)), .inl (X.2.1, 6, .inl (fun _ => 0)), .inl (X.2.1, 6, .inl (fun _ => 0)), .inl (X.2.1, 6, .inl (fun _ => 0)), .inl (X.2.1, 48, .inl (fun _ => (-1))), .inr (1, [.ref (n + 92), .int 0]), .inl (X.2.1, 96, .inl (fun _ => 0)), .inr (3, [.ref (n + 94), .int 0, .int 0]), .inl (X.2.1, 49, .inl (fun _ => 0)), .inr (2, [.ref (n + 96), .int 0]), .inl (X.2.1, 896, .inl (fun _ => 0)), .inl (X.2.1, 12, .inl (fun _ => 0)), .inl (X.2.1, 7, .inl (fun _ => 0)), .inr (6, [.int 0, .null, .null, .null, .null, .int 0, .null, .null, .null, .null, .int 0, .int 0, .null, .null, .int 0, .int 0, .int 0, .int 0, .null, .null, .null, .null, .null, .int 0, .int 0, .int 0, .null, .null, .null, .int 0, .null, .null, .int 0, .null, .null, .null, .int 0, .null, .int 0])] H := hz
  refine W.widen (k := 100) (n := 2239) (by decide) (by decide) ?_
  refine lv_dup hx hb dL_law_11 rfl ?_
  refine jz_call (j := 99) (n1 := n + 100) (jz_ri (rest := [.ref (n + 99)]) S hK hO (hz.2 99 _ rfl) hz.1 (m_X6_init l X (n + 99) (n + 100)) jw_X6_init jim_X6_init jmL_12 rfl rfl rfl ⟨(Nat.le_of_ble_eq_true rfl), (Nat.le_of_ble_eq_true rfl)⟩ hl.1 rfl (Nat.le_of_ble_eq_true rfl) dL_law_12 ⟨(Nat.le_of_ble_eq_true rfl), (Nat.le_of_ble_eq_true rfl)⟩) hz rfl (Nat.le_of_ble_eq_true rfl) hS hAn (fun H locs o1 hz hS => ?_)
  have hz : jz X n (jCS X n) H := hz
  refine W.widen (k := 123) (n := 17317) (by decide) (by decide) ?_
  refine lv_astore_n (lv' := [(2, .ref (n + 99)), (1, .ref (n + 0)), (0, .ref b)]) hx hb dL_law_15 rfl hl (Nat.le_of_ble_eq_true rfl) rfl (fun ls hl => ?_)
  refine lv_iconst (v := 0) hx hb dL_law_16 (by decide) ?_
  refine lv_istore_n (lv' := [(3, .int 0), (2, .ref (n + 99)), (1, .ref (n + 0)), (0, .ref b)]) hx hb dL_law_17 rfl hl (Nat.le_of_ble_eq_true rfl) rfl (fun ls hl => ?_)
  subst hXe
  have hP := jrp_start hz
  have hs : jst (jXX D cI cR n) (fun q : Nat => s.heap.size ≤ q) := by rw [← hn]; exact jst_start D cI cR n
  exact law_loop (X := jXX D cI cR n) S hr hlocks hX hbl hK hs 10000 jM0 _ _ 0 _ (jlaw_ok xs L hL) hP hS (lv_sub hl [3, 2, 1, 0] rfl)
set_option maxHeartbeats 4000000 in
theorem lw_walk (l : Launch) (hflags : l.flags = flags0) (b : Addr) (xs : List Int32) : MetFree l x (headSpec (Jvm.Cond.code x code maxLocals ret :: tables_1) room_1) (lw_P b xs) (fun _ _ _ _ _ => True) lw_Q := by
  refine MetFree.of_bodyS (code := code) (maxLocals := maxLocals) (ret := ret) (by decide) ?_ ?_
  · intro args s m h hn
    obtain ⟨meth, c, h1, h2, h3, h4, h5, h6, -, -⟩ := Cond.code_spec hn (atoms_spec (ws := Jvm.Cond.code x code maxLocals ret :: tables_1) h _ List.mem_cons_self)
    exact ⟨meth, c, h1, h2, h3, h4, h5, h6⟩
  · intro p e s m args below meth c s₁ B hml0 hP _
    obtain ⟨rfl, hx, hbd, hgv⟩ := hP
    obtain ⟨scr, harrAt, hlist, hof, hsmall⟩ := hx
    obtain ⟨hcb, hkn, -, -⟩ := State.arrayAt?_spec harrAt
    have hown : s.vm.findClass R_law = some m.cls := findClass_of_methodNamed B.named
    have hts0 : ∀ c ∈ (Jvm.Cond.code x code maxLocals ret :: tables_1), c.before #[Value.ref b] s = true := atoms_spec (ws := Jvm.Cond.code x code maxLocals ret :: tables_1) B.pre
    have hts : ∀ w ∈ lw_tbl, w.before #[Value.ref b] s = true := k2_hts_sels lw_privs (fun w hw => hts0 w (List.mem_cons_of_mem _ hw)) lw_privs_ok
    have hml : c.maxLocals = 4 := B.maxLocals_eq (hts0 _ List.mem_cons_self)
    have X₀ : Stand p l e room_1 s m #[Value.ref b] below meth c s₁ [] 0 0 := Stand.of_body B
    have hh0 : s₁.heap = s.heap := by rw [B.state]; rfl
    have hsz : scr.slots.size = xs.length := by rw [← Array.length_toList, hlist, List.length_map]
    have hval : ∀ j : Nat, j < xs.length → scr.slots[j]? = some (.int (xs.getD j 0)) := fun j hj => by
      rw [← Array.getElem?_toList, hlist]
      simp [hj]
    have hbl : b < s.heap.size := (Array.getElem?_eq_some_iff.mp hcb).1
    have hX : va_X b xs.length (fun j => xs.getD j 0) s s.heap := ⟨scr, hcb, hof, hkn, hsz, hval⟩
    have K : W p l e room_1 s m #[Value.ref b] below meth c s₁.heap [] 0 0 (lw_Z below #[Value.ref b] s) (entryFrame m ([Value.ref b] : List Value).toArray 4) := by
      rw [hh0]
      exact whole_start l hflags hbd ⟨B.exec, B.bytes, B.returns, hml, hown, hts, hX, hbl, B.notSynchronized, hgv⟩
    obtain ⟨t, a1, o, b1, b2, b3⟩ := K s₁ rfl X₀
    exact ⟨t, o, a1, b1, b2, b3⟩
theorem lw_pre_spec {args : Array Value} {s : State} (h : (Jvm.Cond.and given_1 narrow_1).before args s = true) (hr : rest_1_c.before args s = true) : ∃ (b : Addr) (xs : List Int32), lw_P b xs args s := by
  have hs := flat_of_before _ h
  have hq := flat_of_before _ hr
  have hc : (Cond.count 1).before args s = true := hs _ (by decide +kernel)
  have harr : (Cond.arrayOf (.arg 0) .int).before args s = true := hs _ (by decide +kernel)
  have hle : (Cond.le (.length (.arg 0)) (.int 3072)).before args s = true := hs _ (by decide +kernel)
  have hlen : (Cond.isInt (.length (.arg 0))).before args s = true := hq _ (by decide +kernel)
  have hall : (Cond.all (.arg 0) (.isInt (.elem (.arg 0) (.index 0)))).before args s = true := hq _ (by decide +kernel)
  obtain ⟨b, xs, hb, hx⟩ := State.ints_of_pre rfl harr hlen hall
  have hsm : xs.length < 2 ^ 31 := hx.choose_spec.2.2.2
  have hev : (Term.length (.arg 0)).eval args s none [] s = some (.int xs.length.toInt32) := hx.length_eval hb
  have hv := Cond.le_ints hev (show (Term.int 3072).eval args s none [] s = some (.int 3072) from rfl)
  have hd : xs.length.toInt32 ≤ 3072 := by
    simpa [Cond.before, Cond.holds, hv] using hle
  have hN : xs.length ≤ 3072 := (Int32.ofNat_le_ofNat hsm (by decide)).mp (show Int32.ofNat xs.length ≤ Int32.ofNat 3072 from hd)
  exact ⟨b, xs, Cond.one_arg hc (show args[0]? = some (.ref b) from hb), hx, hN, h⟩
theorem lw_comes (l : Launch) (hflags : l.flags = flags0) : Comes l x (Jvm.Cond.code x code maxLocals ret :: tables_1) room_1 (fun tb e args s => Calls_1 tb e args s ∧ rest_1 tb e args s ∧ Pre_1 tb e args s)
    (fun _ _ args s o t => lw_Q args s o t) := by
  intro p e ha hc hk s m args below hf hfit hheap happ hpre
  obtain ⟨b, xs, hP⟩ := lw_pre_spec hpre.2.2 hpre.2.1
  obtain ⟨k, o, h1, h2, h3, hQ⟩ := lw_walk l hflags b xs p e ha hc hk s m args below hf ((Spec.applies_iff_loose hf).mp happ).1 hP trivial
  exact ⟨k, o, h1, h2, h3, hQ⟩
theorem lw_frame {s t : State} {o : Outcome} {args : Array Value} (h : Framed s o t [] 600000 7302250) :
    Framed s o t (fieldLocs frame_1_writes args s ++ arrayLocs frame_1_arrays args s ++ staticLocs frame_1_statics s) 600000 7302250 := h
theorem lw_limb (L : Cond) (hL : ∀ (args : Array Value) (s t : State), L.after args s (.returned (some (.int 1))) t = true) :
    ArmFor flags0 classFile x code maxLocals ret World_1 tables_1 room_1 Calls_1 rest_1 Pre_1
      (fun tb e a s o t => postC L tb e a s o t ∧ Framed s o t (fieldLocs frame_1_writes a s ++ arrayLocs frame_1_arrays a s ++ staticLocs frame_1_statics s) 600000 7302250) := by
  intro l hflags _ _ p e ha hc hk s m args below hf hfit hheap happ hpre
  obtain ⟨k, o, h1, h2, h3, rfl, hF⟩ := lw_comes l hflags p e ha hc hk s m args below hf hfit hheap happ hpre
  exact ⟨k, _, h1, h2, h3, hL args s _, lw_frame hF⟩
theorem i_vc : Claimed_1_1 ∧ Claimed_1_2 := ⟨lw_limb limb_1_1 (fun args s t => by simp [limb_1_1, Cond.after, Cond.holds, Cond.value]), lw_limb limb_1_2 (fun args s t => Cond.after_iff.mpr (by
  first | (rw [show limb_1_2 = Cond.eq .result (.int 1) from rfl, Cond.eq_ints (x := 1) (y := 1) rfl rfl]; simp; done) | (simp [limb_1_2, Cond.value, Term.eval]; done)))⟩

