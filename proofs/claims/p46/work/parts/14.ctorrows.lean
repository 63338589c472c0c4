/-! constructors: new cells stand at the heap's end, one behind another; what stands there is told by a list -/
def jz (X : jX) (n : Nat) (cs : List va_E) (H : Heap) : Prop := H.size = n + cs.length ∧ ∀ (j : Nat) (c : va_E), cs[j]? = some c → va_at X.1 jcl (n + j, c) H
def jCA (h n : Nat) : Nat → Prop := fun q => q = h ∨ n ≤ q
def jPc (X : jX) (h n ci : Nat) (fs : List Value) (U : State) : Prop := U.heap.size = n ∧ h < n ∧ va_at X.1 jcl (h, .inr (ci, fs)) U.heap ∧ jK X U ∧ va_AO RX4 U
def jQc (X : jX) (h : Nat) (c' : va_E) (n : Nat) (news : List va_E) : Array Value → State → Outcome → State → Prop := fun _ st o t => (o = .returned none ∧ va_at X.1 jcl (h, c') t.heap ∧ jz X n news t.heap ∧ jK X t) ∧ va_F (jCA h n) st t
def jrk (f n mc ms : Nat) : Room := { frames := f, cells := mc, slots := ms, locals := n }
theorem jz.nil {X : jX} {H : Heap} : jz X H.size [] H := ⟨rfl, fun j c h => by simp at h⟩
theorem jz.app {X : jX} {n k : Nat} {cs : List va_E} {c : va_E} {H H1 : Heap} (hz : jz X n cs H) (hk : cs.length = k) (h1 : H1.size = H.size + 1) (h2 : ∀ q, q < H.size → H1[q]? = H[q]?) (h3 : va_at X.1 jcl (n + k, c) H1) : jz X n (cs ++ [c]) H1 := by
  subst hk
  refine ⟨by rw [h1, hz.1, List.length_append]; rfl, fun j d hj => ?_⟩
  by_cases hl : j < cs.length
  · rw [List.getElem?_append_left hl] at hj
    exact (hz.2 j d hj).kept (h2 _ (hz.2 j d hj).lt)
  · rw [List.getElem?_append_right (by omega)] at hj
    have hq : j - cs.length < 1 := (List.getElem?_eq_some_iff.mp hj).1
    have e : j = cs.length := by omega
    subst e
    rw [Nat.sub_self] at hj
    cases hj
    exact h3
theorem jz.kept {X : jX} {n : Nat} {cs : List va_E} {H H1 : Heap} (hz : jz X n cs H) (h1 : H1.size = H.size) (h2 : ∀ q, n ≤ q → H1[q]? = H[q]?) : jz X n cs H1 := ⟨by rw [h1]; exact hz.1, fun j c hj => (hz.2 j c hj).kept (h2 _ (by show n ≤ n + j; omega))⟩
theorem jz.set {X : jX} {n j : Nat} {cs : List va_E} {c : va_E} {H H1 : Heap} (hz : jz X n cs H) (h1 : H1.size = H.size) (h2 : ∀ q, q ≠ n + j → H1[q]? = H[q]?) (h3 : va_at X.1 jcl (n + j, c) H1) : jz X n (cs.set j c) H1 := by
  refine ⟨by rw [h1, hz.1, List.length_set], fun i d hi => ?_⟩
  by_cases e : i = j
  · subst e
    have hlt : i < (cs.set i c).length := (List.getElem?_eq_some_iff.mp hi).1
    rw [List.getElem?_set_self (by rw [List.length_set] at hlt; exact hlt)] at hi
    cases hi
    exact h3
  · rw [List.getElem?_set_ne (Ne.symm e)] at hi
    exact (hz.2 i d hi).kept (h2 _ (by show n + i ≠ n + j; omega))
theorem jblindc {X : jX} {As : List Value} {h n ci : Nat} {fs : List Value} : FrameBlind (va_Pc As (jPc X h n ci fs)) := fun a U g mk q => ⟨q.1, q.2.1, q.2.2.1, q.2.2.2.1, ⟨va_K.moved (u := U) (U := U.calling g mk a) (Vm.Alike.refl U.vm) q.2.2.2.2.1.1, q.2.2.2.2.1.2.same (U := U.calling g mk a) rfl⟩, va_AO.moved (u := U) (U := U.calling g mk a) (Vm.Alike.refl U.vm) q.2.2.2.2.2⟩
section JZ
variable {p : Program} {l : Launch} {e : Env} {R : Room} {s : State} {m : MethodId} {args : Array Value} {below : List Frame} {meth : Method} {c : Code} {H : Heap} {locs : List Loc} {cells slots : Nat} {Q : State → Prop}
variable {cc : ByteArray} {pc : Nat} {ls : Array Slot} {rest : List Value} {X : jX} {A : Nat → Prop} {n : Nat} {cs : List va_E}
theorem jz_new (hx : p.tables.exec = Jvm.exec) (hb : c.code = cc) {own : String} {index ci k : Nat} {fs : List Value} (hts : ∀ w ∈ jtb, w.before args s = true) (hown : s.vm.findClass own = some m.cls)
    (hcl : Cond.classLink own index (jC ci).1 ∈ jtb) (hinst : Cond.instantiable (jC ci).1 (jC ci).2.2 ∈ jtb) (hini : Cond.initialized (jC ci).1 ∈ jtb) (hc : ci < 7) (hK : jK X s) (hz : jz X n cs H) (hS : va_S A s.heap H locs) (hk : cs.length = k)
    (hfs : ∀ j, j < (jC ci).2.2 → defaultValue (jty ci j) = vp_V fs j) (hcells : cells + 1 ≤ R.cells) (hslots : slots + (jC ci).2.2 ≤ R.slots) (hdg : decode cc pc = .ok (.new index, 3))
    (kk : ∀ (H1 : Heap), (∀ q, q < H.size → H1[q]? = H[q]?) → jz X n (cs ++ [.inr (ci, fs)]) H1 → va_S A s.heap H1 locs → W p l e R s m args below meth c H1 locs (cells + 1) (slots + (jC ci).2.2) Q (F0 m (pc + 3) ls (.ref (n + k) :: rest))) : W p l e R s m args below meth c H locs cells slots Q (F0 m pc ls rest) := by
  have hKn := hK.1.1 ci _ (jcl_at ci hc)
  have hsz : H.size = n + k := by rw [hz.1, hk]
  refine W.newcK hx hb hown (hts _ hcl) (hts _ hinst) (hts _ hini) rfl hdg hcells hslots hKn.2.1 hsz fun H1 kC hkC e1 z1 o1 => ?_
  rw [← hsz] at o1
  refine kk H1 o1 (hz.app hk (by rw [z1, hsz]) o1 ⟨_, jcl_at ci hc, (u_born (jty ci) hts (jin hc) hKn hkC e1 (fun k hk => jty0 ci hc k (Nat.lt_of_lt_of_le hk (jC_le ci)) hk)).to hfs⟩) ⟨Nat.le_trans hS.1 (by omega), fun x h1 h2 => (o1 x (Nat.lt_of_lt_of_le h1 hS.1)).trans (hS.2.1 x h1 h2), hS.2.2⟩
theorem jz_newa (hx : p.tables.exec = Jvm.exec) (hb : c.code = cc) {k N : Nat} {v : Int32} (hts : ∀ w ∈ jtb, w.before args s = true) (harr : Cond.arrayClass .int ∈ jtb) (hK : jK X s) (hz : jz X n cs H) (hS : va_S A s.heap H locs) (hk : cs.length = k)
    (hn : ¬ v < 0) (hN : v.toNatClampNeg = N) (hbytes : N * componentBytes .int ≤ 536870912) (hcells : cells + 1 ≤ R.cells) (hslots : slots + N ≤ R.slots) (hdg : decode cc pc = .ok (.newarray .int, 2))
    (kk : ∀ (H1 : Heap), (∀ q, q < H.size → H1[q]? = H[q]?) → jz X n (cs ++ [.inl (X.2.1, N, .inl (fun _ => 0))]) H1 → va_S A s.heap H1 locs → W p l e R s m args below meth c H1 locs (cells + 1) (slots + N) Q (F0 m (pc + 2) ls (.ref (n + k) :: rest))) : W p l e R s m args below meth c H locs cells slots Q (F0 m pc ls (.int v :: rest)) := by
  have hsz : H.size = n + k := by rw [hz.1, hk]
  refine va_newaK (atype := .int) hx hb (hts _ harr) rfl hdg rfl hn hN hbytes hcells hslots hsz fun H1 cA e1 z1 o1 hAr hNm => ?_
  rw [← hsz] at o1
  have hcA : cA = X.2.1 := Option.some.inj (hNm.symm.trans (hK.1.2 0 _ rfl).2)
  subst hcA
  exact kk H1 o1 (hz.app hk (by rw [z1, hsz]) o1 e1) ⟨Nat.le_trans hS.1 (by omega), fun x h1 h2 => (o1 x (Nat.lt_of_lt_of_le h1 hS.1)).trans (hS.2.1 x h1 h2), hS.2.2⟩
theorem jz_newq (hx : p.tables.exec = Jvm.exec) (hb : c.code = cc) {own : String} {index k N : Nat} {v : Int32} (hts : ∀ w ∈ jtb, w.before args s = true) (hown : s.vm.findClass own = some m.cls) (hcl : Cond.classLink own index RX4 ∈ jtb) (hover : va_AO RX4 s) (hK : jK X s) (hz : jz X n cs H) (hS : va_S A s.heap H locs) (hk : cs.length = k)
    (hn : ¬ v < 0) (hN : v.toNatClampNeg = N) (hbytes : N * 4 ≤ 536870912) (hcells : cells + 1 ≤ R.cells) (hslots : slots + N ≤ R.slots) (hdg : decode cc pc = .ok (.anewarray index, 3))
    (kk : ∀ (H1 : Heap), (∀ q, q < H.size → H1[q]? = H[q]?) → jz X n (cs ++ [.inl (X.2.2.1, N, .inr (.inr (.inr (.inr (fun _ => none)))))]) H1 → va_S A s.heap H1 locs → W p l e R s m args below meth c H1 locs (cells + 1) (slots + N) Q (F0 m (pc + 3) ls (.ref (n + k) :: rest))) : W p l e R s m args below meth c H locs cells slots Q (F0 m pc ls (.int v :: rest)) := by
  have hsz : H.size = n + k := by rw [hz.1, hk]
  subst hN
  refine W.anew hx hb hown (hts _ hcl) (va_AO.use hover) rfl hdg rfl hn hbytes hcells hslots fun cA kA comp f1 f2 f3 f4 => ?_
  generalize hH1 : H.push ({ cls := cA, slots := Array.replicate v.toNatClampNeg .null, vm := .none } : Cell) = H1
  have z1 : H1.size = H.size + 1 := by rw [← hH1, Array.size_push]
  have e1 : H1[H.size]? = some (arrV cA v.toNatClampNeg (fun _ => .null)) := by rw [← hH1, Array.getElem?_push_size, ← arrV_new]
  have o1 : ∀ q : Nat, q < H.size → H1[q]? = H[q]? := fun q hq => by rw [← hH1, Array.getElem?_push, if_neg (Nat.ne_of_lt hq)]
  have hcA : cA = X.2.2.1 := by
    obtain ⟨_, _, -, -, -, q⟩ := (hK.1.2 1 _ rfl).2
    exact Option.some.inj (f1.symm.trans q)
  subst hcA
  rw [hsz] at e1 ⊢
  exact kk H1 o1 (hz.app hk z1 o1 e1) ⟨Nat.le_trans hS.1 (by omega), fun x h1 h2 => (o1 x (Nat.lt_of_lt_of_le h1 hS.1)).trans (hS.2.1 x h1 h2), hS.2.2⟩
theorem jz_put (hx : p.tables.exec = Jvm.exec) (hb : c.code = cc) {own : String} {index ci k h : Nat} {fs : List Value} {v : Value} (hts : ∀ w ∈ jtb, w.before args s = true) (hown : s.vm.findClass own = some m.cls) (hin : meth.name = "<init>") (hK : jK X s) (hh : h < n) (hA : A h) (hT : va_at X.1 jcl (h, .inr (ci, fs)) H) (hz : jz X n cs H) (hS0 : va_S A s.heap H locs) (hc : ci < 7) (hk : k < (jC ci).2.2)
    (hl : jfl own index ci k ∈ jtb) (hdecl : ((jC ci).2.1 k).1 = own) (hn : narrow (jty ci k) v = v) (hfit : fits (jty ci k) v = true) (hlen : k < fs.length) (hdg : decode cc pc = .ok (.putfield index, 3))
    (kk : ∀ (H1 : Heap) (locs1 : List Loc), va_at X.1 jcl (h, .inr (ci, fs.set k v)) H1 → jz X n cs H1 → va_S A s.heap H1 locs1 → W p l e R s m args below meth c H1 locs1 cells slots Q (F0 m (pc + 3) ls rest)) : W p l e R s m args below meth c H locs cells slots Q (F0 m pc ls (v :: .ref h :: rest)) := by
  have hle := jC_le ci
  have hap := va_apart (own := own) hts (jin hc) (jty ci) (fun k hk => jty0 _ hc k (Nat.lt_of_lt_of_le hk hle) hk) (jnm _ hc) hK.1 (jcl_at _ hc)
  obtain ⟨r, h1, cell, q1, q2, q3, q4⟩ := hT
  have hr : r = jC ci := Option.some.inj (h1.symm.trans (jcl_at ci hc))
  subst hr
  obtain ⟨hS, hfc, kC, hkC, hkind⟩ := hK.1.1 ci _ (jcl_at _ hc)
  obtain ⟨cf, kf, fi, f, hi, hsl⟩ := hS k hk
  have hlay := u_lays hts (jin hc) hk
  have hst := (u_facts hfc hkC hlay hi).1
  have hd := jty0 _ hc k (Nat.lt_of_lt_of_le hk hle) hk
  have done : ∀ (H' : Heap), H'[h]? = some (cell.setSlot f.slot v) → H'.size = H.size → (∀ q, q ≠ h → H'[q]? = H[q]?) → W p l e R s m args below meth c H' (locs ++ [⟨h, f.slot⟩]) cells slots Q (F0 m (pc + 3) ls rest) := by
    intro H' e1 e2 e3
    rw [hsl] at e1 ⊢
    exact kk H' _ ⟨_, jcl_at ci hc, t_OB.to (V := updV (vp_V fs) k v) ⟨_, e1, q2, q3, t_set q4 hap hk v⟩ (fun j _ => vp_updV_set hlen v j)⟩ (hz.kept e2 (fun q hq => e3 q (by omega))) (hS0.put e2 e3 hA)
  by_cases hfin : ((jC ci).2.1 k).2.2.2 = true
  · have hlf := hts _ (jin hc _ (u_in_lay hk))
    unfold u_lay at hlf
    rw [if_pos hfin] at hlf
    have hcf : m.cls = cf := by
      obtain ⟨_, _, c', _, _, _, -, -, hf', -, -, -, hown2, -⟩ := Cond.laysFinal_spec hlf
      have e1 : c' = cf := by have := hi.symm.trans hf'; simp at this; exact this.1.symm
      rw [hdecl] at hown2
      rw [← e1]; exact Option.some.inj (hown.symm.trans hown2)
    have h6 := u_fits hfc hkC hkind (Or.inr hlf) hi hd hn hfit
    exact W.putFinK hx hb hown (hts _ hl) hi hst hcf hin (by rw [q2]; exact h6) q1 q3 (by rw [hsl]; exact k2_hasslot (q4 k hk)) rfl rfl hdg done
  · have hlf := hts _ (jin hc _ (u_in_lay hk))
    unfold u_lay at hlf
    rw [if_neg hfin] at hlf
    have h6 := u_store hfc hkC hkind hlf hi hd hn hfit
    exact W.putK hx hb (f := f) ⟨hown, hts _ hl, ⟨_, _, _, hi⟩, hst⟩ (by rw [q2]; exact h6) q1 q3 (by rw [hsl]; exact k2_hasslot (q4 k hk)) rfl rfl hdg done
theorem jz_get (hx : p.tables.exec = Jvm.exec) (hb : c.code = cc) {own : String} {index ci k h : Nat} {fs : List Value} {v : Value} (hts : ∀ w ∈ jtb, w.before args s = true) (hown : s.vm.findClass own = some m.cls) (hK : jK X s) (hT : va_at X.1 jcl (h, .inr (ci, fs)) H) (hc : ci < 7) (hk : k < (jC ci).2.2)
    (hl : jfl own index ci k ∈ jtb) (hv : vp_V fs k = v) (hdg : decode cc pc = .ok (.getfield index, 3))
    (kk : W p l e R s m args below meth c H locs cells slots Q (F0 m (pc + 3) ls (v :: rest))) : W p l e R s m args below meth c H locs cells slots Q (F0 m pc ls (.ref h :: rest)) := by
  obtain ⟨r, h1, cell, q1, q2, q3, q4⟩ := hT
  have hr : r = jC ci := Option.some.inj (h1.symm.trans (jcl_at ci hc))
  subst hr
  obtain ⟨hS, hfc, kC, hkC, hkind⟩ := hK.1.1 ci _ (jcl_at _ hc)
  obtain ⟨cf, kf, fi, f, hi, hsl⟩ := hS k hk
  refine W.getf hx hb hown (hts _ hl) hi (u_facts hfc hkC (u_lays hts (jin hc) hk) hi).1 q1 (by rw [q3]; exact fun h => by cases h) (v := v) ?_ rfl rfl hdg kk
  rw [hsl, q4 k hk, hv]
/-- a World into the row of kept Worlds -/
theorem jz_ast (hx : p.tables.exec = Jvm.exec) (hb : c.code = cc) {j jw N : Nat} {i : Int32} {fs : List Value} {f : Nat → Option Nat} (hK : jK X s) (hz : jz X n cs H) (hS : va_S A s.heap H locs) (hA : ∀ q, n ≤ q → A q) (hj : cs[j]? = some (.inl (X.2.2.1, N, .inr (.inr (.inr (.inr f)))))) (hw : cs[jw]? = some (.inr (4, fs))) (hin : vp_in i N) (hdg : decode cc pc = .ok (.aastore, 1))
    (kk : ∀ (H1 : Heap) (locs1 : List Loc), (∀ q, q < n → H1[q]? = H[q]?) → jz X n (cs.set j (.inl (X.2.2.1, N, .inr (.inr (.inr (.inr (va_up f i.toNatClampNeg (some (n + jw))))))))) H1 → va_S A s.heap H1 locs1 → W p l e R s m args below meth c H1 locs1 cells slots Q (F0 m (pc + 1) ls rest)) : W p l e R s m args below meth c H locs cells slots Q (F0 m pc ls (.ref (n + jw) :: .int i :: .ref (n + j) :: rest)) := by
  have hlt : i.toNatClampNeg < N := Nat.not_le.mp fun q => hin (Or.inr q)
  have h0 : ¬ i < 0 := fun q => hin (Or.inl q)
  obtain ⟨r', hr', cellV, g1, g2, g3, -⟩ := hz.2 jw _ hw
  have hr : r' = jC 4 := Option.some.inj (hr'.symm.trans (jcl_at 4 (by decide)))
  subst hr
  have hcls := (hK.1.1 4 _ (jcl_at 4 (by decide))).2
  obtain ⟨kA, comp, k1, k2, k3, -⟩ := (hK.1.2 1 _ rfl).2
  have hcomp : comp = X.1.1 4 := Option.some.inj (k3.symm.trans hcls.1)
  subst hcomp
  obtain ⟨kC, hkC, -⟩ := hcls.2
  have hc := hz.2 j _ hj
  refine W.aast hx hb hc (fun q h => by cases h) (fun h => by cases h) k1 k2 rfl hkC ⟨h0, by show _ < (arrV _ _ _).slots.size; rw [arrV_size]; exact hlt⟩ g1 (fun q h => by rw [g3] at h; cases h) (by rw [g2]; exact hkC) (by rw [g2]; exact va_assign hcls) rfl rfl hdg fun H1 e z oq => ?_
  refine kk H1 _ (fun q hq => oq q (by show q ≠ n + j; omega)) (hz.set z oq ?_) (hS.put z oq (hA _ (by show n ≤ n + j; omega)))
  show H1[n + j]? = some (vp_cell _ _)
  rw [e]
  rw [vp_cell_q, vp_cell_q, arrV_store]
  congr 2
  funext q
  by_cases hq : q = i.toNatClampNeg
  · subst hq
    simp [updV, va_up, va_rf]
  · simp [updV, va_up, hq]
/-- behind a constructor's call on the cell n + j -/
theorem jz_call {mq : Array Value} {st0 : List Value} {mc ms j n1 : Nat} {c' : va_E} {news : List va_E} (hr : va_Run p l e R s m args below meth c H locs cells slots mc ms (F0 m pc ls st0) rest (jQc X (n + j) c' n1 news mq) (jCA (n + j) n1)) (hz : jz X n cs H) (hn1 : n + cs.length = n1) (hj : j < cs.length) (hS : va_S A s.heap H locs) (hA : ∀ q, n ≤ q → A q)
    (kk : ∀ (H1 : Heap) (locs1 : List Loc), (∀ q, q < n → H1[q]? = H[q]?) → jz X n (cs.set j c' ++ news) H1 → va_S A s.heap H1 locs1 → W p l e R s m args below meth c H1 locs1 (cells + mc) (slots + ms) Q (F0 m (pc + 3) ls rest)) : W p l e R s m args below meth c H locs cells slots Q (F0 m pc ls st0) := by
  intro T hT X1
  obtain ⟨v', st₀, t, T', L, h0, X', hL, e1, e2, ⟨⟨hv, hb1, hb2, -⟩, hzz, hk⟩, st⟩ := hr T hT X1
  cases hv
  rw [h0] at hzz hk
  have hsz := hz.1
  have off : ∀ q, q < n1 → q ≠ n + j → t.heap[q]? = H[q]? := fun q h1 h2 => hk q (by omega) (fun z => by rcases z with z | z <;> omega)
  have hz1 : jz X n (cs.set j c' ++ news) t.heap := by
    refine ⟨by rw [hb2.1, List.length_append, List.length_set]; omega, fun i d hi => ?_⟩
    by_cases hl : i < cs.length
    · rw [List.getElem?_append_left (by rw [List.length_set]; exact hl)] at hi
      by_cases e : i = j
      · subst e
        rw [List.getElem?_set_self hl] at hi
        cases hi
        exact hb1
      · rw [List.getElem?_set_ne (Ne.symm e)] at hi
        exact (hz.2 i d hi).kept (off _ (by show n + i < n1; omega) (by show n + i ≠ n + j; omega))
    · rw [List.getElem?_append_right (by rw [List.length_set]; omega), List.length_set] at hi
      have := hb2.2 _ d hi
      rw [show n1 + (i - cs.length) = n + i by omega] at this
      exact this
  have hAc : ∀ q, jCA (n + j) n1 q → A q := fun q z => hA q (by rcases z with z | z <;> omega)
  obtain ⟨t2, a1, b1⟩ := kk T'.heap (locs ++ L) (fun q hq => by rw [e1]; exact off q (by omega) (by omega)) (by rw [e1]; exact hz1)
    ⟨Nat.le_trans hS.1 (by rw [e1]; exact hzz), fun q h1 h2 => by rw [e1, hk q (Nat.lt_of_lt_of_le h1 hS.1) (fun z => h2 (hAc q z))]; exact hS.2.1 q h1 h2, fun q hq => by
      rcases List.mem_append.mp hq with h | h
      · exact hS.2.2 q h
      · exact hAc _ (hL q h)⟩ T' rfl X'
  exact ⟨t2, st t2 a1, b1⟩
variable {own : String} {index maxL nL ci h : Nat} {y : MethodName} {bytes : ByteArray} {rm : Room} {st0 : List Value} {fs : List Value} {mc ms n1 : Nat} {Qc : Array Value → State → Outcome → State → Prop} {free : Addr → Prop}
theorem jz_ri (S : CallFix p m c cc nL s args jtb own) (hK : jK X s) (hO : va_AO RX4 s) (hT : va_at X.1 jcl (h, .inr (ci, fs)) H) (hn : H.size = n1) (hM : Met l y (jws y bytes maxL none) rm (va_Pc [.ref h] (jPc X h n1 ci fs)) Qc mc ms free) (hw : jvw y bytes maxL none 0) (hi : Cond.instanceMethod y ∈ jtb) (hl : Cond.methodLink own index y ∈ jtb) (hy : y.name = "<init>")
    (hrc : rm.cells = mc) (hrs : rm.slots = ms) (hR : rm.frames + 1 ≤ R.frames ∧ 8 + (maxL + 11) + rm.locals ≤ R.locals) (hsz : ls.size = nL) (hst : st0 = .ref h :: rest) (hW : (rest.map fun v => v.category).sum ≤ 8) (hdg : decode cc pc = .ok (.invokespecial index, 3)) (hf : cells + mc ≤ R.cells ∧ slots + ms ≤ R.slots) :
    va_Run p l e R s m args below meth c H locs cells slots mc ms (F0 m pc ls st0) rest (Qc #[Value.ref h]) free := by
  obtain ⟨hx, hb, hml, hown, hts⟩ := id S
  obtain ⟨hw1, hw2, hw3⟩ := hw
  exact va_runI (As := []) (n := 0) S hM ⟨callB_of 0 hts (jgood hw1) rfl hrc hrs (hts _ hw2) (hts _ hl) hw3 hR, hy, hts _ hi⟩ ⟨jblindc, fun U hU hW => ⟨rfl, by rw [hU]; exact hn, by rw [← hn]; exact hT.lt, by rw [hU]; exact hT, hK.warm hW, va_AO.moved hW.alike hO⟩⟩ rfl rfl hsz hst (lv_room hW) hdg hf
theorem jz_rin (S : CallFix p m c cc nL s args jtb own) (hK : jK X s) (hO : va_AO RX4 s) (hT : va_at X.1 jcl (h, .inr (ci, fs)) H) (hn : H.size = n1) (hM : Met l y (jws y bytes maxL none) rm (va_Pc [.ref h] (jPc X h n1 ci fs)) Qc mc ms free) (hw : jvw y bytes maxL none 0) (hi : Cond.instanceMethod y ∈ jtb) (hl : (own, index, y) ∈ jnw) (hy : y.name = "<init>")
    (hrc : rm.cells = mc) (hrs : rm.slots = ms) (hR : rm.frames + 1 ≤ R.frames ∧ 8 + (maxL + 11) + rm.locals ≤ R.locals) (hsz : ls.size = nL) (hst : st0 = .ref h :: rest) (hW : (rest.map fun v => v.category).sum ≤ 8) (hdg : decode cc pc = .ok (.invokespecial index, 3)) (hf : cells + mc ≤ R.cells ∧ slots + ms ≤ R.slots) :
    va_Run p l e R s m args below meth c H locs cells slots mc ms (F0 m pc ls st0) rest (Qc #[Value.ref h]) free := by
  obtain ⟨hx, hb, hml, hown, hts⟩ := id S
  obtain ⟨hw1, hw2, hw3⟩ := hw
  exact va_runIN (host := RX5) (As := []) (n := 0) S hM ⟨va_cnB 0 hts (jgood hw1) rfl hrc hrs (hK.2 _ hl) (hts _ hw2) hw3 hR, hy, hts _ hi⟩ ⟨jblindc, fun U hU hW => ⟨rfl, by rw [hU]; exact hn, by rw [← hn]; exact hT.lt, by rw [hU]; exact hT, hK.warm hW, va_AO.moved hW.alike hO⟩⟩ rfl rfl hsz hst (lv_room hW) hdg hf
/-- a constructor's end -/
theorem jz_end {c' : va_E} (hx : p.tables.exec = Jvm.exec) (hb : c.code = cc) (hr : meth.sig.returnType = none) (hlocks : meth.locks = false) (hK : jK X s) (hT : va_at X.1 jcl (h, c') H) (hz : jz X n cs H) (hS : va_S (jCA h n) s.heap H locs) (hdg : decode cc pc = .ok (.return_, 1)) :
    W p l e R s m args below meth c H locs cells slots (MQ below (jQc X h c' n cs) args s cells slots (jCA h n)) (F0 m pc ls []) :=
  W.vret hx hb hr (fun t ht hW => ⟨⟨rfl, by rw [ht]; exact hT, by rw [ht]; exact hz, hK.warm hW⟩, hS.F ht⟩) hS.2.2 hdg
end JZ
theorem jmc_of {l : Launch} {y : MethodName} {b : ByteArray} {n mc ms : Nat} {rm : Room} {h : Nat} {Bq : State → Prop} {Qc : Array Value → State → Outcome → State → Prop} {free : Addr → Prop} (hy : plainName y.cls = true) (hyn : y.name = "<init>") (hn : 1 ≤ n)
    (body : ∀ (p : Program) (e : Env) (s : State) (m : MethodId) (args : Array Value) (below : List Frame) (meth : Method) (c : Code) (ls : Array Slot), CallFix p m c b n s args jtb y.cls → meth.sig.returnType = none → meth.locks = false → meth.name = "<init>" → Bq s → lv_has ls n [(0, .ref h)] → W p l e rm s m args below meth c s.heap [] 0 0 (MQ below Qc args s mc ms free) (F0 m 0 ls [])) :
    Met l y (jws y b n none) rm (va_Pc [.ref h] Bq) Qc mc ms free := by
  refine Met.ofW (cc := b) (maxL := n) (ret := none) hy rfl ?_
  intro p e s m args below meth c s₁ B hml hv
  obtain ⟨rfl, hB⟩ := hv
  have hts0 := atoms_spec (ws := jws y b n none) B.pre
  rw [lg_entry_eq]
  exact body p e s m _ below meth c _ ⟨B.exec, B.bytes, hml, findClass_of_methodNamed B.named, fun w hw => hts0 w (List.mem_cons_of_mem _ hw)⟩ B.returns B.notSynchronized ((name_of_methodNamed B.named B.method).1.trans hyn) hB (lv_entry [.ref h] hn)
