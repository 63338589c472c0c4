/-! how a method's proof starts; switches; the objects' places -/
theorem jm_of {l : Launch} {y : MethodName} {b : ByteArray} {n : Nat} {ret : Option FieldType} {rm : Room} {As : List Value} {Bq : State → Prop} {Qc : Array Value → State → Outcome → State → Prop} {free : Addr → Prop} (hy : plainName y.cls = true) (hn : (lg_sl As).length ≤ n)
    (body : ∀ (p : Program) (e : Env) (s : State) (m : MethodId) (args : Array Value) (below : List Frame) (meth : Method) (c : Code) (ls : Array Slot), CallFix p m c b n s args jtb y.cls → meth.sig.returnType = ret → meth.locks = false → Bq s → lv_has ls n (lv_args 0 As) → W p l e rm s m args below meth c s.heap [] 0 0 (MQ below Qc args s 0 0 free) (F0 m 0 ls [])) :
    Met l y (jws y b n ret) rm (va_Pc As Bq) Qc 0 0 free := by
  refine Met.ofW (cc := b) (maxL := n) (ret := ret) hy rfl ?_
  intro p e s m args below meth c s₁ B hml hv
  obtain ⟨rfl, hB⟩ := hv
  have hts0 := atoms_spec (ws := jws y b n ret) B.pre
  rw [lg_entry_eq]
  exact body p e s m _ below meth c _ ⟨B.exec, B.bytes, hml, findClass_of_methodNamed B.named, fun w hw => hts0 w (List.mem_cons_of_mem _ hw)⟩ B.returns B.notSynchronized hB (lv_entry As hn)
theorem jh_0 {P : Prop} {α : Type} {r : α} (h : (none : Option α) = some r) : P := by cases h
theorem jb_f {f : Nat} (h : f = 21 ∨ f = 22 ∨ f = 28) : jal 6 f = 91 := by
  rcases h with rfl | rfl | rfl <;> rfl
theorem jb_kp (X : jX) {f : Nat} (h : f = 21 ∨ f = 22 ∨ f = 28) : jfw X 6 16 26 (Int32.ofNat f) = .ref (jA X 16 f) := by
  rcases h with rfl | rfl | rfl <;> rfl
theorem jb_0 : job 0 5 := ⟨by decide, rfl⟩
theorem jb_1 : job 1 4 := ⟨by decide, rfl⟩
theorem jb_2 : job 2 4 := ⟨by decide, rfl⟩
theorem jb_3 : job 3 4 := ⟨by decide, rfl⟩
theorem jb_12 : job 12 0 := ⟨by decide, rfl⟩
theorem jb_13 : job 13 1 := ⟨by decide, rfl⟩
theorem jb_14 : job 14 3 := ⟨by decide, rfl⟩
theorem jb_15 : job 15 2 := ⟨by decide, rfl⟩
theorem jb_16 : job 16 6 := ⟨by decide, rfl⟩
def jsw (x : Int32) (ks : List Int) : Prop := ∀ k ∈ ks, x.toInt ≠ k
theorem jsw_ne {x c : Int32} {k : Int} (h : ¬ x = c) (hc : c.toInt = k) : x.toInt ≠ k := fun e => h (Int32.toInt_inj.mp (e.trans hc.symm))
theorem jsw_nil {x : Int32} : jsw x [] := fun _ h => absurd h List.not_mem_nil
theorem jsw_cons {x : Int32} {k : Int} {ks : List Int} (h : x.toInt ≠ k) (h2 : jsw x ks) : jsw x (k :: ks) := fun q hq => by
  rcases List.mem_cons.mp hq with rfl | hq
  · exact h
  · exact h2 q hq
section JW
variable {p : Program} {l : Launch} {e : Env} {R : Room} {s : State} {m : MethodId} {args : Array Value} {below : List Frame} {meth : Method} {c : Code} {H : Heap} {locs : List Loc} {cells slots : Nat} {Q : State → Prop}
variable {cc : ByteArray} {pc : Nat} {ls : Array Slot} {rest : List Value}
theorem jr_tdef (hx : p.tables.exec = Jvm.exec) (hb : c.code = cc) {dflt lo hi : Int} {offs : Array Int} {len : Nat} {x : Int32} {tgt : Nat} {ks : List Int} (hdg : decode cc pc = .ok (.tableswitch dflt lo hi offs, len)) (hk : jsw x ks)
    (hall : (decide ((hi - lo + 1).toNat ≤ offs.size) && (List.range offs.size).all (fun i => offs[i]? == some dflt || ks.contains (lo + (i : Int)))) = true) (ht : (pc : Int) + dflt = (tgt : Int))
    (k : W p l e R s m args below meth c H locs cells slots Q (F0 m tgt ls rest)) : W p l e R s m args below meth c H locs cells slots Q (F0 m pc ls (.int x :: rest)) := by
  simp only [Bool.and_eq_true, decide_eq_true_eq, List.all_eq_true, List.mem_range, Bool.or_eq_true, beq_iff_eq, List.contains_iff_mem] at hall
  by_cases h1 : x.toInt < lo
  · exact lv_tableOut hx hb hdg (Or.inl h1) ht k
  · by_cases h2 : hi < x.toInt
    · exact lv_tableOut hx hb hdg (Or.inr h2) ht k
    · have hi' : (x.toInt - lo).toNat < offs.size := by omega
      rcases hall.2 _ hi' with q | q
      · exact lv_tableIn hx hb hdg h1 h2 q ht k
      · exact absurd (by omega) (hk _ q)
theorem jld {ps : List (Int × Int)} {dflt z : Int} {ks : List Int} (hk : ∀ k ∈ ks, z ≠ k) (h : ps.all (fun q => ks.contains q.1) = true) : Op.lookupswitch.offset ps dflt z = dflt := by
  induction ps with
  | nil => rfl
  | cons a r ih =>
    simp only [List.all_cons, Bool.and_eq_true, List.contains_iff_mem] at h
    obtain ⟨a1, a2⟩ := a
    rw [Op.lookupswitch.offset_cons]
    rw [if_neg (fun e => hk _ h.1 (by first | exact e | exact e.symm | simpa using e))]
    exact ih h.2
theorem jr_ldef (hx : p.tables.exec = Jvm.exec) (hb : c.code = cc) {dflt : Int} {ps : Array (Int × Int)} {len : Nat} {x : Int32} {tgt : Nat} {ks : List Int} (hdg : decode cc pc = .ok (.lookupswitch dflt ps, len)) (hp : (ps.toList.zip (ps.toList.drop 1)).all (fun (a, next) => a.1 < next.1) = true) (hk : jsw x ks)
    (hall : ps.toList.all (fun q => ks.contains q.1) = true) (ht : (pc : Int) + dflt = (tgt : Int))
    (k : W p l e R s m args below meth c H locs cells slots Q (F0 m tgt ls rest)) : W p l e R s m args below meth c H locs cells slots Q (F0 m pc ls (.int x :: rest)) :=
  lv_lookup hx hb hdg hp (jld hk hall) ht k
end JW
