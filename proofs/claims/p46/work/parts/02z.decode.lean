def dq_at (c : ByteArray) (p : Nat) (b : UInt8) : Prop := ∃ h : p < c.size, c[p]'h = b
theorem dq_w {c : ByteArray} {s : Nat} {w : List UInt8} (hw : (c.data.toList.drop s).take 16 = w) (j : Nat) {b : UInt8} (h : w[j]? = some b) : dq_at c (s + j) b := by
  obtain ⟨⟨l⟩⟩ := c
  have hw : (l.drop s).take 16 = w := hw
  rw [← hw, List.getElem?_take] at h
  split at h
  · rw [List.getElem?_drop] at h
    obtain ⟨h1, h2⟩ := List.getElem?_eq_some_iff.mp h
    exact ⟨h1, h2⟩
  · cases h
theorem dq_u1 {c : ByteArray} {p : Nat} {b : UInt8} (h : dq_at c p b) {n : Nat} (hn : b.toNat = n) : (Jvm.ClassFile.Reader.u1 : Jvm.ClassFile.Reader Jvm.ClassFile.DecodeError Nat) c p = .ok (n, p + 1) := by
  obtain ⟨h1, h2⟩ := h
  unfold Jvm.ClassFile.Reader.u1
  show (dite (p < c.size) (fun h => (do set (p + 1); pure (c[p]'h).toNat : Jvm.ClassFile.Reader Jvm.ClassFile.DecodeError Nat)) (fun _ => throw (Jvm.ClassFile.HasTruncated.truncated p))) c p = _
  rw [dif_pos h1]
  show Except.ok ((c[p]'h1).toNat, p + 1) = _
  rw [h2, hn]
theorem dq_b {α β : Type} {r : Jvm.ClassFile.Reader Jvm.ClassFile.DecodeError α} {F : α → Jvm.ClassFile.Reader Jvm.ClassFile.DecodeError β} {c : ByteArray} {p q : Nat} {a : α} (h : r c p = .ok (a, q)) : (r >>= F) c p = F a c q := by
  show Except.bind (r c p) _ = _
  rw [h]
  rfl
theorem dq_d {c : ByteArray} {p q : Nat} {ins : Instr} (h : Jvm.ClassFile.Decoder.instr p c p = .ok (ins, q)) : decode c p = .ok (ins, q - p) := by
  show Except.bind (Jvm.ClassFile.Decoder.instr p c p) _ = _
  rw [h]
  rfl
theorem dq_u2 {c : ByteArray} {p : Nat} {a b : UInt8} (h : dq_at c p a) (h2 : dq_at c (p + 1) b) {n : Nat} (hn : a.toNat * 256 + b.toNat = n) : (Jvm.ClassFile.Reader.u2 : Jvm.ClassFile.Reader Jvm.ClassFile.DecodeError Nat) c p = .ok (n, p + 2) := by
  unfold Jvm.ClassFile.Reader.u2
  refine (dq_b (dq_u1 h rfl)).trans ((dq_b (dq_u1 h2 rfl)).trans ?_)
  rw [hn]
  rfl
theorem dq_s1 {c : ByteArray} {p : Nat} {b : UInt8} (h : dq_at c p b) {n : Int} (hn : Jvm.ClassFile.Reader.signed 8 b.toNat = n) : (Jvm.ClassFile.Reader.s1 : Jvm.ClassFile.Reader Jvm.ClassFile.DecodeError Int) c p = .ok (n, p + 1) := by
  unfold Jvm.ClassFile.Reader.s1
  show Except.bind ((Jvm.ClassFile.Reader.u1 : Jvm.ClassFile.Reader Jvm.ClassFile.DecodeError Nat) c p) _ = _
  rw [dq_u1 h rfl, ← hn]
  rfl
theorem dq_s2 {c : ByteArray} {p : Nat} {a b : UInt8} (h : dq_at c p a) (h2 : dq_at c (p + 1) b) {n : Int} (hn : Jvm.ClassFile.Reader.signed 16 (a.toNat * 256 + b.toNat) = n) : (Jvm.ClassFile.Reader.s2 : Jvm.ClassFile.Reader Jvm.ClassFile.DecodeError Int) c p = .ok (n, p + 2) := by
  unfold Jvm.ClassFile.Reader.s2
  show Except.bind ((Jvm.ClassFile.Reader.u2 : Jvm.ClassFile.Reader Jvm.ClassFile.DecodeError Nat) c p) _ = _
  rw [dq_u2 h h2 rfl, ← hn]
  rfl
theorem dq_p {x n : Nat} (h : x = n) (h2 : Nat.blt n 32768 = true) : Jvm.ClassFile.Reader.signed 16 x = (n : Int) := by
  have h3 : n < 32768 := Nat.le_of_ble_eq_true h2
  have e : 2 ^ (16 - 1) = 32768 := by decide
  unfold Jvm.ClassFile.Reader.signed
  rw [if_pos (by rw [e]; omega), h]
theorem dq_n {x m : Nat} (h : x + m = 65536) (h2 : Nat.ble m 32768 = true) : Jvm.ClassFile.Reader.signed 16 x = -(m : Int) := by
  have h3 : m ≤ 32768 := Nat.le_of_ble_eq_true h2
  have e : 2 ^ (16 - 1) = 32768 := by decide
  have e2 : 2 ^ 16 = 65536 := by decide
  unfold Jvm.ClassFile.Reader.signed
  rw [if_neg (by rw [e]; omega), e2]
  omega
theorem dq_2 {c : ByteArray} {p : Nat} (h : dq_at c p 2) : decode c p = .ok (.iconst (-1), 1) := by
  have e : Jvm.ClassFile.Decoder.instr p c p = .ok (.iconst (-1), p + 1) := by
    unfold Jvm.ClassFile.Decoder.instr
    exact (dq_b (dq_u1 h (n := 2) rfl)).trans (rfl)
  rw [dq_d e, Nat.add_sub_cancel_left]
theorem dq_3 {c : ByteArray} {p : Nat} (h : dq_at c p 3) : decode c p = .ok (.iconst 0, 1) := by
  have e : Jvm.ClassFile.Decoder.instr p c p = .ok (.iconst 0, p + 1) := by
    unfold Jvm.ClassFile.Decoder.instr
    exact (dq_b (dq_u1 h (n := 3) rfl)).trans (rfl)
  rw [dq_d e, Nat.add_sub_cancel_left]
theorem dq_4 {c : ByteArray} {p : Nat} (h : dq_at c p 4) : decode c p = .ok (.iconst 1, 1) := by
  have e : Jvm.ClassFile.Decoder.instr p c p = .ok (.iconst 1, p + 1) := by
    unfold Jvm.ClassFile.Decoder.instr
    exact (dq_b (dq_u1 h (n := 4) rfl)).trans (rfl)
  rw [dq_d e, Nat.add_sub_cancel_left]
theorem dq_5 {c : ByteArray} {p : Nat} (h : dq_at c p 5) : decode c p = .ok (.iconst 2, 1) := by
  have e : Jvm.ClassFile.Decoder.instr p c p = .ok (.iconst 2, p + 1) := by
    unfold Jvm.ClassFile.Decoder.instr
    exact (dq_b (dq_u1 h (n := 5) rfl)).trans (rfl)
  rw [dq_d e, Nat.add_sub_cancel_left]
theorem dq_6 {c : ByteArray} {p : Nat} (h : dq_at c p 6) : decode c p = .ok (.iconst 3, 1) := by
  have e : Jvm.ClassFile.Decoder.instr p c p = .ok (.iconst 3, p + 1) := by
    unfold Jvm.ClassFile.Decoder.instr
    exact (dq_b (dq_u1 h (n := 6) rfl)).trans (rfl)
  rw [dq_d e, Nat.add_sub_cancel_left]
theorem dq_7 {c : ByteArray} {p : Nat} (h : dq_at c p 7) : decode c p = .ok (.iconst 4, 1) := by
  have e : Jvm.ClassFile.Decoder.instr p c p = .ok (.iconst 4, p + 1) := by
    unfold Jvm.ClassFile.Decoder.instr
    exact (dq_b (dq_u1 h (n := 7) rfl)).trans (rfl)
  rw [dq_d e, Nat.add_sub_cancel_left]
theorem dq_8 {c : ByteArray} {p : Nat} (h : dq_at c p 8) : decode c p = .ok (.iconst 5, 1) := by
  have e : Jvm.ClassFile.Decoder.instr p c p = .ok (.iconst 5, p + 1) := by
    unfold Jvm.ClassFile.Decoder.instr
    exact (dq_b (dq_u1 h (n := 8) rfl)).trans (rfl)
  rw [dq_d e, Nat.add_sub_cancel_left]
theorem dq_9 {c : ByteArray} {p : Nat} (h : dq_at c p 9) : decode c p = .ok (.lconst 0, 1) := by
  have e : Jvm.ClassFile.Decoder.instr p c p = .ok (.lconst 0, p + 1) := by
    unfold Jvm.ClassFile.Decoder.instr
    exact (dq_b (dq_u1 h (n := 9) rfl)).trans (rfl)
  rw [dq_d e, Nat.add_sub_cancel_left]
theorem dq_10 {c : ByteArray} {p : Nat} (h : dq_at c p 10) : decode c p = .ok (.lconst 1, 1) := by
  have e : Jvm.ClassFile.Decoder.instr p c p = .ok (.lconst 1, p + 1) := by
    unfold Jvm.ClassFile.Decoder.instr
    exact (dq_b (dq_u1 h (n := 10) rfl)).trans (rfl)
  rw [dq_d e, Nat.add_sub_cancel_left]
theorem dq_16 {c : ByteArray} {p : Nat} (h : dq_at c p 16) {b0 : UInt8} {v0 : Int} (h0 : dq_at c (p + 1) b0) (e0 : Jvm.ClassFile.Reader.signed 8 b0.toNat = v0) : decode c p = .ok (.bipush v0, 2) := by
  have e : Jvm.ClassFile.Decoder.instr p c p = .ok (.bipush v0, p + 2) := by
    unfold Jvm.ClassFile.Decoder.instr
    exact (dq_b (dq_u1 h (n := 16) rfl)).trans ((dq_b (dq_s1 h0 e0)).trans (rfl))
  rw [dq_d e, Nat.add_sub_cancel_left]
theorem dq_17 {c : ByteArray} {p : Nat} (h : dq_at c p 17) {a0 b0 : UInt8} {v0 : Int} (h0 : dq_at c (p + 1) a0) (g0 : dq_at c (p + 2) b0) (e0 : Jvm.ClassFile.Reader.signed 16 (a0.toNat * 256 + b0.toNat) = v0) : decode c p = .ok (.sipush v0, 3) := by
  have e : Jvm.ClassFile.Decoder.instr p c p = .ok (.sipush v0, p + 3) := by
    unfold Jvm.ClassFile.Decoder.instr
    exact (dq_b (dq_u1 h (n := 17) rfl)).trans ((dq_b (dq_s2 h0 g0 e0)).trans (rfl))
  rw [dq_d e, Nat.add_sub_cancel_left]
theorem dq_18 {c : ByteArray} {p : Nat} (h : dq_at c p 18) {b0 : UInt8} {v0 : Nat} (h0 : dq_at c (p + 1) b0) (e0 : b0.toNat = v0) : decode c p = .ok (.ldc v0, 2) := by
  have e : Jvm.ClassFile.Decoder.instr p c p = .ok (.ldc v0, p + 2) := by
    unfold Jvm.ClassFile.Decoder.instr
    exact (dq_b (dq_u1 h (n := 18) rfl)).trans ((dq_b (dq_u1 h0 e0)).trans (rfl))
  rw [dq_d e, Nat.add_sub_cancel_left]
theorem dq_19 {c : ByteArray} {p : Nat} (h : dq_at c p 19) {a0 b0 : UInt8} {v0 : Nat} (h0 : dq_at c (p + 1) a0) (g0 : dq_at c (p + 2) b0) (e0 : a0.toNat * 256 + b0.toNat = v0) : decode c p = .ok (.ldc_w v0, 3) := by
  have e : Jvm.ClassFile.Decoder.instr p c p = .ok (.ldc_w v0, p + 3) := by
    unfold Jvm.ClassFile.Decoder.instr
    exact (dq_b (dq_u1 h (n := 19) rfl)).trans ((dq_b (dq_u2 h0 g0 e0)).trans (rfl))
  rw [dq_d e, Nat.add_sub_cancel_left]
theorem dq_20 {c : ByteArray} {p : Nat} (h : dq_at c p 20) {a0 b0 : UInt8} {v0 : Nat} (h0 : dq_at c (p + 1) a0) (g0 : dq_at c (p + 2) b0) (e0 : a0.toNat * 256 + b0.toNat = v0) : decode c p = .ok (.ldc2_w v0, 3) := by
  have e : Jvm.ClassFile.Decoder.instr p c p = .ok (.ldc2_w v0, p + 3) := by
    unfold Jvm.ClassFile.Decoder.instr
    exact (dq_b (dq_u1 h (n := 20) rfl)).trans ((dq_b (dq_u2 h0 g0 e0)).trans (rfl))
  rw [dq_d e, Nat.add_sub_cancel_left]
theorem dq_21 {c : ByteArray} {p : Nat} (h : dq_at c p 21) {b0 : UInt8} {v0 : Nat} (h0 : dq_at c (p + 1) b0) (e0 : b0.toNat = v0) : decode c p = .ok (.iload v0, 2) := by
  have e : Jvm.ClassFile.Decoder.instr p c p = .ok (.iload v0, p + 2) := by
    unfold Jvm.ClassFile.Decoder.instr
    exact (dq_b (dq_u1 h (n := 21) rfl)).trans ((dq_b (dq_u1 h0 e0)).trans (rfl))
  rw [dq_d e, Nat.add_sub_cancel_left]
theorem dq_22 {c : ByteArray} {p : Nat} (h : dq_at c p 22) {b0 : UInt8} {v0 : Nat} (h0 : dq_at c (p + 1) b0) (e0 : b0.toNat = v0) : decode c p = .ok (.lload v0, 2) := by
  have e : Jvm.ClassFile.Decoder.instr p c p = .ok (.lload v0, p + 2) := by
    unfold Jvm.ClassFile.Decoder.instr
    exact (dq_b (dq_u1 h (n := 22) rfl)).trans ((dq_b (dq_u1 h0 e0)).trans (rfl))
  rw [dq_d e, Nat.add_sub_cancel_left]
theorem dq_26 {c : ByteArray} {p : Nat} (h : dq_at c p 26) : decode c p = .ok (.iload_n 0, 1) := by
  have e : Jvm.ClassFile.Decoder.instr p c p = .ok (.iload_n 0, p + 1) := by
    unfold Jvm.ClassFile.Decoder.instr
    exact (dq_b (dq_u1 h (n := 26) rfl)).trans (rfl)
  rw [dq_d e, Nat.add_sub_cancel_left]
theorem dq_27 {c : ByteArray} {p : Nat} (h : dq_at c p 27) : decode c p = .ok (.iload_n 1, 1) := by
  have e : Jvm.ClassFile.Decoder.instr p c p = .ok (.iload_n 1, p + 1) := by
    unfold Jvm.ClassFile.Decoder.instr
    exact (dq_b (dq_u1 h (n := 27) rfl)).trans (rfl)
  rw [dq_d e, Nat.add_sub_cancel_left]
theorem dq_28 {c : ByteArray} {p : Nat} (h : dq_at c p 28) : decode c p = .ok (.iload_n 2, 1) := by
  have e : Jvm.ClassFile.Decoder.instr p c p = .ok (.iload_n 2, p + 1) := by
    unfold Jvm.ClassFile.Decoder.instr
    exact (dq_b (dq_u1 h (n := 28) rfl)).trans (rfl)
  rw [dq_d e, Nat.add_sub_cancel_left]
theorem dq_29 {c : ByteArray} {p : Nat} (h : dq_at c p 29) : decode c p = .ok (.iload_n 3, 1) := by
  have e : Jvm.ClassFile.Decoder.instr p c p = .ok (.iload_n 3, p + 1) := by
    unfold Jvm.ClassFile.Decoder.instr
    exact (dq_b (dq_u1 h (n := 29) rfl)).trans (rfl)
  rw [dq_d e, Nat.add_sub_cancel_left]
theorem dq_30 {c : ByteArray} {p : Nat} (h : dq_at c p 30) : decode c p = .ok (.lload_n 0, 1) := by
  have e : Jvm.ClassFile.Decoder.instr p c p = .ok (.lload_n 0, p + 1) := by
    unfold Jvm.ClassFile.Decoder.instr
    exact (dq_b (dq_u1 h (n := 30) rfl)).trans (rfl)
  rw [dq_d e, Nat.add_sub_cancel_left]
theorem dq_31 {c : ByteArray} {p : Nat} (h : dq_at c p 31) : decode c p = .ok (.lload_n 1, 1) := by
  have e : Jvm.ClassFile.Decoder.instr p c p = .ok (.lload_n 1, p + 1) := by
    unfold Jvm.ClassFile.Decoder.instr
    exact (dq_b (dq_u1 h (n := 31) rfl)).trans (rfl)
  rw [dq_d e, Nat.add_sub_cancel_left]
theorem dq_32 {c : ByteArray} {p : Nat} (h : dq_at c p 32) : decode c p = .ok (.lload_n 2, 1) := by
  have e : Jvm.ClassFile.Decoder.instr p c p = .ok (.lload_n 2, p + 1) := by
    unfold Jvm.ClassFile.Decoder.instr
    exact (dq_b (dq_u1 h (n := 32) rfl)).trans (rfl)
  rw [dq_d e, Nat.add_sub_cancel_left]
theorem dq_42 {c : ByteArray} {p : Nat} (h : dq_at c p 42) : decode c p = .ok (.aload_n 0, 1) := by
  have e : Jvm.ClassFile.Decoder.instr p c p = .ok (.aload_n 0, p + 1) := by
    unfold Jvm.ClassFile.Decoder.instr
    exact (dq_b (dq_u1 h (n := 42) rfl)).trans (rfl)
  rw [dq_d e, Nat.add_sub_cancel_left]
theorem dq_43 {c : ByteArray} {p : Nat} (h : dq_at c p 43) : decode c p = .ok (.aload_n 1, 1) := by
  have e : Jvm.ClassFile.Decoder.instr p c p = .ok (.aload_n 1, p + 1) := by
    unfold Jvm.ClassFile.Decoder.instr
    exact (dq_b (dq_u1 h (n := 43) rfl)).trans (rfl)
  rw [dq_d e, Nat.add_sub_cancel_left]
theorem dq_44 {c : ByteArray} {p : Nat} (h : dq_at c p 44) : decode c p = .ok (.aload_n 2, 1) := by
  have e : Jvm.ClassFile.Decoder.instr p c p = .ok (.aload_n 2, p + 1) := by
    unfold Jvm.ClassFile.Decoder.instr
    exact (dq_b (dq_u1 h (n := 44) rfl)).trans (rfl)
  rw [dq_d e, Nat.add_sub_cancel_left]
theorem dq_46 {c : ByteArray} {p : Nat} (h : dq_at c p 46) : decode c p = .ok (.iaload, 1) := by
  have e : Jvm.ClassFile.Decoder.instr p c p = .ok (.iaload, p + 1) := by
    unfold Jvm.ClassFile.Decoder.instr
    exact (dq_b (dq_u1 h (n := 46) rfl)).trans (rfl)
  rw [dq_d e, Nat.add_sub_cancel_left]
theorem dq_50 {c : ByteArray} {p : Nat} (h : dq_at c p 50) : decode c p = .ok (.aaload, 1) := by
  have e : Jvm.ClassFile.Decoder.instr p c p = .ok (.aaload, p + 1) := by
    unfold Jvm.ClassFile.Decoder.instr
    exact (dq_b (dq_u1 h (n := 50) rfl)).trans (rfl)
  rw [dq_d e, Nat.add_sub_cancel_left]
theorem dq_54 {c : ByteArray} {p : Nat} (h : dq_at c p 54) {b0 : UInt8} {v0 : Nat} (h0 : dq_at c (p + 1) b0) (e0 : b0.toNat = v0) : decode c p = .ok (.istore v0, 2) := by
  have e : Jvm.ClassFile.Decoder.instr p c p = .ok (.istore v0, p + 2) := by
    unfold Jvm.ClassFile.Decoder.instr
    exact (dq_b (dq_u1 h (n := 54) rfl)).trans ((dq_b (dq_u1 h0 e0)).trans (rfl))
  rw [dq_d e, Nat.add_sub_cancel_left]
theorem dq_55 {c : ByteArray} {p : Nat} (h : dq_at c p 55) {b0 : UInt8} {v0 : Nat} (h0 : dq_at c (p + 1) b0) (e0 : b0.toNat = v0) : decode c p = .ok (.lstore v0, 2) := by
  have e : Jvm.ClassFile.Decoder.instr p c p = .ok (.lstore v0, p + 2) := by
    unfold Jvm.ClassFile.Decoder.instr
    exact (dq_b (dq_u1 h (n := 55) rfl)).trans ((dq_b (dq_u1 h0 e0)).trans (rfl))
  rw [dq_d e, Nat.add_sub_cancel_left]
theorem dq_59 {c : ByteArray} {p : Nat} (h : dq_at c p 59) : decode c p = .ok (.istore_n 0, 1) := by
  have e : Jvm.ClassFile.Decoder.instr p c p = .ok (.istore_n 0, p + 1) := by
    unfold Jvm.ClassFile.Decoder.instr
    exact (dq_b (dq_u1 h (n := 59) rfl)).trans (rfl)
  rw [dq_d e, Nat.add_sub_cancel_left]
theorem dq_60 {c : ByteArray} {p : Nat} (h : dq_at c p 60) : decode c p = .ok (.istore_n 1, 1) := by
  have e : Jvm.ClassFile.Decoder.instr p c p = .ok (.istore_n 1, p + 1) := by
    unfold Jvm.ClassFile.Decoder.instr
    exact (dq_b (dq_u1 h (n := 60) rfl)).trans (rfl)
  rw [dq_d e, Nat.add_sub_cancel_left]
theorem dq_61 {c : ByteArray} {p : Nat} (h : dq_at c p 61) : decode c p = .ok (.istore_n 2, 1) := by
  have e : Jvm.ClassFile.Decoder.instr p c p = .ok (.istore_n 2, p + 1) := by
    unfold Jvm.ClassFile.Decoder.instr
    exact (dq_b (dq_u1 h (n := 61) rfl)).trans (rfl)
  rw [dq_d e, Nat.add_sub_cancel_left]
theorem dq_62 {c : ByteArray} {p : Nat} (h : dq_at c p 62) : decode c p = .ok (.istore_n 3, 1) := by
  have e : Jvm.ClassFile.Decoder.instr p c p = .ok (.istore_n 3, p + 1) := by
    unfold Jvm.ClassFile.Decoder.instr
    exact (dq_b (dq_u1 h (n := 62) rfl)).trans (rfl)
  rw [dq_d e, Nat.add_sub_cancel_left]
theorem dq_64 {c : ByteArray} {p : Nat} (h : dq_at c p 64) : decode c p = .ok (.lstore_n 1, 1) := by
  have e : Jvm.ClassFile.Decoder.instr p c p = .ok (.lstore_n 1, p + 1) := by
    unfold Jvm.ClassFile.Decoder.instr
    exact (dq_b (dq_u1 h (n := 64) rfl)).trans (rfl)
  rw [dq_d e, Nat.add_sub_cancel_left]
theorem dq_65 {c : ByteArray} {p : Nat} (h : dq_at c p 65) : decode c p = .ok (.lstore_n 2, 1) := by
  have e : Jvm.ClassFile.Decoder.instr p c p = .ok (.lstore_n 2, p + 1) := by
    unfold Jvm.ClassFile.Decoder.instr
    exact (dq_b (dq_u1 h (n := 65) rfl)).trans (rfl)
  rw [dq_d e, Nat.add_sub_cancel_left]
theorem dq_76 {c : ByteArray} {p : Nat} (h : dq_at c p 76) : decode c p = .ok (.astore_n 1, 1) := by
  have e : Jvm.ClassFile.Decoder.instr p c p = .ok (.astore_n 1, p + 1) := by
    unfold Jvm.ClassFile.Decoder.instr
    exact (dq_b (dq_u1 h (n := 76) rfl)).trans (rfl)
  rw [dq_d e, Nat.add_sub_cancel_left]
theorem dq_77 {c : ByteArray} {p : Nat} (h : dq_at c p 77) : decode c p = .ok (.astore_n 2, 1) := by
  have e : Jvm.ClassFile.Decoder.instr p c p = .ok (.astore_n 2, p + 1) := by
    unfold Jvm.ClassFile.Decoder.instr
    exact (dq_b (dq_u1 h (n := 77) rfl)).trans (rfl)
  rw [dq_d e, Nat.add_sub_cancel_left]
theorem dq_79 {c : ByteArray} {p : Nat} (h : dq_at c p 79) : decode c p = .ok (.iastore, 1) := by
  have e : Jvm.ClassFile.Decoder.instr p c p = .ok (.iastore, p + 1) := by
    unfold Jvm.ClassFile.Decoder.instr
    exact (dq_b (dq_u1 h (n := 79) rfl)).trans (rfl)
  rw [dq_d e, Nat.add_sub_cancel_left]
theorem dq_83 {c : ByteArray} {p : Nat} (h : dq_at c p 83) : decode c p = .ok (.aastore, 1) := by
  have e : Jvm.ClassFile.Decoder.instr p c p = .ok (.aastore, p + 1) := by
    unfold Jvm.ClassFile.Decoder.instr
    exact (dq_b (dq_u1 h (n := 83) rfl)).trans (rfl)
  rw [dq_d e, Nat.add_sub_cancel_left]
theorem dq_87 {c : ByteArray} {p : Nat} (h : dq_at c p 87) : decode c p = .ok (.pop, 1) := by
  have e : Jvm.ClassFile.Decoder.instr p c p = .ok (.pop, p + 1) := by
    unfold Jvm.ClassFile.Decoder.instr
    exact (dq_b (dq_u1 h (n := 87) rfl)).trans (rfl)
  rw [dq_d e, Nat.add_sub_cancel_left]
theorem dq_88 {c : ByteArray} {p : Nat} (h : dq_at c p 88) : decode c p = .ok (.pop2, 1) := by
  have e : Jvm.ClassFile.Decoder.instr p c p = .ok (.pop2, p + 1) := by
    unfold Jvm.ClassFile.Decoder.instr
    exact (dq_b (dq_u1 h (n := 88) rfl)).trans (rfl)
  rw [dq_d e, Nat.add_sub_cancel_left]
theorem dq_89 {c : ByteArray} {p : Nat} (h : dq_at c p 89) : decode c p = .ok (.dup, 1) := by
  have e : Jvm.ClassFile.Decoder.instr p c p = .ok (.dup, p + 1) := by
    unfold Jvm.ClassFile.Decoder.instr
    exact (dq_b (dq_u1 h (n := 89) rfl)).trans (rfl)
  rw [dq_d e, Nat.add_sub_cancel_left]
theorem dq_92 {c : ByteArray} {p : Nat} (h : dq_at c p 92) : decode c p = .ok (.dup2, 1) := by
  have e : Jvm.ClassFile.Decoder.instr p c p = .ok (.dup2, p + 1) := by
    unfold Jvm.ClassFile.Decoder.instr
    exact (dq_b (dq_u1 h (n := 92) rfl)).trans (rfl)
  rw [dq_d e, Nat.add_sub_cancel_left]
theorem dq_96 {c : ByteArray} {p : Nat} (h : dq_at c p 96) : decode c p = .ok (.iadd, 1) := by
  have e : Jvm.ClassFile.Decoder.instr p c p = .ok (.iadd, p + 1) := by
    unfold Jvm.ClassFile.Decoder.instr
    exact (dq_b (dq_u1 h (n := 96) rfl)).trans (rfl)
  rw [dq_d e, Nat.add_sub_cancel_left]
theorem dq_97 {c : ByteArray} {p : Nat} (h : dq_at c p 97) : decode c p = .ok (.ladd, 1) := by
  have e : Jvm.ClassFile.Decoder.instr p c p = .ok (.ladd, p + 1) := by
    unfold Jvm.ClassFile.Decoder.instr
    exact (dq_b (dq_u1 h (n := 97) rfl)).trans (rfl)
  rw [dq_d e, Nat.add_sub_cancel_left]
theorem dq_100 {c : ByteArray} {p : Nat} (h : dq_at c p 100) : decode c p = .ok (.isub, 1) := by
  have e : Jvm.ClassFile.Decoder.instr p c p = .ok (.isub, p + 1) := by
    unfold Jvm.ClassFile.Decoder.instr
    exact (dq_b (dq_u1 h (n := 100) rfl)).trans (rfl)
  rw [dq_d e, Nat.add_sub_cancel_left]
theorem dq_101 {c : ByteArray} {p : Nat} (h : dq_at c p 101) : decode c p = .ok (.lsub, 1) := by
  have e : Jvm.ClassFile.Decoder.instr p c p = .ok (.lsub, p + 1) := by
    unfold Jvm.ClassFile.Decoder.instr
    exact (dq_b (dq_u1 h (n := 101) rfl)).trans (rfl)
  rw [dq_d e, Nat.add_sub_cancel_left]
theorem dq_104 {c : ByteArray} {p : Nat} (h : dq_at c p 104) : decode c p = .ok (.imul, 1) := by
  have e : Jvm.ClassFile.Decoder.instr p c p = .ok (.imul, p + 1) := by
    unfold Jvm.ClassFile.Decoder.instr
    exact (dq_b (dq_u1 h (n := 104) rfl)).trans (rfl)
  rw [dq_d e, Nat.add_sub_cancel_left]
theorem dq_105 {c : ByteArray} {p : Nat} (h : dq_at c p 105) : decode c p = .ok (.lmul, 1) := by
  have e : Jvm.ClassFile.Decoder.instr p c p = .ok (.lmul, p + 1) := by
    unfold Jvm.ClassFile.Decoder.instr
    exact (dq_b (dq_u1 h (n := 105) rfl)).trans (rfl)
  rw [dq_d e, Nat.add_sub_cancel_left]
theorem dq_108 {c : ByteArray} {p : Nat} (h : dq_at c p 108) : decode c p = .ok (.idiv, 1) := by
  have e : Jvm.ClassFile.Decoder.instr p c p = .ok (.idiv, p + 1) := by
    unfold Jvm.ClassFile.Decoder.instr
    exact (dq_b (dq_u1 h (n := 108) rfl)).trans (rfl)
  rw [dq_d e, Nat.add_sub_cancel_left]
theorem dq_109 {c : ByteArray} {p : Nat} (h : dq_at c p 109) : decode c p = .ok (.ldiv, 1) := by
  have e : Jvm.ClassFile.Decoder.instr p c p = .ok (.ldiv, p + 1) := by
    unfold Jvm.ClassFile.Decoder.instr
    exact (dq_b (dq_u1 h (n := 109) rfl)).trans (rfl)
  rw [dq_d e, Nat.add_sub_cancel_left]
theorem dq_112 {c : ByteArray} {p : Nat} (h : dq_at c p 112) : decode c p = .ok (.irem, 1) := by
  have e : Jvm.ClassFile.Decoder.instr p c p = .ok (.irem, p + 1) := by
    unfold Jvm.ClassFile.Decoder.instr
    exact (dq_b (dq_u1 h (n := 112) rfl)).trans (rfl)
  rw [dq_d e, Nat.add_sub_cancel_left]
theorem dq_113 {c : ByteArray} {p : Nat} (h : dq_at c p 113) : decode c p = .ok (.lrem, 1) := by
  have e : Jvm.ClassFile.Decoder.instr p c p = .ok (.lrem, p + 1) := by
    unfold Jvm.ClassFile.Decoder.instr
    exact (dq_b (dq_u1 h (n := 113) rfl)).trans (rfl)
  rw [dq_d e, Nat.add_sub_cancel_left]
theorem dq_116 {c : ByteArray} {p : Nat} (h : dq_at c p 116) : decode c p = .ok (.ineg, 1) := by
  have e : Jvm.ClassFile.Decoder.instr p c p = .ok (.ineg, p + 1) := by
    unfold Jvm.ClassFile.Decoder.instr
    exact (dq_b (dq_u1 h (n := 116) rfl)).trans (rfl)
  rw [dq_d e, Nat.add_sub_cancel_left]
theorem dq_120 {c : ByteArray} {p : Nat} (h : dq_at c p 120) : decode c p = .ok (.ishl, 1) := by
  have e : Jvm.ClassFile.Decoder.instr p c p = .ok (.ishl, p + 1) := by
    unfold Jvm.ClassFile.Decoder.instr
    exact (dq_b (dq_u1 h (n := 120) rfl)).trans (rfl)
  rw [dq_d e, Nat.add_sub_cancel_left]
theorem dq_121 {c : ByteArray} {p : Nat} (h : dq_at c p 121) : decode c p = .ok (.lshl, 1) := by
  have e : Jvm.ClassFile.Decoder.instr p c p = .ok (.lshl, p + 1) := by
    unfold Jvm.ClassFile.Decoder.instr
    exact (dq_b (dq_u1 h (n := 121) rfl)).trans (rfl)
  rw [dq_d e, Nat.add_sub_cancel_left]
theorem dq_122 {c : ByteArray} {p : Nat} (h : dq_at c p 122) : decode c p = .ok (.ishr, 1) := by
  have e : Jvm.ClassFile.Decoder.instr p c p = .ok (.ishr, p + 1) := by
    unfold Jvm.ClassFile.Decoder.instr
    exact (dq_b (dq_u1 h (n := 122) rfl)).trans (rfl)
  rw [dq_d e, Nat.add_sub_cancel_left]
theorem dq_123 {c : ByteArray} {p : Nat} (h : dq_at c p 123) : decode c p = .ok (.lshr, 1) := by
  have e : Jvm.ClassFile.Decoder.instr p c p = .ok (.lshr, p + 1) := by
    unfold Jvm.ClassFile.Decoder.instr
    exact (dq_b (dq_u1 h (n := 123) rfl)).trans (rfl)
  rw [dq_d e, Nat.add_sub_cancel_left]
theorem dq_124 {c : ByteArray} {p : Nat} (h : dq_at c p 124) : decode c p = .ok (.iushr, 1) := by
  have e : Jvm.ClassFile.Decoder.instr p c p = .ok (.iushr, p + 1) := by
    unfold Jvm.ClassFile.Decoder.instr
    exact (dq_b (dq_u1 h (n := 124) rfl)).trans (rfl)
  rw [dq_d e, Nat.add_sub_cancel_left]
theorem dq_125 {c : ByteArray} {p : Nat} (h : dq_at c p 125) : decode c p = .ok (.lushr, 1) := by
  have e : Jvm.ClassFile.Decoder.instr p c p = .ok (.lushr, p + 1) := by
    unfold Jvm.ClassFile.Decoder.instr
    exact (dq_b (dq_u1 h (n := 125) rfl)).trans (rfl)
  rw [dq_d e, Nat.add_sub_cancel_left]
theorem dq_126 {c : ByteArray} {p : Nat} (h : dq_at c p 126) : decode c p = .ok (.iand, 1) := by
  have e : Jvm.ClassFile.Decoder.instr p c p = .ok (.iand, p + 1) := by
    unfold Jvm.ClassFile.Decoder.instr
    exact (dq_b (dq_u1 h (n := 126) rfl)).trans (rfl)
  rw [dq_d e, Nat.add_sub_cancel_left]
theorem dq_127 {c : ByteArray} {p : Nat} (h : dq_at c p 127) : decode c p = .ok (.land, 1) := by
  have e : Jvm.ClassFile.Decoder.instr p c p = .ok (.land, p + 1) := by
    unfold Jvm.ClassFile.Decoder.instr
    exact (dq_b (dq_u1 h (n := 127) rfl)).trans (rfl)
  rw [dq_d e, Nat.add_sub_cancel_left]
theorem dq_128 {c : ByteArray} {p : Nat} (h : dq_at c p 128) : decode c p = .ok (.ior, 1) := by
  have e : Jvm.ClassFile.Decoder.instr p c p = .ok (.ior, p + 1) := by
    unfold Jvm.ClassFile.Decoder.instr
    exact (dq_b (dq_u1 h (n := 128) rfl)).trans (rfl)
  rw [dq_d e, Nat.add_sub_cancel_left]
theorem dq_129 {c : ByteArray} {p : Nat} (h : dq_at c p 129) : decode c p = .ok (.lor, 1) := by
  have e : Jvm.ClassFile.Decoder.instr p c p = .ok (.lor, p + 1) := by
    unfold Jvm.ClassFile.Decoder.instr
    exact (dq_b (dq_u1 h (n := 129) rfl)).trans (rfl)
  rw [dq_d e, Nat.add_sub_cancel_left]
theorem dq_130 {c : ByteArray} {p : Nat} (h : dq_at c p 130) : decode c p = .ok (.ixor, 1) := by
  have e : Jvm.ClassFile.Decoder.instr p c p = .ok (.ixor, p + 1) := by
    unfold Jvm.ClassFile.Decoder.instr
    exact (dq_b (dq_u1 h (n := 130) rfl)).trans (rfl)
  rw [dq_d e, Nat.add_sub_cancel_left]
theorem dq_132 {c : ByteArray} {p : Nat} (h : dq_at c p 132) {b0 : UInt8} {v0 : Nat} (h0 : dq_at c (p + 1) b0) (e0 : b0.toNat = v0) {b1 : UInt8} {v1 : Int} (h1 : dq_at c (p + 2) b1) (e1 : Jvm.ClassFile.Reader.signed 8 b1.toNat = v1) : decode c p = .ok (.iinc v0 v1, 3) := by
  have e : Jvm.ClassFile.Decoder.instr p c p = .ok (.iinc v0 v1, p + 3) := by
    unfold Jvm.ClassFile.Decoder.instr
    exact (dq_b (dq_u1 h (n := 132) rfl)).trans ((dq_b (dq_u1 h0 e0)).trans ((dq_b (dq_s1 h1 e1)).trans (rfl)))
  rw [dq_d e, Nat.add_sub_cancel_left]
theorem dq_133 {c : ByteArray} {p : Nat} (h : dq_at c p 133) : decode c p = .ok (.i2l, 1) := by
  have e : Jvm.ClassFile.Decoder.instr p c p = .ok (.i2l, p + 1) := by
    unfold Jvm.ClassFile.Decoder.instr
    exact (dq_b (dq_u1 h (n := 133) rfl)).trans (rfl)
  rw [dq_d e, Nat.add_sub_cancel_left]
theorem dq_148 {c : ByteArray} {p : Nat} (h : dq_at c p 148) : decode c p = .ok (.lcmp, 1) := by
  have e : Jvm.ClassFile.Decoder.instr p c p = .ok (.lcmp, p + 1) := by
    unfold Jvm.ClassFile.Decoder.instr
    exact (dq_b (dq_u1 h (n := 148) rfl)).trans (rfl)
  rw [dq_d e, Nat.add_sub_cancel_left]
theorem dq_153 {c : ByteArray} {p : Nat} (h : dq_at c p 153) {a0 b0 : UInt8} {v0 : Int} (h0 : dq_at c (p + 1) a0) (g0 : dq_at c (p + 2) b0) (e0 : Jvm.ClassFile.Reader.signed 16 (a0.toNat * 256 + b0.toNat) = v0) : decode c p = .ok (.ifCond .eq v0, 3) := by
  have e : Jvm.ClassFile.Decoder.instr p c p = .ok (.ifCond .eq v0, p + 3) := by
    unfold Jvm.ClassFile.Decoder.instr
    exact (dq_b (dq_u1 h (n := 153) rfl)).trans ((dq_b (dq_s2 h0 g0 e0)).trans (rfl))
  rw [dq_d e, Nat.add_sub_cancel_left]
theorem dq_154 {c : ByteArray} {p : Nat} (h : dq_at c p 154) {a0 b0 : UInt8} {v0 : Int} (h0 : dq_at c (p + 1) a0) (g0 : dq_at c (p + 2) b0) (e0 : Jvm.ClassFile.Reader.signed 16 (a0.toNat * 256 + b0.toNat) = v0) : decode c p = .ok (.ifCond .ne v0, 3) := by
  have e : Jvm.ClassFile.Decoder.instr p c p = .ok (.ifCond .ne v0, p + 3) := by
    unfold Jvm.ClassFile.Decoder.instr
    exact (dq_b (dq_u1 h (n := 154) rfl)).trans ((dq_b (dq_s2 h0 g0 e0)).trans (rfl))
  rw [dq_d e, Nat.add_sub_cancel_left]
theorem dq_155 {c : ByteArray} {p : Nat} (h : dq_at c p 155) {a0 b0 : UInt8} {v0 : Int} (h0 : dq_at c (p + 1) a0) (g0 : dq_at c (p + 2) b0) (e0 : Jvm.ClassFile.Reader.signed 16 (a0.toNat * 256 + b0.toNat) = v0) : decode c p = .ok (.ifCond .lt v0, 3) := by
  have e : Jvm.ClassFile.Decoder.instr p c p = .ok (.ifCond .lt v0, p + 3) := by
    unfold Jvm.ClassFile.Decoder.instr
    exact (dq_b (dq_u1 h (n := 155) rfl)).trans ((dq_b (dq_s2 h0 g0 e0)).trans (rfl))
  rw [dq_d e, Nat.add_sub_cancel_left]
theorem dq_156 {c : ByteArray} {p : Nat} (h : dq_at c p 156) {a0 b0 : UInt8} {v0 : Int} (h0 : dq_at c (p + 1) a0) (g0 : dq_at c (p + 2) b0) (e0 : Jvm.ClassFile.Reader.signed 16 (a0.toNat * 256 + b0.toNat) = v0) : decode c p = .ok (.ifCond .ge v0, 3) := by
  have e : Jvm.ClassFile.Decoder.instr p c p = .ok (.ifCond .ge v0, p + 3) := by
    unfold Jvm.ClassFile.Decoder.instr
    exact (dq_b (dq_u1 h (n := 156) rfl)).trans ((dq_b (dq_s2 h0 g0 e0)).trans (rfl))
  rw [dq_d e, Nat.add_sub_cancel_left]
theorem dq_157 {c : ByteArray} {p : Nat} (h : dq_at c p 157) {a0 b0 : UInt8} {v0 : Int} (h0 : dq_at c (p + 1) a0) (g0 : dq_at c (p + 2) b0) (e0 : Jvm.ClassFile.Reader.signed 16 (a0.toNat * 256 + b0.toNat) = v0) : decode c p = .ok (.ifCond .gt v0, 3) := by
  have e : Jvm.ClassFile.Decoder.instr p c p = .ok (.ifCond .gt v0, p + 3) := by
    unfold Jvm.ClassFile.Decoder.instr
    exact (dq_b (dq_u1 h (n := 157) rfl)).trans ((dq_b (dq_s2 h0 g0 e0)).trans (rfl))
  rw [dq_d e, Nat.add_sub_cancel_left]
theorem dq_158 {c : ByteArray} {p : Nat} (h : dq_at c p 158) {a0 b0 : UInt8} {v0 : Int} (h0 : dq_at c (p + 1) a0) (g0 : dq_at c (p + 2) b0) (e0 : Jvm.ClassFile.Reader.signed 16 (a0.toNat * 256 + b0.toNat) = v0) : decode c p = .ok (.ifCond .le v0, 3) := by
  have e : Jvm.ClassFile.Decoder.instr p c p = .ok (.ifCond .le v0, p + 3) := by
    unfold Jvm.ClassFile.Decoder.instr
    exact (dq_b (dq_u1 h (n := 158) rfl)).trans ((dq_b (dq_s2 h0 g0 e0)).trans (rfl))
  rw [dq_d e, Nat.add_sub_cancel_left]
theorem dq_159 {c : ByteArray} {p : Nat} (h : dq_at c p 159) {a0 b0 : UInt8} {v0 : Int} (h0 : dq_at c (p + 1) a0) (g0 : dq_at c (p + 2) b0) (e0 : Jvm.ClassFile.Reader.signed 16 (a0.toNat * 256 + b0.toNat) = v0) : decode c p = .ok (.if_icmp .eq v0, 3) := by
  have e : Jvm.ClassFile.Decoder.instr p c p = .ok (.if_icmp .eq v0, p + 3) := by
    unfold Jvm.ClassFile.Decoder.instr
    exact (dq_b (dq_u1 h (n := 159) rfl)).trans ((dq_b (dq_s2 h0 g0 e0)).trans (rfl))
  rw [dq_d e, Nat.add_sub_cancel_left]
theorem dq_160 {c : ByteArray} {p : Nat} (h : dq_at c p 160) {a0 b0 : UInt8} {v0 : Int} (h0 : dq_at c (p + 1) a0) (g0 : dq_at c (p + 2) b0) (e0 : Jvm.ClassFile.Reader.signed 16 (a0.toNat * 256 + b0.toNat) = v0) : decode c p = .ok (.if_icmp .ne v0, 3) := by
  have e : Jvm.ClassFile.Decoder.instr p c p = .ok (.if_icmp .ne v0, p + 3) := by
    unfold Jvm.ClassFile.Decoder.instr
    exact (dq_b (dq_u1 h (n := 160) rfl)).trans ((dq_b (dq_s2 h0 g0 e0)).trans (rfl))
  rw [dq_d e, Nat.add_sub_cancel_left]
theorem dq_161 {c : ByteArray} {p : Nat} (h : dq_at c p 161) {a0 b0 : UInt8} {v0 : Int} (h0 : dq_at c (p + 1) a0) (g0 : dq_at c (p + 2) b0) (e0 : Jvm.ClassFile.Reader.signed 16 (a0.toNat * 256 + b0.toNat) = v0) : decode c p = .ok (.if_icmp .lt v0, 3) := by
  have e : Jvm.ClassFile.Decoder.instr p c p = .ok (.if_icmp .lt v0, p + 3) := by
    unfold Jvm.ClassFile.Decoder.instr
    exact (dq_b (dq_u1 h (n := 161) rfl)).trans ((dq_b (dq_s2 h0 g0 e0)).trans (rfl))
  rw [dq_d e, Nat.add_sub_cancel_left]
theorem dq_162 {c : ByteArray} {p : Nat} (h : dq_at c p 162) {a0 b0 : UInt8} {v0 : Int} (h0 : dq_at c (p + 1) a0) (g0 : dq_at c (p + 2) b0) (e0 : Jvm.ClassFile.Reader.signed 16 (a0.toNat * 256 + b0.toNat) = v0) : decode c p = .ok (.if_icmp .ge v0, 3) := by
  have e : Jvm.ClassFile.Decoder.instr p c p = .ok (.if_icmp .ge v0, p + 3) := by
    unfold Jvm.ClassFile.Decoder.instr
    exact (dq_b (dq_u1 h (n := 162) rfl)).trans ((dq_b (dq_s2 h0 g0 e0)).trans (rfl))
  rw [dq_d e, Nat.add_sub_cancel_left]
theorem dq_163 {c : ByteArray} {p : Nat} (h : dq_at c p 163) {a0 b0 : UInt8} {v0 : Int} (h0 : dq_at c (p + 1) a0) (g0 : dq_at c (p + 2) b0) (e0 : Jvm.ClassFile.Reader.signed 16 (a0.toNat * 256 + b0.toNat) = v0) : decode c p = .ok (.if_icmp .gt v0, 3) := by
  have e : Jvm.ClassFile.Decoder.instr p c p = .ok (.if_icmp .gt v0, p + 3) := by
    unfold Jvm.ClassFile.Decoder.instr
    exact (dq_b (dq_u1 h (n := 163) rfl)).trans ((dq_b (dq_s2 h0 g0 e0)).trans (rfl))
  rw [dq_d e, Nat.add_sub_cancel_left]
theorem dq_164 {c : ByteArray} {p : Nat} (h : dq_at c p 164) {a0 b0 : UInt8} {v0 : Int} (h0 : dq_at c (p + 1) a0) (g0 : dq_at c (p + 2) b0) (e0 : Jvm.ClassFile.Reader.signed 16 (a0.toNat * 256 + b0.toNat) = v0) : decode c p = .ok (.if_icmp .le v0, 3) := by
  have e : Jvm.ClassFile.Decoder.instr p c p = .ok (.if_icmp .le v0, p + 3) := by
    unfold Jvm.ClassFile.Decoder.instr
    exact (dq_b (dq_u1 h (n := 164) rfl)).trans ((dq_b (dq_s2 h0 g0 e0)).trans (rfl))
  rw [dq_d e, Nat.add_sub_cancel_left]
theorem dq_167 {c : ByteArray} {p : Nat} (h : dq_at c p 167) {a0 b0 : UInt8} {v0 : Int} (h0 : dq_at c (p + 1) a0) (g0 : dq_at c (p + 2) b0) (e0 : Jvm.ClassFile.Reader.signed 16 (a0.toNat * 256 + b0.toNat) = v0) : decode c p = .ok (.goto v0, 3) := by
  have e : Jvm.ClassFile.Decoder.instr p c p = .ok (.goto v0, p + 3) := by
    unfold Jvm.ClassFile.Decoder.instr
    exact (dq_b (dq_u1 h (n := 167) rfl)).trans ((dq_b (dq_s2 h0 g0 e0)).trans (rfl))
  rw [dq_d e, Nat.add_sub_cancel_left]
theorem dq_172 {c : ByteArray} {p : Nat} (h : dq_at c p 172) : decode c p = .ok (.ireturn, 1) := by
  have e : Jvm.ClassFile.Decoder.instr p c p = .ok (.ireturn, p + 1) := by
    unfold Jvm.ClassFile.Decoder.instr
    exact (dq_b (dq_u1 h (n := 172) rfl)).trans (rfl)
  rw [dq_d e, Nat.add_sub_cancel_left]
theorem dq_173 {c : ByteArray} {p : Nat} (h : dq_at c p 173) : decode c p = .ok (.lreturn, 1) := by
  have e : Jvm.ClassFile.Decoder.instr p c p = .ok (.lreturn, p + 1) := by
    unfold Jvm.ClassFile.Decoder.instr
    exact (dq_b (dq_u1 h (n := 173) rfl)).trans (rfl)
  rw [dq_d e, Nat.add_sub_cancel_left]
theorem dq_177 {c : ByteArray} {p : Nat} (h : dq_at c p 177) : decode c p = .ok (.return_, 1) := by
  have e : Jvm.ClassFile.Decoder.instr p c p = .ok (.return_, p + 1) := by
    unfold Jvm.ClassFile.Decoder.instr
    exact (dq_b (dq_u1 h (n := 177) rfl)).trans (rfl)
  rw [dq_d e, Nat.add_sub_cancel_left]
theorem dq_180 {c : ByteArray} {p : Nat} (h : dq_at c p 180) {a0 b0 : UInt8} {v0 : Nat} (h0 : dq_at c (p + 1) a0) (g0 : dq_at c (p + 2) b0) (e0 : a0.toNat * 256 + b0.toNat = v0) : decode c p = .ok (.getfield v0, 3) := by
  have e : Jvm.ClassFile.Decoder.instr p c p = .ok (.getfield v0, p + 3) := by
    unfold Jvm.ClassFile.Decoder.instr
    exact (dq_b (dq_u1 h (n := 180) rfl)).trans ((dq_b (dq_u2 h0 g0 e0)).trans (rfl))
  rw [dq_d e, Nat.add_sub_cancel_left]
theorem dq_181 {c : ByteArray} {p : Nat} (h : dq_at c p 181) {a0 b0 : UInt8} {v0 : Nat} (h0 : dq_at c (p + 1) a0) (g0 : dq_at c (p + 2) b0) (e0 : a0.toNat * 256 + b0.toNat = v0) : decode c p = .ok (.putfield v0, 3) := by
  have e : Jvm.ClassFile.Decoder.instr p c p = .ok (.putfield v0, p + 3) := by
    unfold Jvm.ClassFile.Decoder.instr
    exact (dq_b (dq_u1 h (n := 181) rfl)).trans ((dq_b (dq_u2 h0 g0 e0)).trans (rfl))
  rw [dq_d e, Nat.add_sub_cancel_left]
theorem dq_182 {c : ByteArray} {p : Nat} (h : dq_at c p 182) {a0 b0 : UInt8} {v0 : Nat} (h0 : dq_at c (p + 1) a0) (g0 : dq_at c (p + 2) b0) (e0 : a0.toNat * 256 + b0.toNat = v0) : decode c p = .ok (.invokevirtual v0, 3) := by
  have e : Jvm.ClassFile.Decoder.instr p c p = .ok (.invokevirtual v0, p + 3) := by
    unfold Jvm.ClassFile.Decoder.instr
    exact (dq_b (dq_u1 h (n := 182) rfl)).trans ((dq_b (dq_u2 h0 g0 e0)).trans (rfl))
  rw [dq_d e, Nat.add_sub_cancel_left]
theorem dq_183 {c : ByteArray} {p : Nat} (h : dq_at c p 183) {a0 b0 : UInt8} {v0 : Nat} (h0 : dq_at c (p + 1) a0) (g0 : dq_at c (p + 2) b0) (e0 : a0.toNat * 256 + b0.toNat = v0) : decode c p = .ok (.invokespecial v0, 3) := by
  have e : Jvm.ClassFile.Decoder.instr p c p = .ok (.invokespecial v0, p + 3) := by
    unfold Jvm.ClassFile.Decoder.instr
    exact (dq_b (dq_u1 h (n := 183) rfl)).trans ((dq_b (dq_u2 h0 g0 e0)).trans (rfl))
  rw [dq_d e, Nat.add_sub_cancel_left]
theorem dq_184 {c : ByteArray} {p : Nat} (h : dq_at c p 184) {a0 b0 : UInt8} {v0 : Nat} (h0 : dq_at c (p + 1) a0) (g0 : dq_at c (p + 2) b0) (e0 : a0.toNat * 256 + b0.toNat = v0) : decode c p = .ok (.invokestatic v0, 3) := by
  have e : Jvm.ClassFile.Decoder.instr p c p = .ok (.invokestatic v0, p + 3) := by
    unfold Jvm.ClassFile.Decoder.instr
    exact (dq_b (dq_u1 h (n := 184) rfl)).trans ((dq_b (dq_u2 h0 g0 e0)).trans (rfl))
  rw [dq_d e, Nat.add_sub_cancel_left]
theorem dq_187 {c : ByteArray} {p : Nat} (h : dq_at c p 187) {a0 b0 : UInt8} {v0 : Nat} (h0 : dq_at c (p + 1) a0) (g0 : dq_at c (p + 2) b0) (e0 : a0.toNat * 256 + b0.toNat = v0) : decode c p = .ok (.new v0, 3) := by
  have e : Jvm.ClassFile.Decoder.instr p c p = .ok (.new v0, p + 3) := by
    unfold Jvm.ClassFile.Decoder.instr
    exact (dq_b (dq_u1 h (n := 187) rfl)).trans ((dq_b (dq_u2 h0 g0 e0)).trans (rfl))
  rw [dq_d e, Nat.add_sub_cancel_left]
theorem dq_189 {c : ByteArray} {p : Nat} (h : dq_at c p 189) {a0 b0 : UInt8} {v0 : Nat} (h0 : dq_at c (p + 1) a0) (g0 : dq_at c (p + 2) b0) (e0 : a0.toNat * 256 + b0.toNat = v0) : decode c p = .ok (.anewarray v0, 3) := by
  have e : Jvm.ClassFile.Decoder.instr p c p = .ok (.anewarray v0, p + 3) := by
    unfold Jvm.ClassFile.Decoder.instr
    exact (dq_b (dq_u1 h (n := 189) rfl)).trans ((dq_b (dq_u2 h0 g0 e0)).trans (rfl))
  rw [dq_d e, Nat.add_sub_cancel_left]
theorem dq_190 {c : ByteArray} {p : Nat} (h : dq_at c p 190) : decode c p = .ok (.arraylength, 1) := by
  have e : Jvm.ClassFile.Decoder.instr p c p = .ok (.arraylength, p + 1) := by
    unfold Jvm.ClassFile.Decoder.instr
    exact (dq_b (dq_u1 h (n := 190) rfl)).trans (rfl)
  rw [dq_d e, Nat.add_sub_cancel_left]
