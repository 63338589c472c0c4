/-! the two systems as they are made: which cell is which place, counted from the law's own start -/
def jofl : List Nat := [63, 127, 65, 66, 67, 70, 71, 72, 73, 191, 129, 130, 131, 134, 135, 136, 137, 255, 193, 194, 195, 198, 199, 200, 201, 831, 768, 319, 257, 258, 259, 262, 263, 264, 265, 383, 321, 322, 323, 326, 327, 328, 329, 447, 385, 386, 387, 390, 391, 392, 393, 511, 449, 450, 451, 454, 455, 456, 457, 575, 513, 514, 515, 518, 519, 520, 521, 639, 577, 578, 579, 582, 583, 584, 585, 703, 641, 642, 643, 646, 647, 648, 649, 767, 705, 706, 707, 710, 711, 712, 713, 895, 832, 959, 896, 1023, 960, 8, 10, 1087, 1025, 1026, 1027, 1028, 1030, 1031, 1032, 1033, 1036, 1037, 1042, 1043, 1044, 1045, 1046, 1051, 1052, 1054, 1055, 1057, 1058, 1059, 1061]
def jof (q : Nat) : Nat := match q with
  | 8 => 97
  | 10 => 98
  | 63 => 0
  | 65 => 2
  | 66 => 3
  | 67 => 4
  | 70 => 5
  | 71 => 6
  | 72 => 7
  | 73 => 8
  | 127 => 1
  | 129 => 10
  | 130 => 11
  | 131 => 12
  | 134 => 13
  | 135 => 14
  | 136 => 15
  | 137 => 16
  | 191 => 9
  | 193 => 18
  | 194 => 19
  | 195 => 20
  | 198 => 21
  | 199 => 22
  | 200 => 23
  | 201 => 24
  | 255 => 17
  | 257 => 28
  | 258 => 29
  | 259 => 30
  | 262 => 31
  | 263 => 32
  | 264 => 33
  | 265 => 34
  | 319 => 27
  | 321 => 36
  | 322 => 37
  | 323 => 38
  | 326 => 39
  | 327 => 40
  | 328 => 41
  | 329 => 42
  | 383 => 35
  | 385 => 44
  | 386 => 45
  | 387 => 46
  | 390 => 47
  | 391 => 48
  | 392 => 49
  | 393 => 50
  | 447 => 43
  | 449 => 52
  | 450 => 53
  | 451 => 54
  | 454 => 55
  | 455 => 56
  | 456 => 57
  | 457 => 58
  | 511 => 51
  | 513 => 60
  | 514 => 61
  | 515 => 62
  | 518 => 63
  | 519 => 64
  | 520 => 65
  | 521 => 66
  | 575 => 59
  | 577 => 68
  | 578 => 69
  | 579 => 70
  | 582 => 71
  | 583 => 72
  | 584 => 73
  | 585 => 74
  | 639 => 67
  | 641 => 76
  | 642 => 77
  | 643 => 78
  | 646 => 79
  | 647 => 80
  | 648 => 81
  | 649 => 82
  | 703 => 75
  | 705 => 84
  | 706 => 85
  | 707 => 86
  | 710 => 87
  | 711 => 88
  | 712 => 89
  | 713 => 90
  | 767 => 83
  | 768 => 26
  | 831 => 25
  | 832 => 92
  | 895 => 91
  | 896 => 94
  | 959 => 93
  | 960 => 96
  | 1023 => 95
  | 1025 => 100
  | 1026 => 101
  | 1027 => 102
  | 1028 => 103
  | 1030 => 104
  | 1031 => 105
  | 1032 => 106
  | 1033 => 107
  | 1036 => 108
  | 1037 => 109
  | 1042 => 110
  | 1043 => 111
  | 1044 => 112
  | 1045 => 113
  | 1046 => 114
  | 1051 => 115
  | 1052 => 116
  | 1054 => 117
  | 1055 => 118
  | 1057 => 119
  | 1058 => 120
  | 1059 => 121
  | 1061 => 122
  | 1087 => 99
  | _ => 0
theorem jof_ok : ∀ q ∈ jofl, jofl[jof q]? = some q := by decide +kernel
theorem jvl_in : ∀ q, jvl q → q ∈ jofl := by
  have h : ∀ o, o < 17 → ∀ k, k < 64 → (k = 63 ∨ jal (jcls o) k ≠ 0 ∨ (o = 12 ∧ k = 0)) → (64 * o + k) ∈ jofl := by decide +kernel
  rintro q ⟨o, k, h1, h2, rfl, h3⟩
  exact h o h1 k h2 h3
def jXX (D : va_G) (cI cR : ClassId) (z : Nat) : jX := (D, cI, cR, fun q => z + jof q)
theorem jst_start (D : va_G) (cI cR : ClassId) (z : Nat) : jst (jXX D cI cR z) (fun q => z ≤ q) := fun q hq => ⟨Nat.le_add_right z _, fun r hr h => by
  have e : jof q = jof r := by have : z + jof q = z + jof r := h; omega
  have h1 := jof_ok q (jvl_in q hq)
  have h2 := jof_ok r (jvl_in r hr)
  rw [e, h2] at h1
  exact (Option.some.inj h1).symm⟩
/-- the memory at the start: nothing; nothing is owed in the class's own Worlds (-1) -/
def jM0 : jm := fun o k _ => if 1 ≤ o ∧ o ≤ 11 ∧ k = 9 then -1 else 0
def jCS (X : jX) (n : Nat) : List va_E := [.inr (5, [.ref (n + 1), .ref (n + 9), .ref (n + 17), .int 0, .ref (n + 25), .ref (n + 91), .ref (n + 93), .ref (n + 95), .ref (n + 97), .int 0, .ref (n + 98)]), jwo (n + 2), .inl (X.2.1, 8, .inl (fun _ => 0)), .inl (X.2.1, 8, .inl (fun _ => 0)), .inl (X.2.1, 8, .inl (fun _ => 0)), .inl (X.2.1, 6, .inl (fun _ => 0)), .inl (X.2.1, 6, .inl (fun _ => 0)), .inl (X.2.1, 6, .inl (fun _ => 0)), .inl (X.2.1, 48, .inl (fun _ => (-1))), jwo (n + 10), .inl (X.2.1, 8, .inl (fun _ => 0)), .inl (X.2.1, 8, .inl (fun _ => 0)), .inl (X.2.1, 8, .inl (fun _ => 0)), .inl (X.2.1, 6, .inl (fun _ => 0)), .inl (X.2.1, 6, .inl (fun _ => 0)), .inl (X.2.1, 6, .inl (fun _ => 0)), .inl (X.2.1, 48, .inl (fun _ => (-1))), jwo (n + 18), .inl (X.2.1, 8, .inl (fun _ => 0)), .inl (X.2.1, 8, .inl (fun _ => 0)), .inl (X.2.1, 8, .inl (fun _ => 0)), .inl (X.2.1, 6, .inl (fun _ => 0)), .inl (X.2.1, 6, .inl (fun _ => 0)), .inl (X.2.1, 6, .inl (fun _ => 0)), .inl (X.2.1, 48, .inl (fun _ => (-1))), .inr (0, [.ref (n + 26), .int 0, .int 0]), .inl (X.2.2.1, 8, .inr (.inr (.inr (.inr (va_up (va_up (va_up (va_up (va_up (va_up (va_up (va_up (fun _ => none) (Int32.toNatClampNeg 0) (some (n + 27))) (Int32.toNatClampNeg 1) (some (n + 35))) (Int32.toNatClampNeg 2) (some (n + 43))) (Int32.toNatClampNeg 3) (some (n + 51))) (Int32.toNatClampNeg 4) (some (n + 59))) (Int32.toNatClampNeg 5) (some (n + 67))) (Int32.toNatClampNeg 6) (some (n + 75))) (Int32.toNatClampNeg 7) (some (n + 83))))))), jwo (n + 28), .inl (X.2.1, 8, .inl (fun _ => 0)), .inl (X.2.1, 8, .inl (fun _ => 0)), .inl (X.2.1, 8, .inl (fun _ => 0)), .inl (X.2.1, 6, .inl (fun _ => 0)), .inl (X.2.1, 6, .inl (fun _ => 0)), .inl (X.2.1, 6, .inl (fun _ => 0)), .inl (X.2.1, 48, .inl (fun _ => (-1))), jwo (n + 36), .inl (X.2.1, 8, .inl (fun _ => 0)), .inl (X.2.1, 8, .inl (fun _ => 0)), .inl (X.2.1, 8, .inl (fun _ => 0)), .inl (X.2.1, 6, .inl (fun _ => 0)), .inl (X.2.1, 6, .inl (fun _ => 0)), .inl (X.2.1, 6, .inl (fun _ => 0)), .inl (X.2.1, 48, .inl (fun _ => (-1))), jwo (n + 44), .inl (X.2.1, 8, .inl (fun _ => 0)), .inl (X.2.1, 8, .inl (fun _ => 0)), .inl (X.2.1, 8, .inl (fun _ => 0)), .inl (X.2.1, 6, .inl (fun _ => 0)), .inl (X.2.1, 6, .inl (fun _ => 0)), .inl (X.2.1, 6, .inl (fun _ => 0)), .inl (X.2.1, 48, .inl (fun _ => (-1))), jwo (n + 52), .inl (X.2.1, 8, .inl (fun _ => 0)), .inl (X.2.1, 8, .inl (fun _ => 0)), .inl (X.2.1, 8, .inl (fun _ => 0)), .inl (X.2.1, 6, .inl (fun _ => 0)), .inl (X.2.1, 6, .inl (fun _ => 0)), .inl (X.2.1, 6, .inl (fun _ => 0)), .inl (X.2.1, 48, .inl (fun _ => (-1))), jwo (n + 60), .inl (X.2.1, 8, .inl (fun _ => 0)), .inl (X.2.1, 8, .inl (fun _ => 0)), .inl (X.2.1, 8, .inl (fun _ => 0)), .inl (X.2.1, 6, .inl (fun _ => 0)), .inl (X.2.1, 6, .inl (fun _ => 0)), .inl (X.2.1, 6, .inl (fun _ => 0)), .inl (X.2.1, 48, .inl (fun _ => (-1))), jwo (n + 68), .inl (X.2.1, 8, .inl (fun _ => 0)), .inl (X.2.1, 8, .inl (fun _ => 0)), .inl (X.2.1, 8, .inl (fun _ => 0)), .inl (X.2.1, 6, .inl (fun _ => 0)), .inl (X.2.1, 6, .inl (fun _ => 0)), .inl (X.2.1, 6, .inl (fun _ => 0)), .inl (X.2.1, 48, .inl (fun _ => (-1))), jwo (n + 76), .inl (X.2.1, 8, .inl (fun _ => 0)), .inl (X.2.1, 8, .inl (fun _ => 0)), .inl (X.2.1, 8, .inl (fun _ => 0)), .inl (X.2.1, 6, .inl (fun _ => 0)), .inl (X.2.1, 6, .inl (fun _ => 0)), .inl (X.2.1, 6, .inl (fun _ => 0)), .inl (X.2.1, 48, .inl (fun _ => (-1))), jwo (n + 84), .inl (X.2.1, 8, .inl (fun _ => 0)), .inl (X.2.1, 8, .inl (fun _ => 0)), .inl (X.2.1, 8, .inl (fun _ => 0)), .inl (X.2.1, 6, .inl (fun _ => 0)), .inl (X.2.1, 6, .inl (fun _ => 0)), .inl (X.2.1, 6, .inl (fun _ => 0)), .inl (X.2.1, 48, .inl (fun _ => (-1))), .inr (1, [.ref (n + 92), .int 0]), .inl (X.2.1, 96, .inl (fun _ => 0)), .inr (3, [.ref (n + 94), .int 0, .int 0]), .inl (X.2.1, 49, .inl (fun _ => 0)), .inr (2, [.ref (n + 96), .int 0]), .inl (X.2.1, 896, .inl (fun _ => 0)), .inl (X.2.1, 12, .inl (fun _ => 0)), .inl (X.2.1, 7, .inl (fun _ => 0)), .inr (6, [.int 0, .ref (n + 100), .ref (n + 101), .ref (n + 102), .ref (n + 103), .int 0, .ref (n + 104), .ref (n + 105), .ref (n + 106), .ref (n + 107), .int 0, .int 0, .ref (n + 108), .ref (n + 109), .int 0, .int 0, .int 0, .int 0, .ref (n + 110), .ref (n + 111), .ref (n + 112), .ref (n + 113), .ref (n + 114), .int 0, .int 0, .int 0, .null, .ref (n + 115), .ref (n + 116), .int 0, .ref (n + 117), .ref (n + 118), .int 0, .ref (n + 119), .ref (n + 120), .ref (n + 121), .int 0, .ref (n + 122), .int 0]), .inl (X.2.1, 8, .inl (fun _ => 0)), .inl (X.2.1, 8, .inl (fun _ => 0)), .inl (X.2.1, 8, .inl (fun _ => 0)), .inl (X.2.1, 8, .inl (fun _ => 0)), .inl (X.2.1, 6, .inl (fun _ => 0)), .inl (X.2.1, 6, .inl (fun _ => 0)), .inl (X.2.1, 6, .inl (fun _ => 0)), .inl (X.2.1, 42, .inl (fun _ => 0)), .inl (X.2.1, 7, .inl (fun _ => 0)), .inl (X.2.1, 96, .inl (fun _ => 0)), .inl (X.2.1, 49, .inl (fun _ => 0)), .inl (X.2.1, 49, .inl (fun _ => 0)), .inl (X.2.1, 147, .inl (fun _ => 0)), .inl (X.2.1, 91, .inl (fun _ => 0)), .inl (X.2.1, 91, .inl (fun _ => 0)), .inl (X.2.1, 728, .inl (fun _ => 0)), .inl (X.2.1, 91, .inl (fun _ => 0)), .inl (X.2.1, 6272, .inl (fun _ => 0)), .inl (X.2.1, 6272, .inl (fun _ => 0)), .inl (X.2.1, 1024, .inl (fun _ => 0)), .inl (X.2.1, 49, .inl (fun _ => 0)), .inl (X.2.1, 12, .inl (fun _ => 0)), .inl (X.2.1, 8, .inl (fun _ => 0))]
theorem jstart_obj {D : va_G} {cI cR : ClassId} {n : Nat} {cs : List va_E} {H : Heap} (j ci : Nat) {fs : List Value} {o : Nat} (hz : jz (jXX D cI cR n) n cs H) (hj : cs[j]? = some (.inr (ci, fs))) (hc : ci < 7) (ha : jof (64 * o + 63) = j) (hcls : jcls o = ci)
    (hv : ∀ k, k < (jC ci).2.2 → vp_V fs k = jfw (jXX D cI cR n) ci o k (jM0 o k 0)) : t_OB (jO (jXX D cI cR n) o) ((jXX D cI cR n).1.1 (jcls o)) (jC (jcls o)).2.2 ((jXX D cI cR n).1.2 (jcls o)) H (fun k => jfw (jXX D cI cR n) (jcls o) o k (jM0 o k 0)) := by
  subst ha; subst hcls
  obtain ⟨r, h1, h2⟩ := hz.2 _ _ hj
  have hr : r = jC (jcls o) := Option.some.inj (h1.symm.trans (jcl_at _ hc))
  subst hr
  exact h2.to hv
set_option maxRecDepth 100000 in
theorem jstart_objs {D : va_G} {cI cR : ClassId} {n : Nat} {H : Heap} (hz : jz (jXX D cI cR n) n (jCS (jXX D cI cR n) n) H) : ∀ o, o < 17 → t_OB (jO (jXX D cI cR n) o) ((jXX D cI cR n).1.1 (jcls o)) (jC (jcls o)).2.2 ((jXX D cI cR n).1.2 (jcls o)) H (fun k => jfw (jXX D cI cR n) (jcls o) o k (jM0 o k 0)) := by
  intro o ho
  match o, ho with
  | 0, _ =>
    refine jstart_obj 0 5 hz rfl (by decide) rfl rfl (fun k hk => ?_)
    match k, hk with
    | 0, _ => rfl
    | 1, _ => rfl
    | 2, _ => rfl
    | 3, _ => rfl
    | 4, _ => rfl
    | 5, _ => rfl
    | 6, _ => rfl
    | 7, _ => rfl
    | 8, _ => rfl
    | 9, _ => rfl
    | 10, _ => rfl
    | k + 11, h => exact absurd h (by show ¬ k + 11 < 11; omega)
  | 1, _ =>
    refine jstart_obj 1 4 hz rfl (by decide) rfl rfl (fun k hk => ?_)
    match k, hk with
    | 0, _ => rfl
    | 1, _ => rfl
    | 2, _ => rfl
    | 3, _ => rfl
    | 4, _ => rfl
    | 5, _ => rfl
    | 6, _ => rfl
    | 7, _ => rfl
    | 8, _ => rfl
    | 9, _ => rfl
    | 10, _ => rfl
    | k + 11, h => exact absurd h (by show ¬ k + 11 < 11; omega)
  | 2, _ =>
    refine jstart_obj 9 4 hz rfl (by decide) rfl rfl (fun k hk => ?_)
    match k, hk with
    | 0, _ => rfl
    | 1, _ => rfl
    | 2, _ => rfl
    | 3, _ => rfl
    | 4, _ => rfl
    | 5, _ => rfl
    | 6, _ => rfl
    | 7, _ => rfl
    | 8, _ => rfl
    | 9, _ => rfl
    | 10, _ => rfl
    | k + 11, h => exact absurd h (by show ¬ k + 11 < 11; omega)
  | 3, _ =>
    refine jstart_obj 17 4 hz rfl (by decide) rfl rfl (fun k hk => ?_)
    match k, hk with
    | 0, _ => rfl
    | 1, _ => rfl
    | 2, _ => rfl
    | 3, _ => rfl
    | 4, _ => rfl
    | 5, _ => rfl
    | 6, _ => rfl
    | 7, _ => rfl
    | 8, _ => rfl
    | 9, _ => rfl
    | 10, _ => rfl
    | k + 11, h => exact absurd h (by show ¬ k + 11 < 11; omega)
  | 4, _ =>
    refine jstart_obj 27 4 hz rfl (by decide) rfl rfl (fun k hk => ?_)
    match k, hk with
    | 0, _ => rfl
    | 1, _ => rfl
    | 2, _ => rfl
    | 3, _ => rfl
    | 4, _ => rfl
    | 5, _ => rfl
    | 6, _ => rfl
    | 7, _ => rfl
    | 8, _ => rfl
    | 9, _ => rfl
    | 10, _ => rfl
    | k + 11, h => exact absurd h (by show ¬ k + 11 < 11; omega)
  | 5, _ =>
    refine jstart_obj 35 4 hz rfl (by decide) rfl rfl (fun k hk => ?_)
    match k, hk with
    | 0, _ => rfl
    | 1, _ => rfl
    | 2, _ => rfl
    | 3, _ => rfl
    | 4, _ => rfl
    | 5, _ => rfl
    | 6, _ => rfl
    | 7, _ => rfl
    | 8, _ => rfl
    | 9, _ => rfl
    | 10, _ => rfl
    | k + 11, h => exact absurd h (by show ¬ k + 11 < 11; omega)
  | 6, _ =>
    refine jstart_obj 43 4 hz rfl (by decide) rfl rfl (fun k hk => ?_)
    match k, hk with
    | 0, _ => rfl
    | 1, _ => rfl
    | 2, _ => rfl
    | 3, _ => rfl
    | 4, _ => rfl
    | 5, _ => rfl
    | 6, _ => rfl
    | 7, _ => rfl
    | 8, _ => rfl
    | 9, _ => rfl
    | 10, _ => rfl
    | k + 11, h => exact absurd h (by show ¬ k + 11 < 11; omega)
  | 7, _ =>
    refine jstart_obj 51 4 hz rfl (by decide) rfl rfl (fun k hk => ?_)
    match k, hk with
    | 0, _ => rfl
    | 1, _ => rfl
    | 2, _ => rfl
    | 3, _ => rfl
    | 4, _ => rfl
    | 5, _ => rfl
    | 6, _ => rfl
    | 7, _ => rfl
    | 8, _ => rfl
    | 9, _ => rfl
    | 10, _ => rfl
    | k + 11, h => exact absurd h (by show ¬ k + 11 < 11; omega)
  | 8, _ =>
    refine jstart_obj 59 4 hz rfl (by decide) rfl rfl (fun k hk => ?_)
    match k, hk with
    | 0, _ => rfl
    | 1, _ => rfl
    | 2, _ => rfl
    | 3, _ => rfl
    | 4, _ => rfl
    | 5, _ => rfl
    | 6, _ => rfl
    | 7, _ => rfl
    | 8, _ => rfl
    | 9, _ => rfl
    | 10, _ => rfl
    | k + 11, h => exact absurd h (by show ¬ k + 11 < 11; omega)
  | 9, _ =>
    refine jstart_obj 67 4 hz rfl (by decide) rfl rfl (fun k hk => ?_)
    match k, hk with
    | 0, _ => rfl
    | 1, _ => rfl
    | 2, _ => rfl
    | 3, _ => rfl
    | 4, _ => rfl
    | 5, _ => rfl
    | 6, _ => rfl
    | 7, _ => rfl
    | 8, _ => rfl
    | 9, _ => rfl
    | 10, _ => rfl
    | k + 11, h => exact absurd h (by show ¬ k + 11 < 11; omega)
  | 10, _ =>
    refine jstart_obj 75 4 hz rfl (by decide) rfl rfl (fun k hk => ?_)
    match k, hk with
    | 0, _ => rfl
    | 1, _ => rfl
    | 2, _ => rfl
    | 3, _ => rfl
    | 4, _ => rfl
    | 5, _ => rfl
    | 6, _ => rfl
    | 7, _ => rfl
    | 8, _ => rfl
    | 9, _ => rfl
    | 10, _ => rfl
    | k + 11, h => exact absurd h (by show ¬ k + 11 < 11; omega)
  | 11, _ =>
    refine jstart_obj 83 4 hz rfl (by decide) rfl rfl (fun k hk => ?_)
    match k, hk with
    | 0, _ => rfl
    | 1, _ => rfl
    | 2, _ => rfl
    | 3, _ => rfl
    | 4, _ => rfl
    | 5, _ => rfl
    | 6, _ => rfl
    | 7, _ => rfl
    | 8, _ => rfl
    | 9, _ => rfl
    | 10, _ => rfl
    | k + 11, h => exact absurd h (by show ¬ k + 11 < 11; omega)
  | 12, _ =>
    refine jstart_obj 25 0 hz rfl (by decide) rfl rfl (fun k hk => ?_)
    match k, hk with
    | 0, _ => rfl
    | 1, _ => rfl
    | 2, _ => rfl
    | k + 3, h => exact absurd h (by show ¬ k + 3 < 3; omega)
  | 13, _ =>
    refine jstart_obj 91 1 hz rfl (by decide) rfl rfl (fun k hk => ?_)
    match k, hk with
    | 0, _ => rfl
    | 1, _ => rfl
    | k + 2, h => exact absurd h (by show ¬ k + 2 < 2; omega)
  | 14, _ =>
    refine jstart_obj 93 3 hz rfl (by decide) rfl rfl (fun k hk => ?_)
    match k, hk with
    | 0, _ => rfl
    | 1, _ => rfl
    | 2, _ => rfl
    | k + 3, h => exact absurd h (by show ¬ k + 3 < 3; omega)
  | 15, _ =>
    refine jstart_obj 95 2 hz rfl (by decide) rfl rfl (fun k hk => ?_)
    match k, hk with
    | 0, _ => rfl
    | 1, _ => rfl
    | k + 2, h => exact absurd h (by show ¬ k + 2 < 2; omega)
  | 16, _ =>
    refine jstart_obj 99 6 hz rfl (by decide) rfl rfl (fun k hk => ?_)
    match k, hk with
    | 0, _ => rfl
    | 1, _ => rfl
    | 2, _ => rfl
    | 3, _ => rfl
    | 4, _ => rfl
    | 5, _ => rfl
    | 6, _ => rfl
    | 7, _ => rfl
    | 8, _ => rfl
    | 9, _ => rfl
    | 10, _ => rfl
    | 11, _ => rfl
    | 12, _ => rfl
    | 13, _ => rfl
    | 14, _ => rfl
    | 15, _ => rfl
    | 16, _ => rfl
    | 17, _ => rfl
    | 18, _ => rfl
    | 19, _ => rfl
    | 20, _ => rfl
    | 21, _ => rfl
    | 22, _ => rfl
    | 23, _ => rfl
    | 24, _ => rfl
    | 25, _ => rfl
    | 26, _ => rfl
    | 27, _ => rfl
    | 28, _ => rfl
    | 29, _ => rfl
    | 30, _ => rfl
    | 31, _ => rfl
    | 32, _ => rfl
    | 33, _ => rfl
    | 34, _ => rfl
    | 35, _ => rfl
    | 36, _ => rfl
    | 37, _ => rfl
    | 38, _ => rfl
    | k + 39, h => exact absurd h (by show ¬ k + 39 < 39; omega)
  | o + 17, h => exact absurd h (by omega)
def jarl : List (Nat × Nat) := [(0, 8), (0, 10), (1, 1), (1, 2), (1, 3), (1, 6), (1, 7), (1, 8), (1, 9), (2, 1), (2, 2), (2, 3), (2, 6), (2, 7), (2, 8), (2, 9), (3, 1), (3, 2), (3, 3), (3, 6), (3, 7), (3, 8), (3, 9), (4, 1), (4, 2), (4, 3), (4, 6), (4, 7), (4, 8), (4, 9), (5, 1), (5, 2), (5, 3), (5, 6), (5, 7), (5, 8), (5, 9), (6, 1), (6, 2), (6, 3), (6, 6), (6, 7), (6, 8), (6, 9), (7, 1), (7, 2), (7, 3), (7, 6), (7, 7), (7, 8), (7, 9), (8, 1), (8, 2), (8, 3), (8, 6), (8, 7), (8, 8), (8, 9), (9, 1), (9, 2), (9, 3), (9, 6), (9, 7), (9, 8), (9, 9), (10, 1), (10, 2), (10, 3), (10, 6), (10, 7), (10, 8), (10, 9), (11, 1), (11, 2), (11, 3), (11, 6), (11, 7), (11, 8), (11, 9), (13, 0), (14, 0), (15, 0), (16, 1), (16, 2), (16, 3), (16, 4), (16, 6), (16, 7), (16, 8), (16, 9), (16, 12), (16, 13), (16, 18), (16, 19), (16, 20), (16, 21), (16, 22), (16, 27), (16, 28), (16, 30), (16, 31), (16, 33), (16, 34), (16, 35), (16, 37)]
theorem jarl_in0 : ∀ o, o < 17 → ∀ k, k < 39 → jal (jcls o) k = 0 ∨ jarl.any (fun q => q.1 == o && q.2 == k) = true := by decide +kernel
theorem jarl_in (o : Nat) (ho : o < 17) (k : Nat) (hk : k < 39) (h : jal (jcls o) k ≠ 0) : (o, k) ∈ jarl := by
  rcases jarl_in0 o ho k hk with q | q
  · exact absurd q h
  · obtain ⟨x, h1, h2⟩ := List.any_eq_true.mp q
    simp only [Bool.and_eq_true, beq_iff_eq] at h2
    obtain ⟨a, b⟩ := x
    obtain ⟨rfl, rfl⟩ := h2
    exact h1
set_option maxRecDepth 100000 in
theorem jstart_arrs {D : va_G} {cI cR : ClassId} {n : Nat} {H : Heap} (hz : jz (jXX D cI cR n) n (jCS (jXX D cI cR n) n) H) : ∀ q ∈ jarl, H[jA (jXX D cI cR n) q.1 q.2]? = some (vp_cell cI (jal (jcls q.1) q.2, .inl (jM0 q.1 q.2))) := by
  refine List.forall_mem_cons.mpr ⟨hz.2 97 _ rfl, ?_⟩
  refine List.forall_mem_cons.mpr ⟨hz.2 98 _ rfl, ?_⟩
  refine List.forall_mem_cons.mpr ⟨hz.2 2 _ rfl, ?_⟩
  refine List.forall_mem_cons.mpr ⟨hz.2 3 _ rfl, ?_⟩
  refine List.forall_mem_cons.mpr ⟨hz.2 4 _ rfl, ?_⟩
  refine List.forall_mem_cons.mpr ⟨hz.2 5 _ rfl, ?_⟩
  refine List.forall_mem_cons.mpr ⟨hz.2 6 _ rfl, ?_⟩
  refine List.forall_mem_cons.mpr ⟨hz.2 7 _ rfl, ?_⟩
  refine List.forall_mem_cons.mpr ⟨hz.2 8 _ rfl, ?_⟩
  refine List.forall_mem_cons.mpr ⟨hz.2 10 _ rfl, ?_⟩
  refine List.forall_mem_cons.mpr ⟨hz.2 11 _ rfl, ?_⟩
  refine List.forall_mem_cons.mpr ⟨hz.2 12 _ rfl, ?_⟩
  refine List.forall_mem_cons.mpr ⟨hz.2 13 _ rfl, ?_⟩
  refine List.forall_mem_cons.mpr ⟨hz.2 14 _ rfl, ?_⟩
  refine List.forall_mem_cons.mpr ⟨hz.2 15 _ rfl, ?_⟩
  refine List.forall_mem_cons.mpr ⟨hz.2 16 _ rfl, ?_⟩
  refine List.forall_mem_cons.mpr ⟨hz.2 18 _ rfl, ?_⟩
  refine List.forall_mem_cons.mpr ⟨hz.2 19 _ rfl, ?_⟩
  refine List.forall_mem_cons.mpr ⟨hz.2 20 _ rfl, ?_⟩
  refine List.forall_mem_cons.mpr ⟨hz.2 21 _ rfl, ?_⟩
  refine List.forall_mem_cons.mpr ⟨hz.2 22 _ rfl, ?_⟩
  refine List.forall_mem_cons.mpr ⟨hz.2 23 _ rfl, ?_⟩
  refine List.forall_mem_cons.mpr ⟨hz.2 24 _ rfl, ?_⟩
  refine List.forall_mem_cons.mpr ⟨hz.2 28 _ rfl, ?_⟩
  refine List.forall_mem_cons.mpr ⟨hz.2 29 _ rfl, ?_⟩
  refine List.forall_mem_cons.mpr ⟨hz.2 30 _ rfl, ?_⟩
  refine List.forall_mem_cons.mpr ⟨hz.2 31 _ rfl, ?_⟩
  refine List.forall_mem_cons.mpr ⟨hz.2 32 _ rfl, ?_⟩
  refine List.forall_mem_cons.mpr ⟨hz.2 33 _ rfl, ?_⟩
  refine List.forall_mem_cons.mpr ⟨hz.2 34 _ rfl, ?_⟩
  refine List.forall_mem_cons.mpr ⟨hz.2 36 _ rfl, ?_⟩
  refine List.forall_mem_cons.mpr ⟨hz.2 37 _ rfl, ?_⟩
  refine List.forall_mem_cons.mpr ⟨hz.2 38 _ rfl, ?_⟩
  refine List.forall_mem_cons.mpr ⟨hz.2 39 _ rfl, ?_⟩
  refine List.forall_mem_cons.mpr ⟨hz.2 40 _ rfl, ?_⟩
  refine List.forall_mem_cons.mpr ⟨hz.2 41 _ rfl, ?_⟩
  refine List.forall_mem_cons.mpr ⟨hz.2 42 _ rfl, ?_⟩
  refine List.forall_mem_cons.mpr ⟨hz.2 44 _ rfl, ?_⟩
  refine List.forall_mem_cons.mpr ⟨hz.2 45 _ rfl, ?_⟩
  refine List.forall_mem_cons.mpr ⟨hz.2 46 _ rfl, ?_⟩
  refine List.forall_mem_cons.mpr ⟨hz.2 47 _ rfl, ?_⟩
  refine List.forall_mem_cons.mpr ⟨hz.2 48 _ rfl, ?_⟩
  refine List.forall_mem_cons.mpr ⟨hz.2 49 _ rfl, ?_⟩
  refine List.forall_mem_cons.mpr ⟨hz.2 50 _ rfl, ?_⟩
  refine List.forall_mem_cons.mpr ⟨hz.2 52 _ rfl, ?_⟩
  refine List.forall_mem_cons.mpr ⟨hz.2 53 _ rfl, ?_⟩
  refine List.forall_mem_cons.mpr ⟨hz.2 54 _ rfl, ?_⟩
  refine List.forall_mem_cons.mpr ⟨hz.2 55 _ rfl, ?_⟩
  refine List.forall_mem_cons.mpr ⟨hz.2 56 _ rfl, ?_⟩
  refine List.forall_mem_cons.mpr ⟨hz.2 57 _ rfl, ?_⟩
  refine List.forall_mem_cons.mpr ⟨hz.2 58 _ rfl, ?_⟩
  refine List.forall_mem_cons.mpr ⟨hz.2 60 _ rfl, ?_⟩
  refine List.forall_mem_cons.mpr ⟨hz.2 61 _ rfl, ?_⟩
  refine List.forall_mem_cons.mpr ⟨hz.2 62 _ rfl, ?_⟩
  refine List.forall_mem_cons.mpr ⟨hz.2 63 _ rfl, ?_⟩
  refine List.forall_mem_cons.mpr ⟨hz.2 64 _ rfl, ?_⟩
  refine List.forall_mem_cons.mpr ⟨hz.2 65 _ rfl, ?_⟩
  refine List.forall_mem_cons.mpr ⟨hz.2 66 _ rfl, ?_⟩
  refine List.forall_mem_cons.mpr ⟨hz.2 68 _ rfl, ?_⟩
  refine List.forall_mem_cons.mpr ⟨hz.2 69 _ rfl, ?_⟩
  refine List.forall_mem_cons.mpr ⟨hz.2 70 _ rfl, ?_⟩
  refine List.forall_mem_cons.mpr ⟨hz.2 71 _ rfl, ?_⟩
  refine List.forall_mem_cons.mpr ⟨hz.2 72 _ rfl, ?_⟩
  refine List.forall_mem_cons.mpr ⟨hz.2 73 _ rfl, ?_⟩
  refine List.forall_mem_cons.mpr ⟨hz.2 74 _ rfl, ?_⟩
  refine List.forall_mem_cons.mpr ⟨hz.2 76 _ rfl, ?_⟩
  refine List.forall_mem_cons.mpr ⟨hz.2 77 _ rfl, ?_⟩
  refine List.forall_mem_cons.mpr ⟨hz.2 78 _ rfl, ?_⟩
  refine List.forall_mem_cons.mpr ⟨hz.2 79 _ rfl, ?_⟩
  refine List.forall_mem_cons.mpr ⟨hz.2 80 _ rfl, ?_⟩
  refine List.forall_mem_cons.mpr ⟨hz.2 81 _ rfl, ?_⟩
  refine List.forall_mem_cons.mpr ⟨hz.2 82 _ rfl, ?_⟩
  refine List.forall_mem_cons.mpr ⟨hz.2 84 _ rfl, ?_⟩
  refine List.forall_mem_cons.mpr ⟨hz.2 85 _ rfl, ?_⟩
  refine List.forall_mem_cons.mpr ⟨hz.2 86 _ rfl, ?_⟩
  refine List.forall_mem_cons.mpr ⟨hz.2 87 _ rfl, ?_⟩
  refine List.forall_mem_cons.mpr ⟨hz.2 88 _ rfl, ?_⟩
  refine List.forall_mem_cons.mpr ⟨hz.2 89 _ rfl, ?_⟩
  refine List.forall_mem_cons.mpr ⟨hz.2 90 _ rfl, ?_⟩
  refine List.forall_mem_cons.mpr ⟨hz.2 92 _ rfl, ?_⟩
  refine List.forall_mem_cons.mpr ⟨hz.2 94 _ rfl, ?_⟩
  refine List.forall_mem_cons.mpr ⟨hz.2 96 _ rfl, ?_⟩
  refine List.forall_mem_cons.mpr ⟨hz.2 100 _ rfl, ?_⟩
  refine List.forall_mem_cons.mpr ⟨hz.2 101 _ rfl, ?_⟩
  refine List.forall_mem_cons.mpr ⟨hz.2 102 _ rfl, ?_⟩
  refine List.forall_mem_cons.mpr ⟨hz.2 103 _ rfl, ?_⟩
  refine List.forall_mem_cons.mpr ⟨hz.2 104 _ rfl, ?_⟩
  refine List.forall_mem_cons.mpr ⟨hz.2 105 _ rfl, ?_⟩
  refine List.forall_mem_cons.mpr ⟨hz.2 106 _ rfl, ?_⟩
  refine List.forall_mem_cons.mpr ⟨hz.2 107 _ rfl, ?_⟩
  refine List.forall_mem_cons.mpr ⟨hz.2 108 _ rfl, ?_⟩
  refine List.forall_mem_cons.mpr ⟨hz.2 109 _ rfl, ?_⟩
  refine List.forall_mem_cons.mpr ⟨hz.2 110 _ rfl, ?_⟩
  refine List.forall_mem_cons.mpr ⟨hz.2 111 _ rfl, ?_⟩
  refine List.forall_mem_cons.mpr ⟨hz.2 112 _ rfl, ?_⟩
  refine List.forall_mem_cons.mpr ⟨hz.2 113 _ rfl, ?_⟩
  refine List.forall_mem_cons.mpr ⟨hz.2 114 _ rfl, ?_⟩
  refine List.forall_mem_cons.mpr ⟨hz.2 115 _ rfl, ?_⟩
  refine List.forall_mem_cons.mpr ⟨hz.2 116 _ rfl, ?_⟩
  refine List.forall_mem_cons.mpr ⟨hz.2 117 _ rfl, ?_⟩
  refine List.forall_mem_cons.mpr ⟨hz.2 118 _ rfl, ?_⟩
  refine List.forall_mem_cons.mpr ⟨hz.2 119 _ rfl, ?_⟩
  refine List.forall_mem_cons.mpr ⟨hz.2 120 _ rfl, ?_⟩
  refine List.forall_mem_cons.mpr ⟨hz.2 121 _ rfl, ?_⟩
  refine List.forall_mem_cons.mpr ⟨hz.2 122 _ rfl, ?_⟩
  exact fun _ h => absurd h List.not_mem_nil
set_option maxRecDepth 100000 in
theorem jrp_start {D : va_G} {cI cR : ClassId} {n : Nat} {H : Heap} (hz : jz (jXX D cI cR n) n (jCS (jXX D cI cR n) n) H) : jrp (jXX D cI cR n) jM0 H := by
  refine ⟨jstart_objs hz, fun o k ho h => jstart_arrs hz (o, k) (jarl_in o ho k (jal_k _ (jcls_lt o) k h) h), ?_⟩
  have h : va_at D jcl _ H := hz.2 26 _ rfl
  have h2 : H[n + 26]? = some _ := h
  show H[n + 26]? = _
  rw [h2, vp_cell_q, vp_cell_q]
  refine congrArg some (arrV_ext (fun j hj => ?_))
  match j, hj with
  | 0, _ => rfl
  | 1, _ => rfl
  | 2, _ => rfl
  | 3, _ => rfl
  | 4, _ => rfl
  | 5, _ => rfl
  | 6, _ => rfl
  | 7, _ => rfl
  | j + 8, h => exact absurd h (by omega)
