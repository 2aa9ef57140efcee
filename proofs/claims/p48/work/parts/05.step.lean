theorem z_iadd {X : z_X} {Y : z_Y} {pc nc ns : Nat} {lv : List (Nat × z_V)} {st : List z_V} {w : z_W} {x y : Int32} (C : z_C X Y) (hd : decode Y.2.1 pc = .ok (.iadd, 1)) (k : z_G X Y (pc + 1, lv, .inl (x + y) :: st, w, nc, ns)) : z_G X Y (pc, lv, .inl y :: .inl x :: st, w, nc, ns) := by
  obtain ⟨p, l, e, R, s, m, args, below, meth, c, Q, D, cA, N0, b⟩ := X
  obtain ⟨y0, bs, nL, ret, ft⟩ := Y
  obtain ⟨hx, hb, hml, hown, hts, henv, hlk, hrt, hnm, hft, htr, hN0⟩ := C
  intro H locs ls hR hS hl
  exact lv_iadd hx hb hd (k H locs ls hR hS hl)

theorem z_isub {X : z_X} {Y : z_Y} {pc nc ns : Nat} {lv : List (Nat × z_V)} {st : List z_V} {w : z_W} {x y : Int32} (C : z_C X Y) (hd : decode Y.2.1 pc = .ok (.isub, 1)) (k : z_G X Y (pc + 1, lv, .inl (x - y) :: st, w, nc, ns)) : z_G X Y (pc, lv, .inl y :: .inl x :: st, w, nc, ns) := by
  obtain ⟨p, l, e, R, s, m, args, below, meth, c, Q, D, cA, N0, b⟩ := X
  obtain ⟨y0, bs, nL, ret, ft⟩ := Y
  obtain ⟨hx, hb, hml, hown, hts, henv, hlk, hrt, hnm, hft, htr, hN0⟩ := C
  intro H locs ls hR hS hl
  exact lv_isub hx hb hd (k H locs ls hR hS hl)

theorem z_imul {X : z_X} {Y : z_Y} {pc nc ns : Nat} {lv : List (Nat × z_V)} {st : List z_V} {w : z_W} {x y : Int32} (C : z_C X Y) (hd : decode Y.2.1 pc = .ok (.imul, 1)) (k : z_G X Y (pc + 1, lv, .inl (x * y) :: st, w, nc, ns)) : z_G X Y (pc, lv, .inl y :: .inl x :: st, w, nc, ns) := by
  obtain ⟨p, l, e, R, s, m, args, below, meth, c, Q, D, cA, N0, b⟩ := X
  obtain ⟨y0, bs, nL, ret, ft⟩ := Y
  obtain ⟨hx, hb, hml, hown, hts, henv, hlk, hrt, hnm, hft, htr, hN0⟩ := C
  intro H locs ls hR hS hl
  exact lv_imul hx hb hd (k H locs ls hR hS hl)

theorem z_iand {X : z_X} {Y : z_Y} {pc nc ns : Nat} {lv : List (Nat × z_V)} {st : List z_V} {w : z_W} {x y : Int32} (C : z_C X Y) (hd : decode Y.2.1 pc = .ok (.iand, 1)) (k : z_G X Y (pc + 1, lv, .inl (x &&& y) :: st, w, nc, ns)) : z_G X Y (pc, lv, .inl y :: .inl x :: st, w, nc, ns) := by
  obtain ⟨p, l, e, R, s, m, args, below, meth, c, Q, D, cA, N0, b⟩ := X
  obtain ⟨y0, bs, nL, ret, ft⟩ := Y
  obtain ⟨hx, hb, hml, hown, hts, henv, hlk, hrt, hnm, hft, htr, hN0⟩ := C
  intro H locs ls hR hS hl
  exact lv_iand hx hb hd (k H locs ls hR hS hl)

theorem z_ior {X : z_X} {Y : z_Y} {pc nc ns : Nat} {lv : List (Nat × z_V)} {st : List z_V} {w : z_W} {x y : Int32} (C : z_C X Y) (hd : decode Y.2.1 pc = .ok (.ior, 1)) (k : z_G X Y (pc + 1, lv, .inl (x ||| y) :: st, w, nc, ns)) : z_G X Y (pc, lv, .inl y :: .inl x :: st, w, nc, ns) := by
  obtain ⟨p, l, e, R, s, m, args, below, meth, c, Q, D, cA, N0, b⟩ := X
  obtain ⟨y0, bs, nL, ret, ft⟩ := Y
  obtain ⟨hx, hb, hml, hown, hts, henv, hlk, hrt, hnm, hft, htr, hN0⟩ := C
  intro H locs ls hR hS hl
  exact lv_ior hx hb hd (k H locs ls hR hS hl)

theorem z_ixor {X : z_X} {Y : z_Y} {pc nc ns : Nat} {lv : List (Nat × z_V)} {st : List z_V} {w : z_W} {x y : Int32} (C : z_C X Y) (hd : decode Y.2.1 pc = .ok (.ixor, 1)) (k : z_G X Y (pc + 1, lv, .inl (x ^^^ y) :: st, w, nc, ns)) : z_G X Y (pc, lv, .inl y :: .inl x :: st, w, nc, ns) := by
  obtain ⟨p, l, e, R, s, m, args, below, meth, c, Q, D, cA, N0, b⟩ := X
  obtain ⟨y0, bs, nL, ret, ft⟩ := Y
  obtain ⟨hx, hb, hml, hown, hts, henv, hlk, hrt, hnm, hft, htr, hN0⟩ := C
  intro H locs ls hR hS hl
  exact lv_ixor hx hb hd (k H locs ls hR hS hl)

theorem z_ishl {X : z_X} {Y : z_Y} {pc nc ns : Nat} {lv : List (Nat × z_V)} {st : List z_V} {w : z_W} {x y : Int32} (C : z_C X Y) (hd : decode Y.2.1 pc = .ok (.ishl, 1)) (k : z_G X Y (pc + 1, lv, .inl (x <<< (y &&& 31)) :: st, w, nc, ns)) : z_G X Y (pc, lv, .inl y :: .inl x :: st, w, nc, ns) := by
  obtain ⟨p, l, e, R, s, m, args, below, meth, c, Q, D, cA, N0, b⟩ := X
  obtain ⟨y0, bs, nL, ret, ft⟩ := Y
  obtain ⟨hx, hb, hml, hown, hts, henv, hlk, hrt, hnm, hft, htr, hN0⟩ := C
  intro H locs ls hR hS hl
  exact lv_ishl hx hb hd (k H locs ls hR hS hl)

theorem z_ishr {X : z_X} {Y : z_Y} {pc nc ns : Nat} {lv : List (Nat × z_V)} {st : List z_V} {w : z_W} {x y : Int32} (C : z_C X Y) (hd : decode Y.2.1 pc = .ok (.ishr, 1)) (k : z_G X Y (pc + 1, lv, .inl (x >>> (y &&& 31)) :: st, w, nc, ns)) : z_G X Y (pc, lv, .inl y :: .inl x :: st, w, nc, ns) := by
  obtain ⟨p, l, e, R, s, m, args, below, meth, c, Q, D, cA, N0, b⟩ := X
  obtain ⟨y0, bs, nL, ret, ft⟩ := Y
  obtain ⟨hx, hb, hml, hown, hts, henv, hlk, hrt, hnm, hft, htr, hN0⟩ := C
  intro H locs ls hR hS hl
  exact lv_ishr hx hb hd (k H locs ls hR hS hl)

theorem z_iushr {X : z_X} {Y : z_Y} {pc nc ns : Nat} {lv : List (Nat × z_V)} {st : List z_V} {w : z_W} {x y : Int32} (C : z_C X Y) (hd : decode Y.2.1 pc = .ok (.iushr, 1)) (k : z_G X Y (pc + 1, lv, .inl ((x.toUInt32 >>> (y.toUInt32 &&& Int32.toUInt32 31)).toInt32) :: st, w, nc, ns)) : z_G X Y (pc, lv, .inl y :: .inl x :: st, w, nc, ns) := by
  obtain ⟨p, l, e, R, s, m, args, below, meth, c, Q, D, cA, N0, b⟩ := X
  obtain ⟨y0, bs, nL, ret, ft⟩ := Y
  obtain ⟨hx, hb, hml, hown, hts, henv, hlk, hrt, hnm, hft, htr, hN0⟩ := C
  intro H locs ls hR hS hl
  exact lv_iushr hx hb hd rfl (k H locs ls hR hS hl)

theorem z_idiv {X : z_X} {Y : z_Y} {pc nc ns : Nat} {lv : List (Nat × z_V)} {st : List z_V} {w : z_W} {x y : Int32} (C : z_C X Y) (hd : decode Y.2.1 pc = .ok (.idiv, 1)) (hne : ¬ y = 0) (k : z_G X Y (pc + 1, lv, .inl (x / y) :: st, w, nc, ns)) : z_G X Y (pc, lv, .inl y :: .inl x :: st, w, nc, ns) := by
  obtain ⟨p, l, e, R, s, m, args, below, meth, c, Q, D, cA, N0, b⟩ := X
  obtain ⟨y0, bs, nL, ret, ft⟩ := Y
  obtain ⟨hx, hb, hml, hown, hts, henv, hlk, hrt, hnm, hft, htr, hN0⟩ := C
  intro H locs ls hR hS hl
  exact lv_idiv hx hb hd hne (k H locs ls hR hS hl)

theorem z_irem {X : z_X} {Y : z_Y} {pc nc ns : Nat} {lv : List (Nat × z_V)} {st : List z_V} {w : z_W} {x y : Int32} (C : z_C X Y) (hd : decode Y.2.1 pc = .ok (.irem, 1)) (hne : ¬ y = 0) (k : z_G X Y (pc + 1, lv, .inl (x - x / y * y) :: st, w, nc, ns)) : z_G X Y (pc, lv, .inl y :: .inl x :: st, w, nc, ns) := by
  obtain ⟨p, l, e, R, s, m, args, below, meth, c, Q, D, cA, N0, b⟩ := X
  obtain ⟨y0, bs, nL, ret, ft⟩ := Y
  obtain ⟨hx, hb, hml, hown, hts, henv, hlk, hrt, hnm, hft, htr, hN0⟩ := C
  intro H locs ls hR hS hl
  exact lv_irem hx hb hd hne (k H locs ls hR hS hl)

theorem z_iconst {X : z_X} {Y : z_Y} {pc nc ns : Nat} {lv : List (Nat × z_V)} {st : List z_V} {w : z_W} {n : Int} (C : z_C X Y) (hd : decode Y.2.1 pc = .ok (.iconst n, 1)) (k : z_G X Y (pc + 1, lv, .inl (Int32.ofInt n) :: st, w, nc, ns)) : z_G X Y (pc, lv, st, w, nc, ns) := by
  obtain ⟨p, l, e, R, s, m, args, below, meth, c, Q, D, cA, N0, b⟩ := X
  obtain ⟨y0, bs, nL, ret, ft⟩ := Y
  obtain ⟨hx, hb, hml, hown, hts, henv, hlk, hrt, hnm, hft, htr, hN0⟩ := C
  intro H locs ls hR hS hl
  exact lv_iconst hx hb hd rfl (k H locs ls hR hS hl)

theorem z_bipush {X : z_X} {Y : z_Y} {pc nc ns : Nat} {lv : List (Nat × z_V)} {st : List z_V} {w : z_W} {n : Int} (C : z_C X Y) (hd : decode Y.2.1 pc = .ok (.bipush n, 2)) (k : z_G X Y (pc + 2, lv, .inl (Int8.ofInt n).toInt32 :: st, w, nc, ns)) : z_G X Y (pc, lv, st, w, nc, ns) := by
  obtain ⟨p, l, e, R, s, m, args, below, meth, c, Q, D, cA, N0, b⟩ := X
  obtain ⟨y0, bs, nL, ret, ft⟩ := Y
  obtain ⟨hx, hb, hml, hown, hts, henv, hlk, hrt, hnm, hft, htr, hN0⟩ := C
  intro H locs ls hR hS hl
  exact lv_bipush hx hb hd rfl (k H locs ls hR hS hl)

theorem z_sipush {X : z_X} {Y : z_Y} {pc nc ns : Nat} {lv : List (Nat × z_V)} {st : List z_V} {w : z_W} {n : Int} (C : z_C X Y) (hd : decode Y.2.1 pc = .ok (.sipush n, 3)) (k : z_G X Y (pc + 3, lv, .inl (Int16.ofInt n).toInt32 :: st, w, nc, ns)) : z_G X Y (pc, lv, st, w, nc, ns) := by
  obtain ⟨p, l, e, R, s, m, args, below, meth, c, Q, D, cA, N0, b⟩ := X
  obtain ⟨y0, bs, nL, ret, ft⟩ := Y
  obtain ⟨hx, hb, hml, hown, hts, henv, hlk, hrt, hnm, hft, htr, hN0⟩ := C
  intro H locs ls hR hS hl
  exact lv_sipush hx hb hd rfl (k H locs ls hR hS hl)

theorem z_lconst {X : z_X} {Y : z_Y} {pc nc ns : Nat} {lv : List (Nat × z_V)} {st : List z_V} {w : z_W} {n : Fin 2} {x : Int32} (C : z_C X Y) (hd : decode Y.2.1 pc = .ok (.lconst n, 1)) (hv : Int64.ofNat (n : Nat) = x.toInt64) (k : z_G X Y (pc + 1, lv, z_l x :: st, w, nc, ns)) : z_G X Y (pc, lv, st, w, nc, ns) := by
  obtain ⟨p, l, e, R, s, m, args, below, meth, c, Q, D, cA, N0, b⟩ := X
  obtain ⟨y0, bs, nL, ret, ft⟩ := Y
  obtain ⟨hx, hb, hml, hown, hts, henv, hlk, hrt, hnm, hft, htr, hN0⟩ := C
  intro H locs ls hR hS hl
  exact lv_lconst hx hb hd hv (k H locs ls hR hS hl)

theorem z_null {X : z_X} {Y : z_Y} {pc nc ns : Nat} {lv : List (Nat × z_V)} {st : List z_V} {w : z_W} (C : z_C X Y) (hd : decode Y.2.1 pc = .ok (.aconst_null, 1)) (k : z_G X Y (pc + 1, lv, z_n :: st, w, nc, ns)) : z_G X Y (pc, lv, st, w, nc, ns) := by
  obtain ⟨p, l, e, R, s, m, args, below, meth, c, Q, D, cA, N0, b⟩ := X
  obtain ⟨y0, bs, nL, ret, ft⟩ := Y
  obtain ⟨hx, hb, hml, hown, hts, henv, hlk, hrt, hnm, hft, htr, hN0⟩ := C
  intro H locs ls hR hS hl
  exact lv_null hx hb hd (k H locs ls hR hS hl)

theorem z_iload_n {X : z_X} {Y : z_Y} {pc nc ns : Nat} {lv : List (Nat × z_V)} {st : List z_V} {w : z_W} {j : Fin 4} {x : Int32} (C : z_C X Y) (hd : decode Y.2.1 pc = .ok (.iload_n j, 1)) (hi : z_ld lv j = some (.inl x)) (k : z_G X Y (pc + 1, lv, .inl x :: st, w, nc, ns)) : z_G X Y (pc, lv, st, w, nc, ns) := by
  obtain ⟨p, l, e, R, s, m, args, below, meth, c, Q, D, cA, N0, b⟩ := X
  obtain ⟨y0, bs, nL, ret, ft⟩ := Y
  obtain ⟨hx, hb, hml, hown, hts, henv, hlk, hrt, hnm, hft, htr, hN0⟩ := C
  intro H locs ls hR hS hl
  exact lv_iload_n hx hb hd rfl (z_ld_ok hl hi) (k H locs ls hR hS hl)

theorem z_iload {X : z_X} {Y : z_Y} {pc nc ns : Nat} {lv : List (Nat × z_V)} {st : List z_V} {w : z_W} {j : Nat} {x : Int32} (C : z_C X Y) (hd : decode Y.2.1 pc = .ok (.iload j, 2)) (hi : z_ld lv j = some (.inl x)) (k : z_G X Y (pc + 2, lv, .inl x :: st, w, nc, ns)) : z_G X Y (pc, lv, st, w, nc, ns) := by
  obtain ⟨p, l, e, R, s, m, args, below, meth, c, Q, D, cA, N0, b⟩ := X
  obtain ⟨y0, bs, nL, ret, ft⟩ := Y
  obtain ⟨hx, hb, hml, hown, hts, henv, hlk, hrt, hnm, hft, htr, hN0⟩ := C
  intro H locs ls hR hS hl
  exact lv_iload hx hb hd (z_ld_ok hl hi) (k H locs ls hR hS hl)

theorem z_aload_n {X : z_X} {Y : z_Y} {pc nc ns : Nat} {lv : List (Nat × z_V)} {st : List z_V} {w : z_W} {j : Fin 4} {r : Option Nat} (C : z_C X Y) (hd : decode Y.2.1 pc = .ok (.aload_n j, 1)) (hi : z_ld lv j = some (.inr (.inl r))) (k : z_G X Y (pc + 1, lv, .inr (.inl r) :: st, w, nc, ns)) : z_G X Y (pc, lv, st, w, nc, ns) := by
  obtain ⟨p, l, e, R, s, m, args, below, meth, c, Q, D, cA, N0, b⟩ := X
  obtain ⟨y0, bs, nL, ret, ft⟩ := Y
  obtain ⟨hx, hb, hml, hown, hts, henv, hlk, hrt, hnm, hft, htr, hN0⟩ := C
  intro H locs ls hR hS hl
  have h1 := z_ld_ok hl hi
  cases r with
  | none => exact lv_aload_nN hx hb hd rfl h1 (k H locs ls hR hS hl)
  | some a => exact lv_aload_n hx hb hd rfl h1 (k H locs ls hR hS hl)

theorem z_sload_n {X : z_X} {Y : z_Y} {pc nc ns : Nat} {lv : List (Nat × z_V)} {st : List z_V} {w : z_W} {j : Fin 4} (C : z_C X Y) (hd : decode Y.2.1 pc = .ok (.aload_n j, 1)) (hi : z_ld lv j = some z_s) (k : z_G X Y (pc + 1, lv, z_s :: st, w, nc, ns)) : z_G X Y (pc, lv, st, w, nc, ns) := by
  obtain ⟨p, l, e, R, s, m, args, below, meth, c, Q, D, cA, N0, b⟩ := X
  obtain ⟨y0, bs, nL, ret, ft⟩ := Y
  obtain ⟨hx, hb, hml, hown, hts, henv, hlk, hrt, hnm, hft, htr, hN0⟩ := C
  intro H locs ls hR hS hl
  exact lv_aload_n hx hb hd rfl (z_ld_ok hl hi) (k H locs ls hR hS hl)

theorem z_aload {X : z_X} {Y : z_Y} {pc nc ns : Nat} {lv : List (Nat × z_V)} {st : List z_V} {w : z_W} {j : Nat} {r : Option Nat} (C : z_C X Y) (hd : decode Y.2.1 pc = .ok (.aload j, 2)) (hi : z_ld lv j = some (.inr (.inl r))) (k : z_G X Y (pc + 2, lv, .inr (.inl r) :: st, w, nc, ns)) : z_G X Y (pc, lv, st, w, nc, ns) := by
  obtain ⟨p, l, e, R, s, m, args, below, meth, c, Q, D, cA, N0, b⟩ := X
  obtain ⟨y0, bs, nL, ret, ft⟩ := Y
  obtain ⟨hx, hb, hml, hown, hts, henv, hlk, hrt, hnm, hft, htr, hN0⟩ := C
  intro H locs ls hR hS hl
  have h1 := z_ld_ok hl hi
  cases r with
  | none => exact lv_aloadN hx hb hd h1 (k H locs ls hR hS hl)
  | some a => exact lv_aload hx hb hd h1 (k H locs ls hR hS hl)

theorem z_sload {X : z_X} {Y : z_Y} {pc nc ns : Nat} {lv : List (Nat × z_V)} {st : List z_V} {w : z_W} {j : Nat} (C : z_C X Y) (hd : decode Y.2.1 pc = .ok (.aload j, 2)) (hi : z_ld lv j = some z_s) (k : z_G X Y (pc + 2, lv, z_s :: st, w, nc, ns)) : z_G X Y (pc, lv, st, w, nc, ns) := by
  obtain ⟨p, l, e, R, s, m, args, below, meth, c, Q, D, cA, N0, b⟩ := X
  obtain ⟨y0, bs, nL, ret, ft⟩ := Y
  obtain ⟨hx, hb, hml, hown, hts, henv, hlk, hrt, hnm, hft, htr, hN0⟩ := C
  intro H locs ls hR hS hl
  exact lv_aload hx hb hd (z_ld_ok hl hi) (k H locs ls hR hS hl)

theorem z_istore_n {X : z_X} {Y : z_Y} {pc nc ns : Nat} {lv : List (Nat × z_V)} {st : List z_V} {w : z_W} {j : Fin 4} {x : Int32} (C : z_C X Y) (hd : decode Y.2.1 pc = .ok (.istore_n j, 1)) (hj : (j : Nat) < Y.2.2.1) (k : z_G X Y (pc + 1, z_st lv j (.inl x), st, w, nc, ns)) : z_G X Y (pc, lv, .inl x :: st, w, nc, ns) := by
  obtain ⟨p, l, e, R, s, m, args, below, meth, c, Q, D, cA, N0, b⟩ := X
  obtain ⟨y0, bs, nL, ret, ft⟩ := Y
  obtain ⟨hx, hb, hml, hown, hts, henv, hlk, hrt, hnm, hft, htr, hN0⟩ := C
  intro H locs ls hR hS hl
  exact lv_istore_n hx hb hd rfl hl hj (z_st_eq lv _ (.inl x) N0 b) (fun ls' hl' => k H locs ls' hR hS hl')

theorem z_istore {X : z_X} {Y : z_Y} {pc nc ns : Nat} {lv : List (Nat × z_V)} {st : List z_V} {w : z_W} {j : Nat} {x : Int32} (C : z_C X Y) (hd : decode Y.2.1 pc = .ok (.istore j, 2)) (hj : (j : Nat) < Y.2.2.1) (k : z_G X Y (pc + 2, z_st lv j (.inl x), st, w, nc, ns)) : z_G X Y (pc, lv, .inl x :: st, w, nc, ns) := by
  obtain ⟨p, l, e, R, s, m, args, below, meth, c, Q, D, cA, N0, b⟩ := X
  obtain ⟨y0, bs, nL, ret, ft⟩ := Y
  obtain ⟨hx, hb, hml, hown, hts, henv, hlk, hrt, hnm, hft, htr, hN0⟩ := C
  intro H locs ls hR hS hl
  exact lv_istore hx hb hd hl hj (z_st_eq lv _ (.inl x) N0 b) (fun ls' hl' => k H locs ls' hR hS hl')

theorem z_astore_n {X : z_X} {Y : z_Y} {pc nc ns : Nat} {lv : List (Nat × z_V)} {st : List z_V} {w : z_W} {j : Fin 4} {r : Option Nat} (C : z_C X Y) (hd : decode Y.2.1 pc = .ok (.astore_n j, 1)) (hj : (j : Nat) < Y.2.2.1) (k : z_G X Y (pc + 1, z_st lv j (.inr (.inl r)), st, w, nc, ns)) : z_G X Y (pc, lv, .inr (.inl r) :: st, w, nc, ns) := by
  obtain ⟨p, l, e, R, s, m, args, below, meth, c, Q, D, cA, N0, b⟩ := X
  obtain ⟨y0, bs, nL, ret, ft⟩ := Y
  obtain ⟨hx, hb, hml, hown, hts, henv, hlk, hrt, hnm, hft, htr, hN0⟩ := C
  intro H locs ls hR hS hl
  cases r with
  | none => exact lv_astore_nN hx hb hd rfl hl hj (z_st_eq lv _ z_n N0 b) (fun ls' hl' => k H locs ls' hR hS hl')
  | some a => exact lv_astore_n hx hb hd rfl hl hj (z_st_eq lv _ (z_r a) N0 b) (fun ls' hl' => k H locs ls' hR hS hl')

theorem z_astore {X : z_X} {Y : z_Y} {pc nc ns : Nat} {lv : List (Nat × z_V)} {st : List z_V} {w : z_W} {j : Nat} {r : Option Nat} (C : z_C X Y) (hd : decode Y.2.1 pc = .ok (.astore j, 2)) (hj : (j : Nat) < Y.2.2.1) (k : z_G X Y (pc + 2, z_st lv j (.inr (.inl r)), st, w, nc, ns)) : z_G X Y (pc, lv, .inr (.inl r) :: st, w, nc, ns) := by
  obtain ⟨p, l, e, R, s, m, args, below, meth, c, Q, D, cA, N0, b⟩ := X
  obtain ⟨y0, bs, nL, ret, ft⟩ := Y
  obtain ⟨hx, hb, hml, hown, hts, henv, hlk, hrt, hnm, hft, htr, hN0⟩ := C
  intro H locs ls hR hS hl
  cases r with
  | none => exact lv_astoreN hx hb hd hl hj (z_st_eq lv _ z_n N0 b) (fun ls' hl' => k H locs ls' hR hS hl')
  | some a => exact lv_astore hx hb hd hl hj (z_st_eq lv _ (z_r a) N0 b) (fun ls' hl' => k H locs ls' hR hS hl')

theorem z_iinc {X : z_X} {Y : z_Y} {pc nc ns : Nat} {lv : List (Nat × z_V)} {st : List z_V} {w : z_W} {j : Nat} {n : Int} {x : Int32} (C : z_C X Y) (hd : decode Y.2.1 pc = .ok (.iinc j n, 3)) (hi : z_ld lv j = some (.inl x)) (hj : j < Y.2.2.1) (k : z_G X Y (pc + 3, z_st lv j (.inl (x + Int32.ofInt n)), st, w, nc, ns)) : z_G X Y (pc, lv, st, w, nc, ns) := by
  obtain ⟨p, l, e, R, s, m, args, below, meth, c, Q, D, cA, N0, b⟩ := X
  obtain ⟨y0, bs, nL, ret, ft⟩ := Y
  obtain ⟨hx, hb, hml, hown, hts, henv, hlk, hrt, hnm, hft, htr, hN0⟩ := C
  intro H locs ls hR hS hl
  have h1 : ∃ k0 : Nat, (lv.map (fun q => (q.1, z_c N0 b q.2)))[k0]? = some (j, Value.int x) := by
    unfold z_ld at hi
    cases hf : lv.find? (fun q => q.1 == j) with
    | none => rw [hf] at hi; cases hi
    | some q =>
      rw [hf] at hi
      have h2 : q ∈ lv := List.mem_of_find?_eq_some hf
      have h1 := List.find?_some hf
      have h3 : q.1 = j := by simpa using h1
      have h4 : q.2 = .inl x := Option.some.inj hi
      apply List.getElem?_of_mem
      refine List.mem_map.mpr ⟨q, h2, ?_⟩
      rw [h3, h4]; rfl
  obtain ⟨k0, hk0⟩ := h1
  exact lv_iinc hx hb hd hl hk0 rfl hj (z_st_eq lv _ (.inl (x + Int32.ofInt n)) N0 b) (fun ls' hl' => k H locs ls' hR hS hl')

theorem z_i2l {X : z_X} {Y : z_Y} {pc nc ns : Nat} {lv : List (Nat × z_V)} {st : List z_V} {w : z_W} {x : Int32} (C : z_C X Y) (hd : decode Y.2.1 pc = .ok (.i2l, 1)) (k : z_G X Y (pc + 1, lv, z_l x :: st, w, nc, ns)) : z_G X Y (pc, lv, .inl x :: st, w, nc, ns) := by
  obtain ⟨p, l, e, R, s, m, args, below, meth, c, Q, D, cA, N0, b⟩ := X
  obtain ⟨y0, bs, nL, ret, ft⟩ := Y
  obtain ⟨hx, hb, hml, hown, hts, henv, hlk, hrt, hnm, hft, htr, hN0⟩ := C
  intro H locs ls hR hS hl
  exact lv_i2l hx hb hd rfl (k H locs ls hR hS hl)

theorem z_i2c {X : z_X} {Y : z_Y} {pc nc ns : Nat} {lv : List (Nat × z_V)} {st : List z_V} {w : z_W} {x : Int32} (C : z_C X Y) (hd : decode Y.2.1 pc = .ok (.i2c, 1)) (k : z_G X Y (pc + 1, lv, .inl (x.toUInt32 % 65536).toInt32 :: st, w, nc, ns)) : z_G X Y (pc, lv, .inl x :: st, w, nc, ns) := by
  obtain ⟨p, l, e, R, s, m, args, below, meth, c, Q, D, cA, N0, b⟩ := X
  obtain ⟨y0, bs, nL, ret, ft⟩ := Y
  obtain ⟨hx, hb, hml, hown, hts, henv, hlk, hrt, hnm, hft, htr, hN0⟩ := C
  intro H locs ls hR hS hl
  exact lv_i2c hx hb hd rfl (k H locs ls hR hS hl)

theorem z_lcmp {X : z_X} {Y : z_Y} {pc nc ns : Nat} {lv : List (Nat × z_V)} {st : List z_V} {w : z_W} {x y : Int32} (C : z_C X Y) (hd : decode Y.2.1 pc = .ok (.lcmp, 1)) (k : z_G X Y (pc + 1, lv, .inl (lg_cmp x.toInt64 y.toInt64) :: st, w, nc, ns)) : z_G X Y (pc, lv, z_l y :: z_l x :: st, w, nc, ns) := by
  obtain ⟨p, l, e, R, s, m, args, below, meth, c, Q, D, cA, N0, b⟩ := X
  obtain ⟨y0, bs, nL, ret, ft⟩ := Y
  obtain ⟨hx, hb, hml, hown, hts, henv, hlk, hrt, hnm, hft, htr, hN0⟩ := C
  intro H locs ls hR hS hl
  exact W.lcmp hx hb hd (k H locs ls hR hS hl)

theorem z_dup {X : z_X} {Y : z_Y} {pc nc ns : Nat} {lv : List (Nat × z_V)} {st : List z_V} {w : z_W} {v : z_V} (C : z_C X Y) (hd : decode Y.2.1 pc = .ok (.dup, 1)) (hv : z_ct v = 1) (k : z_G X Y (pc + 1, lv, v :: v :: st, w, nc, ns)) : z_G X Y (pc, lv, v :: st, w, nc, ns) := by
  obtain ⟨p, l, e, R, s, m, args, below, meth, c, Q, D, cA, N0, b⟩ := X
  obtain ⟨y0, bs, nL, ret, ft⟩ := Y
  obtain ⟨hx, hb, hml, hown, hts, henv, hlk, hrt, hnm, hft, htr, hN0⟩ := C
  intro H locs ls hR hS hl
  exact lv_dup hx hb hd ((z_ct_c N0 b v).trans hv) (k H locs ls hR hS hl)

theorem z_pop {X : z_X} {Y : z_Y} {pc nc ns : Nat} {lv : List (Nat × z_V)} {st : List z_V} {w : z_W} {v : z_V} (C : z_C X Y) (hd : decode Y.2.1 pc = .ok (.pop, 1)) (hv : z_ct v = 1) (k : z_G X Y (pc + 1, lv, st, w, nc, ns)) : z_G X Y (pc, lv, v :: st, w, nc, ns) := by
  obtain ⟨p, l, e, R, s, m, args, below, meth, c, Q, D, cA, N0, b⟩ := X
  obtain ⟨y0, bs, nL, ret, ft⟩ := Y
  obtain ⟨hx, hb, hml, hown, hts, henv, hlk, hrt, hnm, hft, htr, hN0⟩ := C
  intro H locs ls hR hS hl
  exact lv_pop hx hb hd ((z_ct_c N0 b v).trans hv) (k H locs ls hR hS hl)

theorem z_dup2 {X : z_X} {Y : z_Y} {pc nc ns : Nat} {lv : List (Nat × z_V)} {st : List z_V} {w : z_W} {v u : z_V} (C : z_C X Y) (hd : decode Y.2.1 pc = .ok (.dup2, 1)) (hv : z_ct v = 1) (hu : z_ct u = 1) (k : z_G X Y (pc + 1, lv, v :: u :: v :: u :: st, w, nc, ns)) : z_G X Y (pc, lv, v :: u :: st, w, nc, ns) := by
  obtain ⟨p, l, e, R, s, m, args, below, meth, c, Q, D, cA, N0, b⟩ := X
  obtain ⟨y0, bs, nL, ret, ft⟩ := Y
  obtain ⟨hx, hb, hml, hown, hts, henv, hlk, hrt, hnm, hft, htr, hN0⟩ := C
  intro H locs ls hR hS hl
  exact lv_dup2_11 hx hb hd ((z_ct_c N0 b v).trans hv) ((z_ct_c N0 b u).trans hu) (k H locs ls hR hS hl)

theorem z_goto {X : z_X} {Y : z_Y} {pc nc ns : Nat} {lv : List (Nat × z_V)} {st : List z_V} {w : z_W} {off : Int} {tgt : Nat} (C : z_C X Y) (hd : decode Y.2.1 pc = .ok (.goto off, 3)) (ht : (pc : Int) + off = (tgt : Int)) (k : z_G X Y (tgt, lv, st, w, nc, ns)) : z_G X Y (pc, lv, st, w, nc, ns) := by
  obtain ⟨p, l, e, R, s, m, args, below, meth, c, Q, D, cA, N0, b⟩ := X
  obtain ⟨y0, bs, nL, ret, ft⟩ := Y
  obtain ⟨hx, hb, hml, hown, hts, henv, hlk, hrt, hnm, hft, htr, hN0⟩ := C
  intro H locs ls hR hS hl
  exact lv_goto hx hb hd ht (k H locs ls hR hS hl)
