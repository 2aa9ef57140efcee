theorem z_iald {X : z_X} {Y : z_Y} {pc nc ns : Nat} {lv : List (Nat × z_V)} {st : List z_V} {w : z_W} {a len : Nat} {i : Int32} (C : z_C X Y) (hd : decode Y.2.1 pc = .ok (.iaload, 1)) (hT : w.1 a = (2, len)) (hin : vp_in i len) (k : z_G X Y (pc + 1, lv, .inl (w.2.2.1 a i.toNatClampNeg) :: st, w, nc, ns)) : z_G X Y (pc, lv, .inl i :: z_r a :: st, w, nc, ns) := by
  obtain ⟨p, l, e, R, s, m, args, below, meth, c, Q, D, cA, N0, b⟩ := X
  obtain ⟨y0, bs, nL, ret, ft⟩ := Y
  obtain ⟨hx, hb, hml, hown, hts, henv, hlk, hrt, hnm, hft, htr, hN0⟩ := C
  intro H locs ls hR hS hl
  have hA := hR.2 a
  rw [hT] at hA
  have hlt : i.toNatClampNeg < len := Nat.not_le.mp fun q => hin (Or.inr q)
  exact W.iald (v := .int (w.2.2.1 a i.toNatClampNeg)) hx hb hA ((henv.1.2 0 _ rfl).1 len _) (fun q => by cases q) (by rw [arrV_size]; exact hin) (by rw [arrV_read _ _ hlt]) rfl rfl hd (k H locs ls hR hS hl)

theorem z_cald {X : z_X} {Y : z_Y} {pc nc ns : Nat} {lv : List (Nat × z_V)} {st : List z_V} {w : z_W} {a len : Nat} {i : Int32} (C : z_C X Y) (hd : decode Y.2.1 pc = .ok (.caload, 1)) (hT : w.1 a = (4, len)) (hin : vp_in i len) (k : z_G X Y (pc + 1, lv, .inl (w.2.2.1 a i.toNatClampNeg) :: st, w, nc, ns)) : z_G X Y (pc, lv, .inl i :: z_r a :: st, w, nc, ns) := by
  obtain ⟨p, l, e, R, s, m, args, below, meth, c, Q, D, cA, N0, b⟩ := X
  obtain ⟨y0, bs, nL, ret, ft⟩ := Y
  obtain ⟨hx, hb, hml, hown, hts, henv, hlk, hrt, hnm, hft, htr, hN0⟩ := C
  intro H locs ls hR hS hl
  have hA := hR.2 a
  rw [hT] at hA
  have hlt : i.toNatClampNeg < len := Nat.not_le.mp fun q => hin (Or.inr q)
  exact W.cald (v := .int (w.2.2.1 a i.toNatClampNeg)) hx hb hA ((henv.1.2 2 _ rfl).1 len _) (fun q => by cases q) (by rw [arrV_size]; exact hin) (by rw [arrV_read _ _ hlt]) rfl rfl hd (k H locs ls hR hS hl)

theorem z_alen {X : z_X} {Y : z_Y} {pc nc ns : Nat} {lv : List (Nat × z_V)} {st : List z_V} {w : z_W} {a len : Nat} (C : z_C X Y) (hd : decode Y.2.1 pc = .ok (.arraylength, 1)) (hT : w.1 a = (2, len)) (k : z_G X Y (pc + 1, lv, .inl (Int32.ofNat len) :: st, w, nc, ns)) : z_G X Y (pc, lv, z_r a :: st, w, nc, ns) := by
  obtain ⟨p, l, e, R, s, m, args, below, meth, c, Q, D, cA, N0, b⟩ := X
  obtain ⟨y0, bs, nL, ret, ft⟩ := Y
  obtain ⟨hx, hb, hml, hown, hts, henv, hlk, hrt, hnm, hft, htr, hN0⟩ := C
  intro H locs ls hR hS hl
  have hA := hR.2 a
  rw [hT] at hA
  exact W.alen (n := Int32.ofNat len) hx hb hA ((henv.1.2 0 _ rfl).1 len _) (by rw [arrV_size] <;> rfl) rfl rfl hd (k H locs ls hR hS hl)

theorem z_iast {X : z_X} {Y : z_Y} {pc nc ns : Nat} {lv : List (Nat × z_V)} {st : List z_V} {w : z_W} {a len : Nat} {i x : Int32} (C : z_C X Y) (hd : decode Y.2.1 pc = .ok (.iastore, 1)) (hT : w.1 a = (2, len)) (hin : vp_in i len) (k : z_G X Y (pc + 1, lv, st, (w.1, w.2.1, z_uS w.2.2.1 a i.toNatClampNeg x, w.2.2.2), nc, ns)) : z_G X Y (pc, lv, .inl x :: .inl i :: z_r a :: st, w, nc, ns) := by
  obtain ⟨p, l, e, R, s, m, args, below, meth, c, Q, D, cA, N0, b⟩ := X
  obtain ⟨y0, bs, nL, ret, ft⟩ := Y
  obtain ⟨hx, hb, hml, hown, hts, henv, hlk, hrt, hnm, hft, htr, hN0⟩ := C
  intro H locs ls hR hS hl
  have hA := hR.2 a
  rw [hT] at hA
  have hA : H[N0 + a]? = some (arrV (cA 0) len (fun j => .int (w.2.2.1 a j))) := hA
  refine W.iast hx hb hA ((henv.1.2 0 _ rfl).1 len _) (fun q => by cases q) (by rw [arrV_size]; exact hin) rfl rfl hd fun H1 e z oq => ?_
  refine k H1 _ ls (z_rep.set (k := a) w.2.1 (z_uS w.2.2.1 a i.toNatClampNeg x) hR z oq (fun j hj => ⟨rfl, z_uS_ne _ _ _ hj⟩) ?_) (hS.put z oq (Nat.le_add_right _ _)) hl
  rw [hT, z_uS_self]
  show H1[N0 + a]? = some (arrV (cA 0) len (fun j => .int (upd (w.2.2.1 a) i.toNatClampNeg x j)))
  rw [e]
  try rw [show narrow .boolean (.int x) = .int (vp_nar .boolean x) from rfl]
  try rw [show narrow .char (.int x) = .int (vp_nar .char x) from rfl]
  rw [arrV_store]
  congr 2
  funext q
  by_cases hq : q = i.toNatClampNeg
  · subst hq
    simp [updV, upd]
  · simp [updV, upd, hq]

theorem z_cast {X : z_X} {Y : z_Y} {pc nc ns : Nat} {lv : List (Nat × z_V)} {st : List z_V} {w : z_W} {a len : Nat} {i x : Int32} (C : z_C X Y) (hd : decode Y.2.1 pc = .ok (.castore, 1)) (hT : w.1 a = (4, len)) (hin : vp_in i len) (k : z_G X Y (pc + 1, lv, st, (w.1, w.2.1, z_uS w.2.2.1 a i.toNatClampNeg (vp_nar .char x), w.2.2.2), nc, ns)) : z_G X Y (pc, lv, .inl x :: .inl i :: z_r a :: st, w, nc, ns) := by
  obtain ⟨p, l, e, R, s, m, args, below, meth, c, Q, D, cA, N0, b⟩ := X
  obtain ⟨y0, bs, nL, ret, ft⟩ := Y
  obtain ⟨hx, hb, hml, hown, hts, henv, hlk, hrt, hnm, hft, htr, hN0⟩ := C
  intro H locs ls hR hS hl
  have hA := hR.2 a
  rw [hT] at hA
  have hA : H[N0 + a]? = some (arrV (cA 2) len (fun j => .int (w.2.2.1 a j))) := hA
  refine W.cast hx hb hA ((henv.1.2 2 _ rfl).1 len _) (fun q => by cases q) (by rw [arrV_size]; exact hin) rfl rfl hd fun H1 e z oq => ?_
  refine k H1 _ ls (z_rep.set (k := a) w.2.1 (z_uS w.2.2.1 a i.toNatClampNeg (vp_nar .char x)) hR z oq (fun j hj => ⟨rfl, z_uS_ne _ _ _ hj⟩) ?_) (hS.put z oq (Nat.le_add_right _ _)) hl
  rw [hT, z_uS_self]
  show H1[N0 + a]? = some (arrV (cA 2) len (fun j => .int (upd (w.2.2.1 a) i.toNatClampNeg (vp_nar .char x) j)))
  rw [e]
  try rw [show narrow .boolean (.int x) = .int (vp_nar .boolean x) from rfl]
  try rw [show narrow .char (.int x) = .int (vp_nar .char x) from rfl]
  rw [arrV_store]
  congr 2
  funext q
  by_cases hq : q = i.toNatClampNeg
  · subst hq
    simp [updV, upd]
  · simp [updV, upd, hq]

/-- a new cell -/
def z_nw (w : z_W) (sh : Nat × Nat) : z_W := (fun k => if k = w.2.2.2 then sh else w.1 k, fun k => if k = w.2.2.2 then (fun _ => none) else w.2.1 k, fun k => if k = w.2.2.2 then (fun _ => 0) else w.2.2.1 k, w.2.2.2 + 1)
theorem z_rep.nw {D : va_G} {cA : Nat → ClassId} {N0 : Nat} {w : z_W} {H H1 : Heap} {sh : Nat × Nat} (h : z_rep D cA N0 w H) (hz : H1.size = H.size + 1) (hq : ∀ q : Nat, q < H.size → H1[q]? = H[q]?)
    (ha : z_at D cA N0 sh (fun _ => none) (fun _ => 0) H.size H1) : z_rep D cA N0 (z_nw w sh) H1 := by
  refine ⟨by rw [hz, h.1]; rfl, fun j => ?_⟩
  by_cases hj : j = w.2.2.2
  · subst hj
    show z_at D cA N0 (if w.2.2.2 = w.2.2.2 then sh else w.1 _) (if w.2.2.2 = w.2.2.2 then (fun _ => none) else w.2.1 _) (if w.2.2.2 = w.2.2.2 then (fun _ => 0) else w.2.2.1 _) (N0 + w.2.2.2) H1
    rw [if_pos rfl, if_pos rfl, if_pos rfl, ← h.1]
    exact ha
  · show z_at D cA N0 (if j = w.2.2.2 then sh else w.1 j) (if j = w.2.2.2 then (fun _ => none) else w.2.1 j) (if j = w.2.2.2 then (fun _ => 0) else w.2.2.1 j) (N0 + j) H1
    rw [if_neg hj, if_neg hj, if_neg hj]
    refine (h.2 j).kept ?_
    have h1 := h.1
    by_cases hl : N0 + j < H.size
    · exact hq _ hl
    · rw [Array.getElem?_eq_none (by omega), Array.getElem?_eq_none (by omega)]
theorem z_S_nw {A : Nat → Prop} {H0 H H1 : Heap} {locs : List Loc} (h : va_S A H0 H locs) (hz : H1.size = H.size + 1) (hq : ∀ q : Nat, q < H.size → H1[q]? = H[q]?) : va_S A H0 H1 locs :=
  ⟨Nat.le_trans h.1 (by omega), fun x h1 h2 => (hq x (Nat.lt_of_lt_of_le h1 h.1)).trans (h.2.1 x h1 h2), h.2.2⟩
def z_atag : ArrayType → Nat
  | .int => 2
  | .boolean => 3
  | .char => 4
  | .long => 5
  | _ => 0

theorem z_new {X : z_X} {Y : z_Y} {pc nc ns : Nat} {lv : List (Nat × z_V)} {st : List z_V} {w : z_W} {idx ci : Nat} {r : vw_C} {rm : Room} (C : z_C X Y) (hd : decode Y.2.1 pc = .ok (.new idx, 3)) (hrm : X.2.2.2.1 = rm) (hc : vwCl[ci]? = some r) (h1 : Cond.classLink Y.1.cls idx r.1 ∈ z_WB) (h2 : Cond.instantiable r.1 r.2.2 ∈ z_WB) (h3 : Cond.initialized r.1 ∈ z_WB) (hcells : nc + 1 ≤ rm.cells) (hslots : ns + r.2.2 ≤ rm.slots) (k : z_G X Y (pc + 3, lv, z_r w.2.2.2 :: st, z_nw w (1, ci), nc + 1, ns + r.2.2)) : z_G X Y (pc, lv, st, w, nc, ns) := by
  obtain ⟨p, l, e, R, s, m, args, below, meth, c, Q, D, cA, N0, b⟩ := X
  obtain ⟨y0, bs, nL, ret, ft⟩ := Y
  obtain ⟨hx, hb, hml, hown, hts, henv, hlk, hrt, hnm, hft, htr, hN0⟩ := C
  intro H locs ls hR hS hl
  have hKn := henv.1.1 ci _ hc
  obtain ⟨⟨ty0, hty, hk9⟩, -, hin⟩ := z_cls hc
  cases hrm
  refine W.newcK hx hb hown (hts _ h1) (hts _ h2) (hts _ h3) rfl hd hcells hslots hKn.2.1 rfl fun H1 kC hkC e1 z1 o1 => ?_
  have h9 := k H1 locs ls (hR.nw z1 o1 ?_) (z_S_nw hS z1 o1) hl
  · rw [show (Value.ref H.size : Value) = z_c N0 b (z_r w.2.2.2) from by rw [hR.1]; rfl]
    exact h9
  · refine ⟨r, hc, (u_born ty0 hts hin hKn hkC e1 hty).to (fun j hj => ?_)⟩
    unfold z_fv
    obtain ⟨q0, q2, q1⟩ := hk9 j hj
    rcases z_kd_in (r.2.1 j).2.2.1 with h | h | h
    · rw [h, q0 h]; rfl
    · rw [h]; rcases q1 h with ⟨n, hn⟩ | ⟨t, ht⟩
      · rw [hn]; rfl
      · rw [ht]; rfl
    · rw [h, q2 h]; rfl

theorem z_newa {X : z_X} {Y : z_Y} {pc nc ns : Nat} {lv : List (Nat × z_V)} {st : List z_V} {w : z_W} {aty : ArrayType} {i : Int32} {N : Nat} {rm : Room} (hty : aty = .int ∨ aty = .char) (C : z_C X Y) (hd : decode Y.2.1 pc = .ok (.newarray aty, 2)) (hrm : X.2.2.2.1 = rm) (h1 : Cond.arrayClass (newarray.typeOf aty) ∈ z_WB) (hn : ¬ i < 0) (hN : i.toNatClampNeg = N) (hbytes : N * componentBytes (newarray.typeOf aty) ≤ 536870912) (hcells : nc + 1 ≤ rm.cells) (hslots : ns + N ≤ rm.slots) (k : z_G X Y (pc + 2, lv, z_r w.2.2.2 :: st, z_nw w (z_atag aty, N), nc + 1, ns + N)) : z_G X Y (pc, lv, .inl i :: st, w, nc, ns) := by
  obtain ⟨p, l, e, R, s, m, args, below, meth, c, Q, D, cA, N0, b⟩ := X
  obtain ⟨y0, bs, nL, ret, ft⟩ := Y
  obtain ⟨hx, hb, hml, hown, hts, henv, hlk, hrt, hnm, hft, htr, hN0⟩ := C
  intro H locs ls hR hS hl
  cases hrm
  subst hN
  refine va_newaK hx hb (hts _ h1) rfl hd rfl hn rfl hbytes hcells hslots rfl fun H1 cX e1 z1 o1 hAr hNm => ?_
  have h9 := k H1 locs ls (hR.nw z1 o1 ?_) (z_S_nw hS z1 o1) hl
  · rw [show (Value.ref H.size : Value) = z_c N0 b (z_r w.2.2.2) from by rw [hR.1]; rfl]
    exact h9
  · have n0 : s.vm.findClass "[I" = some (cA 0) := (henv.1.2 0 _ rfl).2
    have n2 : s.vm.findClass "[C" = some (cA 2) := (henv.1.2 2 _ rfl).2
    rcases hty with rfl | rfl
    · have e0 : cX = cA 0 := Option.some.inj ((show s.vm.findClass "[I" = some cX from hNm).symm.trans n0)
      subst e0; exact e1
    · have e0 : cX = cA 2 := Option.some.inj ((show s.vm.findClass "[C" = some cX from hNm).symm.trans n2)
      subst e0; exact e1
