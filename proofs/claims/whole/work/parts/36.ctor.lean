/-! THE CONSTRUCTORS, from nothing on -/
section Z36
variable {X : z_X} {Y : z_Y} {pc nc ns idx : Nat} {lv : List (Nat × z_V)} {st : List z_V} {w w' : z_W} {rm : Room}
theorem z_anewa {i : Int32} {N : Nat} (C : z_C X Y) (hd : decode Y.2.1 pc = .ok (.anewarray idx, 3)) (hrm : X.2.2.2.1 = rm) (h1 : Cond.classLink Y.1.cls idx "TrackHouseModel$Flow" ∈ z_WB) (hn : ¬ i < 0) (hN : i.toNatClampNeg = N) (hbytes : N * 4 ≤ 536870912) (hcells : nc + 1 ≤ rm.cells) (hslots : ns + N ≤ rm.slots) (k : z_G X Y (pc + 3, lv, z_r w.2.2.2 :: st, z_nw w (6, N), nc + 1, ns + N)) : z_G X Y (pc, lv, .inl i :: st, w, nc, ns) := by
  obtain ⟨p, l, e, R, s, m, args, below, meth, c, Q, D, cA, N0, b⟩ := X
  obtain ⟨y0, bs, nL, ret, ft⟩ := Y
  obtain ⟨hx, hb, hml, hown, hts, henv, hlk, hrt, hnm, hft, htr, hN0⟩ := C
  intro H locs ls hR hS hl
  cases hrm
  subst hN
  refine W.anew hx hb hown (hts _ h1) (va_AO.use henv.2.2.2.2.2.2.1) rfl hd rfl hn hbytes hcells hslots fun cX kA comp f1 f2 f3 f4 => ?_
  generalize hH1 : H.push ({ cls := cX, slots := Array.replicate i.toNatClampNeg .null, vm := .none } : Cell) = H1
  have z1 : H1.size = H.size + 1 := by rw [← hH1, Array.size_push]
  have e1 : H1[H.size]? = some (arrV cX i.toNatClampNeg (fun _ => .null)) := by rw [← hH1, Array.getElem?_push_size, ← arrV_new]
  have o1 : ∀ q : Nat, q < H.size → H1[q]? = H[q]? := fun q hq => by rw [← hH1, Array.getElem?_push, if_neg (Nat.ne_of_lt hq)]
  obtain ⟨kA4, comp4, -, -, -, n4⟩ := (henv.1.2 4 _ rfl).2
  have h9 := k H1 locs ls (hR.nw z1 o1 ?_) (z_S_nw hS z1 o1) hl
  · rw [show (Value.ref H.size : Value) = z_c N0 b (z_r w.2.2.2) from by rw [hR.1]; rfl]
    exact h9
  · have e0 : cX = cA 4 := Option.some.inj (f1.symm.trans n4)
    subst e0
    exact e1
theorem z_newC {n ci : Nat} {r : vw_C} (e1 : w.2.2.2 = n) (e2 : z_nw w (1, ci) = w') (C : z_C X Y) (hd : decode Y.2.1 pc = .ok (.new idx, 3)) (hrm : X.2.2.2.1 = rm) (hc : vwCl[ci]? = some r) (h1 : Cond.classLink Y.1.cls idx r.1 ∈ z_WB) (h2 : Cond.instantiable r.1 r.2.2 ∈ z_WB) (h3 : Cond.initialized r.1 ∈ z_WB) (hcells : nc + 1 ≤ rm.cells) (hslots : ns + r.2.2 ≤ rm.slots) (k : z_G X Y (pc + 3, lv, z_r n :: st, w', nc + 1, ns + r.2.2)) : z_G X Y (pc, lv, st, w, nc, ns) := by
  subst e1; subst e2
  exact z_new C hd hrm hc h1 h2 h3 hcells hslots k
theorem z_newaC {n : Nat} {aty : ArrayType} {i : Int32} {N : Nat} (e1 : w.2.2.2 = n) (e2 : z_nw w (z_atag aty, N) = w') (C : z_C X Y) (hd : decode Y.2.1 pc = .ok (.newarray aty, 2)) (hrm : X.2.2.2.1 = rm) (h1 : Cond.arrayClass (newarray.typeOf aty) ∈ z_WB) (hn : ¬ i < 0) (hN : i.toNatClampNeg = N) (hbytes : N * componentBytes (newarray.typeOf aty) ≤ 536870912) (hcells : nc + 1 ≤ rm.cells) (hslots : ns + N ≤ rm.slots) (k : z_G X Y (pc + 2, lv, z_r n :: st, w', nc + 1, ns + N)) : z_G X Y (pc, lv, .inl i :: st, w, nc, ns) := by
  subst e1; subst e2
  exact z_newa C hd hrm h1 hn hN hbytes hcells hslots k
theorem z_anewC {n : Nat} {i : Int32} {N : Nat} (e1 : w.2.2.2 = n) (e2 : z_nw w (6, N) = w') (C : z_C X Y) (hd : decode Y.2.1 pc = .ok (.anewarray idx, 3)) (hrm : X.2.2.2.1 = rm) (h1 : Cond.classLink Y.1.cls idx "TrackHouseModel$Flow" ∈ z_WB) (hn : ¬ i < 0) (hN : i.toNatClampNeg = N) (hbytes : N * 4 ≤ 536870912) (hcells : nc + 1 ≤ rm.cells) (hslots : ns + N ≤ rm.slots) (k : z_G X Y (pc + 3, lv, z_r n :: st, w', nc + 1, ns + N)) : z_G X Y (pc, lv, .inl i :: st, w, nc, ns) := by
  subst e1; subst e2
  exact z_anewa C hd hrm h1 hn hN hbytes hcells hslots k
theorem z_putC {ci j kd a : Nat} {v : z_V} (e2 : z_wr w a j v = w') (C : z_C X Y) (hd : decode Y.2.1 pc = .ok (.putfield idx, 3)) (hf : (idx, ci, j, kd) ∈ Y.2.2.2.2) (hT : w.1 a = (1, ci)) (hv : z_pok kd v) (k : z_G X Y (pc + 3, lv, st, w', nc, ns)) : z_G X Y (pc, lv, v :: z_r a :: st, w, nc, ns) := by
  subst e2
  exact z_put C hd hf hT hv k
theorem z_putFC {ci j kd a : Nat} {v : z_V} (e2 : z_wr w a j v = w') (C : z_C X Y) (hd : decode Y.2.1 pc = .ok (.putfield idx, 3)) (hf : (idx, ci, j, kd + 4) ∈ Y.2.2.2.2) (hin2 : Y.1.name = "<init>") (ho : ∀ r : vw_C, vwCl[ci]? = some r → Y.1.cls = r.1) (hT : w.1 a = (1, ci)) (hv : z_pok kd v) (k : z_G X Y (pc + 3, lv, st, w', nc, ns)) : z_G X Y (pc, lv, v :: z_r a :: st, w, nc, ns) := by
  subst e2
  exact z_putF C hd hf hin2 ho hT hv k
theorem z_iastC {a len : Nat} {i x : Int32} (e2 : ((w.1, w.2.1, z_uS w.2.2.1 a i.toNatClampNeg x, w.2.2.2) : z_W) = w') (C : z_C X Y) (hd : decode Y.2.1 pc = .ok (.iastore, 1)) (hT : w.1 a = (2, len)) (hin : vp_in i len) (k : z_G X Y (pc + 1, lv, st, w', nc, ns)) : z_G X Y (pc, lv, .inl x :: .inl i :: z_r a :: st, w, nc, ns) := by
  subst e2
  exact z_iast C hd hT hin k
theorem z_aastC {a len v : Nat} {i : Int32} (e2 : ((w.1, z_uG w.2.1 a i.toNatClampNeg (some v), w.2.2.1, w.2.2.2) : z_W) = w') (C : z_C X Y) (hd : decode Y.2.1 pc = .ok (.aastore, 1)) (hT : w.1 a = (6, len)) (hin : vp_in i len) (hV : w.1 v = (1, 12)) (k : z_G X Y (pc + 1, lv, st, w', nc, ns)) : z_G X Y (pc, lv, z_r v :: .inl i :: z_r a :: st, w, nc, ns) := by
  subst e2
  exact z_aast C hd hT hin hV k
theorem z_getRC {ci j kd a r : Nat} (C : z_C X Y) (hd : decode Y.2.1 pc = .ok (.getfield idx, 3)) (hf : (idx, ci, j, kd) ∈ Y.2.2.2.2) (hk : kd = 1 ∨ kd = 5) (hT : w.1 a = (1, ci)) (hg : w.2.1 a j = some r) (k : z_G X Y (pc + 3, lv, z_r r :: st, w, nc, ns)) : z_G X Y (pc, lv, z_r a :: st, w, nc, ns) := by
  refine z_get C hd hf hT ?_
  rw [hg]
  rcases hk with rfl | rfl <;> exact k
end Z36
def Wc_0 : z_W := (fun _ => (0, 0), fun _ _ => none, fun _ _ => 0, 0)
theorem Wn_0 : Wc_0.2.2.2 = 0 := rfl
def Wc_1 : z_W := z_nw Wc_0 (1, 11)
theorem Wn_1 : Wc_1.2.2.2 = 1 := congrArg (· + 1) Wn_0
def Wc_2 : z_W := z_nw Wc_1 (1, 4)
theorem Wn_2 : Wc_2.2.2.2 = 2 := congrArg (· + 1) Wn_1
def Wc_3 : z_W := z_nw Wc_2 (2, 900)
theorem Wn_3 : Wc_3.2.2.2 = 3 := congrArg (· + 1) Wn_2
def Wc_4 : z_W := z_wr Wc_3 1 0 (z_r 2)
theorem Wn_4 : Wc_4.2.2.2 = 3 := Wn_3
def Wc_5 : z_W := z_nw Wc_4 (2, 900)
theorem Wn_5 : Wc_5.2.2.2 = 4 := congrArg (· + 1) Wn_4
def Wc_6 : z_W := z_wr Wc_5 1 1 (z_r 3)
theorem Wn_6 : Wc_6.2.2.2 = 4 := Wn_5
def Wc_7 : z_W := z_nw Wc_6 (2, 900)
theorem Wn_7 : Wc_7.2.2.2 = 5 := congrArg (· + 1) Wn_6
def Wc_8 : z_W := z_wr Wc_7 1 2 (z_r 4)
theorem Wn_8 : Wc_8.2.2.2 = 5 := Wn_7
def Wc_9 : z_W := z_nw Wc_8 (2, 900)
theorem Wn_9 : Wc_9.2.2.2 = 6 := congrArg (· + 1) Wn_8
def Wc_10 : z_W := z_wr Wc_9 1 3 (z_r 5)
theorem Wn_10 : Wc_10.2.2.2 = 6 := Wn_9
def Wc_11 : z_W := z_nw Wc_10 (2, 900)
theorem Wn_11 : Wc_11.2.2.2 = 7 := congrArg (· + 1) Wn_10
def Wc_12 : z_W := z_wr Wc_11 1 4 (z_r 6)
theorem Wn_12 : Wc_12.2.2.2 = 7 := Wn_11
def Wc_13 : z_W := z_nw Wc_12 (2, 900)
theorem Wn_13 : Wc_13.2.2.2 = 8 := congrArg (· + 1) Wn_12
def Wc_14 : z_W := z_wr Wc_13 1 5 (z_r 7)
theorem Wn_14 : Wc_14.2.2.2 = 8 := Wn_13
def Wc_15 : z_W := z_nw Wc_14 (2, 900)
theorem Wn_15 : Wc_15.2.2.2 = 9 := congrArg (· + 1) Wn_14
def Wc_16 : z_W := z_wr Wc_15 1 6 (z_r 8)
theorem Wn_16 : Wc_16.2.2.2 = 9 := Wn_15
def Wc_17 : z_W := z_wr Wc_16 1 7 (.inl 0)
theorem Wn_17 : Wc_17.2.2.2 = 9 := Wn_16
theorem ci_2_Log_init : z_Run (zg 1 7 6300) zm_Log_init [z_r 1] Wc_2 (zq none Wc_17) := by
  refine z_body (by decide) zf_Log_ok (Nat.le_of_ble_eq_true rfl) (fun X M => ?_)
  show z_G X zm_Log_init (0, [(0, z_r 1)], [], Wc_2, 0, 0)
  refine z_go2 M.1 0 [(.aload_n 0, 1)] (1, [(0, z_r 1)], [z_r 1], Wc_2, 0, 0) (by decide +kernel) rfl ⟨trivial, trivial⟩ ?_
  refine z_objInit (idx := 3) M.1 (by decide +kernel) M.2.1 (z_wi 191 (by decide +kernel) rfl) (z_wi 184 (by decide +kernel) rfl) (z_wi 185 (by decide +kernel) rfl) rfl (by decide) (by decide) (Nat.le_of_ble_eq_true rfl) ?_
  refine z_go2 M.1 4 [(.aload_n 0, 1), (.sipush 900, 3)] (8, [(0, z_r 1)], [.inl 900, z_r 1], Wc_2, 0, 0) (by decide +kernel) rfl ⟨trivial, trivial, trivial⟩ ?_
  refine z_newaC (n := 2) (aty := .int) (N := 900) (w' := Wc_3) Wn_2 rfl M.1 (by decide +kernel) M.2.1 (z_wi 235 (by decide +kernel) rfl) (by decide) (by decide) (by decide) (by decide) (by decide) ?_
  refine z_putFC (idx := 9) (ci := 4) (j := 0) (kd := 1) (w' := Wc_4) rfl M.1 (by decide +kernel) (by decide) rfl (fun r h => by injection h with h; subst h; rfl) (by decide +kernel) trivial ?_
  refine z_go2 M.1 13 [(.aload_n 0, 1), (.sipush 900, 3)] (17, [(0, z_r 1)], [.inl 900, z_r 1], Wc_4, 1, 900) (by decide +kernel) rfl ⟨trivial, trivial, trivial⟩ ?_
  refine z_newaC (n := 3) (aty := .int) (N := 900) (w' := Wc_5) Wn_4 rfl M.1 (by decide +kernel) M.2.1 (z_wi 235 (by decide +kernel) rfl) (by decide) (by decide) (by decide) (by decide) (by decide) ?_
  refine z_putFC (idx := 15) (ci := 4) (j := 1) (kd := 1) (w' := Wc_6) rfl M.1 (by decide +kernel) (by decide) rfl (fun r h => by injection h with h; subst h; rfl) (by decide +kernel) trivial ?_
  refine z_go2 M.1 22 [(.aload_n 0, 1), (.sipush 900, 3)] (26, [(0, z_r 1)], [.inl 900, z_r 1], Wc_6, 2, 1800) (by decide +kernel) rfl ⟨trivial, trivial, trivial⟩ ?_
  refine z_newaC (n := 4) (aty := .int) (N := 900) (w' := Wc_7) Wn_6 rfl M.1 (by decide +kernel) M.2.1 (z_wi 235 (by decide +kernel) rfl) (by decide) (by decide) (by decide) (by decide) (by decide) ?_
  refine z_putFC (idx := 18) (ci := 4) (j := 2) (kd := 1) (w' := Wc_8) rfl M.1 (by decide +kernel) (by decide) rfl (fun r h => by injection h with h; subst h; rfl) (by decide +kernel) trivial ?_
  refine z_go2 M.1 31 [(.aload_n 0, 1), (.sipush 900, 3)] (35, [(0, z_r 1)], [.inl 900, z_r 1], Wc_8, 3, 2700) (by decide +kernel) rfl ⟨trivial, trivial, trivial⟩ ?_
  refine z_newaC (n := 5) (aty := .int) (N := 900) (w' := Wc_9) Wn_8 rfl M.1 (by decide +kernel) M.2.1 (z_wi 235 (by decide +kernel) rfl) (by decide) (by decide) (by decide) (by decide) (by decide) ?_
  refine z_putFC (idx := 21) (ci := 4) (j := 3) (kd := 1) (w' := Wc_10) rfl M.1 (by decide +kernel) (by decide) rfl (fun r h => by injection h with h; subst h; rfl) (by decide +kernel) trivial ?_
  refine z_go2 M.1 40 [(.aload_n 0, 1), (.sipush 900, 3)] (44, [(0, z_r 1)], [.inl 900, z_r 1], Wc_10, 4, 3600) (by decide +kernel) rfl ⟨trivial, trivial, trivial⟩ ?_
  refine z_newaC (n := 6) (aty := .int) (N := 900) (w' := Wc_11) Wn_10 rfl M.1 (by decide +kernel) M.2.1 (z_wi 235 (by decide +kernel) rfl) (by decide) (by decide) (by decide) (by decide) (by decide) ?_
  refine z_putFC (idx := 24) (ci := 4) (j := 4) (kd := 1) (w' := Wc_12) rfl M.1 (by decide +kernel) (by decide) rfl (fun r h => by injection h with h; subst h; rfl) (by decide +kernel) trivial ?_
  refine z_go2 M.1 49 [(.aload_n 0, 1), (.sipush 900, 3)] (53, [(0, z_r 1)], [.inl 900, z_r 1], Wc_12, 5, 4500) (by decide +kernel) rfl ⟨trivial, trivial, trivial⟩ ?_
  refine z_newaC (n := 7) (aty := .int) (N := 900) (w' := Wc_13) Wn_12 rfl M.1 (by decide +kernel) M.2.1 (z_wi 235 (by decide +kernel) rfl) (by decide) (by decide) (by decide) (by decide) (by decide) ?_
  refine z_putFC (idx := 27) (ci := 4) (j := 5) (kd := 1) (w' := Wc_14) rfl M.1 (by decide +kernel) (by decide) rfl (fun r h => by injection h with h; subst h; rfl) (by decide +kernel) trivial ?_
  refine z_go2 M.1 58 [(.aload_n 0, 1), (.sipush 900, 3)] (62, [(0, z_r 1)], [.inl 900, z_r 1], Wc_14, 6, 5400) (by decide +kernel) rfl ⟨trivial, trivial, trivial⟩ ?_
  refine z_newaC (n := 8) (aty := .int) (N := 900) (w' := Wc_15) Wn_14 rfl M.1 (by decide +kernel) M.2.1 (z_wi 235 (by decide +kernel) rfl) (by decide) (by decide) (by decide) (by decide) (by decide) ?_
  refine z_putFC (idx := 30) (ci := 4) (j := 6) (kd := 1) (w' := Wc_16) rfl M.1 (by decide +kernel) (by decide) rfl (fun r h => by injection h with h; subst h; rfl) (by decide +kernel) trivial ?_
  refine z_go2 M.1 67 [(.aload_n 0, 1), (.iconst 0, 1)] (69, [(0, z_r 1)], [.inl 0, z_r 1], Wc_16, 7, 6300) (by decide +kernel) rfl ⟨trivial, trivial, trivial⟩ ?_
  refine z_putC (idx := 33) (ci := 4) (j := 7) (kd := 0) (w' := Wc_17) rfl M.1 (by decide +kernel) (by decide) (by decide +kernel) trivial ?_
  exact z_vret M (by decide +kernel) rfl (by decide) (by decide) ⟨rfl, rfl⟩
def Wc_18 : z_W := z_wr Wc_17 0 0 (z_r 1)
theorem Wn_18 : Wc_18.2.2.2 = 9 := Wn_17
def Wc_19 : z_W := z_nw Wc_18 (1, 10)
theorem Wn_19 : Wc_19.2.2.2 = 10 := congrArg (· + 1) Wn_18
def Wc_20 : z_W := z_nw Wc_19 (2, 300)
theorem Wn_20 : Wc_20.2.2.2 = 11 := congrArg (· + 1) Wn_19
def Wc_21 : z_W := z_wr Wc_20 9 0 (z_r 10)
theorem Wn_21 : Wc_21.2.2.2 = 11 := Wn_20
def Wc_22 : z_W := z_nw Wc_21 (2, 90)
theorem Wn_22 : Wc_22.2.2.2 = 12 := congrArg (· + 1) Wn_21
def Wc_23 : z_W := z_wr Wc_22 9 1 (z_r 11)
theorem Wn_23 : Wc_23.2.2.2 = 12 := Wn_22
def Wc_24 : z_W := z_nw Wc_23 (2, 24)
theorem Wn_24 : Wc_24.2.2.2 = 13 := congrArg (· + 1) Wn_23
def Wc_25 : z_W := z_wr Wc_24 9 2 (z_r 12)
theorem Wn_25 : Wc_25.2.2.2 = 13 := Wn_24
def Wc_26 : z_W := z_wr Wc_25 9 3 (.inl 0)
theorem Wn_26 : Wc_26.2.2.2 = 13 := Wn_25
theorem ci_19_World_init : z_Run (zg 1 3 414) zm_World_init [z_r 9] Wc_19 (zq none Wc_26) := by
  refine z_body (by decide) zf_World_ok (Nat.le_of_ble_eq_true rfl) (fun X M => ?_)
  show z_G X zm_World_init (0, [(0, z_r 9)], [], Wc_19, 0, 0)
  refine z_go2 M.1 0 [(.aload_n 0, 1)] (1, [(0, z_r 9)], [z_r 9], Wc_19, 0, 0) (by decide +kernel) rfl ⟨trivial, trivial⟩ ?_
  refine z_objInit (idx := 3) M.1 (by decide +kernel) M.2.1 (z_wi 241 (by decide +kernel) rfl) (z_wi 184 (by decide +kernel) rfl) (z_wi 185 (by decide +kernel) rfl) rfl (by decide) (by decide) (Nat.le_of_ble_eq_true rfl) ?_
  refine z_go2 M.1 4 [(.aload_n 0, 1), (.sipush 300, 3)] (8, [(0, z_r 9)], [.inl 300, z_r 9], Wc_19, 0, 0) (by decide +kernel) rfl ⟨trivial, trivial, trivial⟩ ?_
  refine z_newaC (n := 10) (aty := .int) (N := 300) (w' := Wc_20) Wn_19 rfl M.1 (by decide +kernel) M.2.1 (z_wi 235 (by decide +kernel) rfl) (by decide) (by decide) (by decide) (by decide) (by decide) ?_
  refine z_putFC (idx := 9) (ci := 10) (j := 0) (kd := 1) (w' := Wc_21) rfl M.1 (by decide +kernel) (by decide) rfl (fun r h => by injection h with h; subst h; rfl) (by decide +kernel) trivial ?_
  refine z_go2 M.1 13 [(.aload_n 0, 1), (.bipush 90, 2)] (16, [(0, z_r 9)], [.inl 90, z_r 9], Wc_21, 1, 300) (by decide +kernel) rfl ⟨trivial, trivial, trivial⟩ ?_
  refine z_newaC (n := 11) (aty := .int) (N := 90) (w' := Wc_22) Wn_21 rfl M.1 (by decide +kernel) M.2.1 (z_wi 235 (by decide +kernel) rfl) (by decide) (by decide) (by decide) (by decide) (by decide) ?_
  refine z_putFC (idx := 15) (ci := 10) (j := 1) (kd := 1) (w' := Wc_23) rfl M.1 (by decide +kernel) (by decide) rfl (fun r h => by injection h with h; subst h; rfl) (by decide +kernel) trivial ?_
  refine z_go2 M.1 21 [(.aload_n 0, 1), (.bipush 24, 2)] (24, [(0, z_r 9)], [.inl 24, z_r 9], Wc_23, 2, 390) (by decide +kernel) rfl ⟨trivial, trivial, trivial⟩ ?_
  refine z_newaC (n := 12) (aty := .int) (N := 24) (w' := Wc_24) Wn_23 rfl M.1 (by decide +kernel) M.2.1 (z_wi 235 (by decide +kernel) rfl) (by decide) (by decide) (by decide) (by decide) (by decide) ?_
  refine z_putFC (idx := 18) (ci := 10) (j := 2) (kd := 1) (w' := Wc_25) rfl M.1 (by decide +kernel) (by decide) rfl (fun r h => by injection h with h; subst h; rfl) (by decide +kernel) trivial ?_
  refine z_go2 M.1 29 [(.aload_n 0, 1), (.iconst 0, 1)] (31, [(0, z_r 9)], [.inl 0, z_r 9], Wc_25, 3, 414) (by decide +kernel) rfl ⟨trivial, trivial, trivial⟩ ?_
  refine z_putC (idx := 21) (ci := 10) (j := 3) (kd := 0) (w' := Wc_26) rfl M.1 (by decide +kernel) (by decide) (by decide +kernel) trivial ?_
  exact z_vret M (by decide +kernel) rfl (by decide) (by decide) ⟨rfl, rfl⟩
def Wc_27 : z_W := z_wr Wc_26 0 1 (z_r 9)
theorem Wn_27 : Wc_27.2.2.2 = 13 := Wn_26
def Wc_28 : z_W := z_nw Wc_27 (1, 10)
theorem Wn_28 : Wc_28.2.2.2 = 14 := congrArg (· + 1) Wn_27
def Wc_29 : z_W := z_nw Wc_28 (2, 300)
theorem Wn_29 : Wc_29.2.2.2 = 15 := congrArg (· + 1) Wn_28
def Wc_30 : z_W := z_wr Wc_29 13 0 (z_r 14)
theorem Wn_30 : Wc_30.2.2.2 = 15 := Wn_29
def Wc_31 : z_W := z_nw Wc_30 (2, 90)
theorem Wn_31 : Wc_31.2.2.2 = 16 := congrArg (· + 1) Wn_30
def Wc_32 : z_W := z_wr Wc_31 13 1 (z_r 15)
theorem Wn_32 : Wc_32.2.2.2 = 16 := Wn_31
def Wc_33 : z_W := z_nw Wc_32 (2, 24)
theorem Wn_33 : Wc_33.2.2.2 = 17 := congrArg (· + 1) Wn_32
def Wc_34 : z_W := z_wr Wc_33 13 2 (z_r 16)
theorem Wn_34 : Wc_34.2.2.2 = 17 := Wn_33
def Wc_35 : z_W := z_wr Wc_34 13 3 (.inl 0)
theorem Wn_35 : Wc_35.2.2.2 = 17 := Wn_34
theorem ci_28_World_init : z_Run (zg 1 3 414) zm_World_init [z_r 13] Wc_28 (zq none Wc_35) := by
  refine z_body (by decide) zf_World_ok (Nat.le_of_ble_eq_true rfl) (fun X M => ?_)
  show z_G X zm_World_init (0, [(0, z_r 13)], [], Wc_28, 0, 0)
  refine z_go2 M.1 0 [(.aload_n 0, 1)] (1, [(0, z_r 13)], [z_r 13], Wc_28, 0, 0) (by decide +kernel) rfl ⟨trivial, trivial⟩ ?_
  refine z_objInit (idx := 3) M.1 (by decide +kernel) M.2.1 (z_wi 241 (by decide +kernel) rfl) (z_wi 184 (by decide +kernel) rfl) (z_wi 185 (by decide +kernel) rfl) rfl (by decide) (by decide) (Nat.le_of_ble_eq_true rfl) ?_
  refine z_go2 M.1 4 [(.aload_n 0, 1), (.sipush 300, 3)] (8, [(0, z_r 13)], [.inl 300, z_r 13], Wc_28, 0, 0) (by decide +kernel) rfl ⟨trivial, trivial, trivial⟩ ?_
  refine z_newaC (n := 14) (aty := .int) (N := 300) (w' := Wc_29) Wn_28 rfl M.1 (by decide +kernel) M.2.1 (z_wi 235 (by decide +kernel) rfl) (by decide) (by decide) (by decide) (by decide) (by decide) ?_
  refine z_putFC (idx := 9) (ci := 10) (j := 0) (kd := 1) (w' := Wc_30) rfl M.1 (by decide +kernel) (by decide) rfl (fun r h => by injection h with h; subst h; rfl) (by decide +kernel) trivial ?_
  refine z_go2 M.1 13 [(.aload_n 0, 1), (.bipush 90, 2)] (16, [(0, z_r 13)], [.inl 90, z_r 13], Wc_30, 1, 300) (by decide +kernel) rfl ⟨trivial, trivial, trivial⟩ ?_
  refine z_newaC (n := 15) (aty := .int) (N := 90) (w' := Wc_31) Wn_30 rfl M.1 (by decide +kernel) M.2.1 (z_wi 235 (by decide +kernel) rfl) (by decide) (by decide) (by decide) (by decide) (by decide) ?_
  refine z_putFC (idx := 15) (ci := 10) (j := 1) (kd := 1) (w' := Wc_32) rfl M.1 (by decide +kernel) (by decide) rfl (fun r h => by injection h with h; subst h; rfl) (by decide +kernel) trivial ?_
  refine z_go2 M.1 21 [(.aload_n 0, 1), (.bipush 24, 2)] (24, [(0, z_r 13)], [.inl 24, z_r 13], Wc_32, 2, 390) (by decide +kernel) rfl ⟨trivial, trivial, trivial⟩ ?_
  refine z_newaC (n := 16) (aty := .int) (N := 24) (w' := Wc_33) Wn_32 rfl M.1 (by decide +kernel) M.2.1 (z_wi 235 (by decide +kernel) rfl) (by decide) (by decide) (by decide) (by decide) (by decide) ?_
  refine z_putFC (idx := 18) (ci := 10) (j := 2) (kd := 1) (w' := Wc_34) rfl M.1 (by decide +kernel) (by decide) rfl (fun r h => by injection h with h; subst h; rfl) (by decide +kernel) trivial ?_
  refine z_go2 M.1 29 [(.aload_n 0, 1), (.iconst 0, 1)] (31, [(0, z_r 13)], [.inl 0, z_r 13], Wc_34, 3, 414) (by decide +kernel) rfl ⟨trivial, trivial, trivial⟩ ?_
  refine z_putC (idx := 21) (ci := 10) (j := 3) (kd := 0) (w' := Wc_35) rfl M.1 (by decide +kernel) (by decide) (by decide +kernel) trivial ?_
  exact z_vret M (by decide +kernel) rfl (by decide) (by decide) ⟨rfl, rfl⟩
def Wc_36 : z_W := z_wr Wc_35 0 2 (z_r 13)
theorem Wn_36 : Wc_36.2.2.2 = 17 := Wn_35
def Wc_37 : z_W := z_nw Wc_36 (1, 1)
theorem Wn_37 : Wc_37.2.2.2 = 18 := congrArg (· + 1) Wn_36
def Wc_38 : z_W := z_nw Wc_37 (2, 30)
theorem Wn_38 : Wc_38.2.2.2 = 19 := congrArg (· + 1) Wn_37
def Wc_39 : z_W := z_wr Wc_38 17 0 (z_r 18)
theorem Wn_39 : Wc_39.2.2.2 = 19 := Wn_38
def Wc_40 : z_W := z_nw Wc_39 (1, 5)
theorem Wn_40 : Wc_40.2.2.2 = 20 := congrArg (· + 1) Wn_39
def Wc_41 : z_W := z_nw Wc_40 (4, 30)
theorem Wn_41 : Wc_41.2.2.2 = 21 := congrArg (· + 1) Wn_40
def Wc_42 : z_W := z_wr Wc_41 19 0 (z_r 20)
theorem Wn_42 : Wc_42.2.2.2 = 21 := Wn_41
def Wc_43 : z_W := z_nw Wc_42 (2, 30)
theorem Wn_43 : Wc_43.2.2.2 = 22 := congrArg (· + 1) Wn_42
def Wc_44 : z_W := z_wr Wc_43 19 1 (z_r 21)
theorem Wn_44 : Wc_44.2.2.2 = 22 := Wn_43
def Wc_45 : z_W := z_nw Wc_44 (2, 30)
theorem Wn_45 : Wc_45.2.2.2 = 23 := congrArg (· + 1) Wn_44
def Wc_46 : z_W := z_wr Wc_45 19 2 (z_r 22)
theorem Wn_46 : Wc_46.2.2.2 = 23 := Wn_45
def Wc_47 : z_W := z_nw Wc_46 (2, 30)
theorem Wn_47 : Wc_47.2.2.2 = 24 := congrArg (· + 1) Wn_46
def Wc_48 : z_W := z_wr Wc_47 19 3 (z_r 23)
theorem Wn_48 : Wc_48.2.2.2 = 24 := Wn_47
def Wc_49 : z_W := z_nw Wc_48 (2, 30)
theorem Wn_49 : Wc_49.2.2.2 = 25 := congrArg (· + 1) Wn_48
def Wc_50 : z_W := z_wr Wc_49 19 4 (z_r 24)
theorem Wn_50 : Wc_50.2.2.2 = 25 := Wn_49
def Wc_51 : z_W := z_nw Wc_50 (2, 30)
theorem Wn_51 : Wc_51.2.2.2 = 26 := congrArg (· + 1) Wn_50
def Wc_52 : z_W := z_wr Wc_51 19 5 (z_r 25)
theorem Wn_52 : Wc_52.2.2.2 = 26 := Wn_51
def Wc_53 : z_W := z_nw Wc_52 (2, 30)
theorem Wn_53 : Wc_53.2.2.2 = 27 := congrArg (· + 1) Wn_52
def Wc_54 : z_W := z_wr Wc_53 19 6 (z_r 26)
theorem Wn_54 : Wc_54.2.2.2 = 27 := Wn_53
def Wc_55 : z_W := z_wr Wc_54 19 7 (.inl 0)
theorem Wn_55 : Wc_55.2.2.2 = 27 := Wn_54
def Wc_56 : z_W := z_wr Wc_55 19 8 (.inl 0)
theorem Wn_56 : Wc_56.2.2.2 = 27 := Wn_55
def Wc_57 : z_W := z_wr Wc_56 19 9 (.inl 0)
theorem Wn_57 : Wc_57.2.2.2 = 27 := Wn_56
def Wc_58 : z_W := z_wr Wc_57 19 10 (.inl 0)
theorem Wn_58 : Wc_58.2.2.2 = 27 := Wn_57
def Wc_59 : z_W := z_wr Wc_58 19 11 (.inl 1)
theorem Wn_59 : Wc_59.2.2.2 = 27 := Wn_58
theorem ci_40_Query_init : z_Run (zg 1 7 210) zm_Query_init [z_r 19] Wc_40 (zq none Wc_59) := by
  refine z_body (by decide) zf_Query_ok (Nat.le_of_ble_eq_true rfl) (fun X M => ?_)
  show z_G X zm_Query_init (0, [(0, z_r 19)], [], Wc_40, 0, 0)
  refine z_go2 M.1 0 [(.aload_n 0, 1)] (1, [(0, z_r 19)], [z_r 19], Wc_40, 0, 0) (by decide +kernel) rfl ⟨trivial, trivial⟩ ?_
  refine z_objInit (idx := 3) M.1 (by decide +kernel) M.2.1 (z_wi 267 (by decide +kernel) rfl) (z_wi 184 (by decide +kernel) rfl) (z_wi 185 (by decide +kernel) rfl) rfl (by decide) (by decide) (Nat.le_of_ble_eq_true rfl) ?_
  refine z_go2 M.1 4 [(.aload_n 0, 1), (.bipush 30, 2)] (7, [(0, z_r 19)], [.inl 30, z_r 19], Wc_40, 0, 0) (by decide +kernel) rfl ⟨trivial, trivial, trivial⟩ ?_
  refine z_newaC (n := 20) (aty := .char) (N := 30) (w' := Wc_41) Wn_40 rfl M.1 (by decide +kernel) M.2.1 (z_wi 311 (by decide +kernel) rfl) (by decide) (by decide) (by decide) (by decide) (by decide) ?_
  refine z_putFC (idx := 9) (ci := 5) (j := 0) (kd := 1) (w' := Wc_42) rfl M.1 (by decide +kernel) (by decide) rfl (fun r h => by injection h with h; subst h; rfl) (by decide +kernel) trivial ?_
  refine z_go2 M.1 12 [(.aload_n 0, 1), (.bipush 30, 2)] (15, [(0, z_r 19)], [.inl 30, z_r 19], Wc_42, 1, 30) (by decide +kernel) rfl ⟨trivial, trivial, trivial⟩ ?_
  refine z_newaC (n := 21) (aty := .int) (N := 30) (w' := Wc_43) Wn_42 rfl M.1 (by decide +kernel) M.2.1 (z_wi 235 (by decide +kernel) rfl) (by decide) (by decide) (by decide) (by decide) (by decide) ?_
  refine z_putFC (idx := 15) (ci := 5) (j := 1) (kd := 1) (w' := Wc_44) rfl M.1 (by decide +kernel) (by decide) rfl (fun r h => by injection h with h; subst h; rfl) (by decide +kernel) trivial ?_
  refine z_go2 M.1 20 [(.aload_n 0, 1), (.bipush 30, 2)] (23, [(0, z_r 19)], [.inl 30, z_r 19], Wc_44, 2, 60) (by decide +kernel) rfl ⟨trivial, trivial, trivial⟩ ?_
  refine z_newaC (n := 22) (aty := .int) (N := 30) (w' := Wc_45) Wn_44 rfl M.1 (by decide +kernel) M.2.1 (z_wi 235 (by decide +kernel) rfl) (by decide) (by decide) (by decide) (by decide) (by decide) ?_
  refine z_putFC (idx := 19) (ci := 5) (j := 2) (kd := 1) (w' := Wc_46) rfl M.1 (by decide +kernel) (by decide) rfl (fun r h => by injection h with h; subst h; rfl) (by decide +kernel) trivial ?_
  refine z_go2 M.1 28 [(.aload_n 0, 1), (.bipush 30, 2)] (31, [(0, z_r 19)], [.inl 30, z_r 19], Wc_46, 3, 90) (by decide +kernel) rfl ⟨trivial, trivial, trivial⟩ ?_
  refine z_newaC (n := 23) (aty := .int) (N := 30) (w' := Wc_47) Wn_46 rfl M.1 (by decide +kernel) M.2.1 (z_wi 235 (by decide +kernel) rfl) (by decide) (by decide) (by decide) (by decide) (by decide) ?_
  refine z_putFC (idx := 22) (ci := 5) (j := 3) (kd := 1) (w' := Wc_48) rfl M.1 (by decide +kernel) (by decide) rfl (fun r h => by injection h with h; subst h; rfl) (by decide +kernel) trivial ?_
  refine z_go2 M.1 36 [(.aload_n 0, 1), (.bipush 30, 2)] (39, [(0, z_r 19)], [.inl 30, z_r 19], Wc_48, 4, 120) (by decide +kernel) rfl ⟨trivial, trivial, trivial⟩ ?_
  refine z_newaC (n := 24) (aty := .int) (N := 30) (w' := Wc_49) Wn_48 rfl M.1 (by decide +kernel) M.2.1 (z_wi 235 (by decide +kernel) rfl) (by decide) (by decide) (by decide) (by decide) (by decide) ?_
  refine z_putFC (idx := 25) (ci := 5) (j := 4) (kd := 1) (w' := Wc_50) rfl M.1 (by decide +kernel) (by decide) rfl (fun r h => by injection h with h; subst h; rfl) (by decide +kernel) trivial ?_
  refine z_go2 M.1 44 [(.aload_n 0, 1), (.bipush 30, 2)] (47, [(0, z_r 19)], [.inl 30, z_r 19], Wc_50, 5, 150) (by decide +kernel) rfl ⟨trivial, trivial, trivial⟩ ?_
  refine z_newaC (n := 25) (aty := .int) (N := 30) (w' := Wc_51) Wn_50 rfl M.1 (by decide +kernel) M.2.1 (z_wi 235 (by decide +kernel) rfl) (by decide) (by decide) (by decide) (by decide) (by decide) ?_
  refine z_putFC (idx := 28) (ci := 5) (j := 5) (kd := 1) (w' := Wc_52) rfl M.1 (by decide +kernel) (by decide) rfl (fun r h => by injection h with h; subst h; rfl) (by decide +kernel) trivial ?_
  refine z_go2 M.1 52 [(.aload_n 0, 1), (.bipush 30, 2)] (55, [(0, z_r 19)], [.inl 30, z_r 19], Wc_52, 6, 180) (by decide +kernel) rfl ⟨trivial, trivial, trivial⟩ ?_
  refine z_newaC (n := 26) (aty := .int) (N := 30) (w' := Wc_53) Wn_52 rfl M.1 (by decide +kernel) M.2.1 (z_wi 235 (by decide +kernel) rfl) (by decide) (by decide) (by decide) (by decide) (by decide) ?_
  refine z_putFC (idx := 31) (ci := 5) (j := 6) (kd := 1) (w' := Wc_54) rfl M.1 (by decide +kernel) (by decide) rfl (fun r h => by injection h with h; subst h; rfl) (by decide +kernel) trivial ?_
  refine z_go2 M.1 60 [(.aload_n 0, 1), (.iconst 0, 1)] (62, [(0, z_r 19)], [.inl 0, z_r 19], Wc_54, 7, 210) (by decide +kernel) rfl ⟨trivial, trivial, trivial⟩ ?_
  refine z_putC (idx := 34) (ci := 5) (j := 7) (kd := 0) (w' := Wc_55) rfl M.1 (by decide +kernel) (by decide) (by decide +kernel) trivial ?_
  refine z_go2 M.1 65 [(.aload_n 0, 1), (.iconst 0, 1)] (67, [(0, z_r 19)], [.inl 0, z_r 19], Wc_55, 7, 210) (by decide +kernel) rfl ⟨trivial, trivial, trivial⟩ ?_
  refine z_putC (idx := 38) (ci := 5) (j := 8) (kd := 0) (w' := Wc_56) rfl M.1 (by decide +kernel) (by decide) (by decide +kernel) trivial ?_
  refine z_go2 M.1 70 [(.aload_n 0, 1), (.iconst 0, 1)] (72, [(0, z_r 19)], [.inl 0, z_r 19], Wc_56, 7, 210) (by decide +kernel) rfl ⟨trivial, trivial, trivial⟩ ?_
  refine z_putC (idx := 41) (ci := 5) (j := 9) (kd := 0) (w' := Wc_57) rfl M.1 (by decide +kernel) (by decide) (by decide +kernel) trivial ?_
  refine z_go2 M.1 75 [(.aload_n 0, 1), (.iconst 0, 1)] (77, [(0, z_r 19)], [.inl 0, z_r 19], Wc_57, 7, 210) (by decide +kernel) rfl ⟨trivial, trivial, trivial⟩ ?_
  refine z_putC (idx := 44) (ci := 5) (j := 10) (kd := 0) (w' := Wc_58) rfl M.1 (by decide +kernel) (by decide) (by decide +kernel) trivial ?_
  refine z_go2 M.1 80 [(.aload_n 0, 1), (.iconst 1, 1)] (82, [(0, z_r 19)], [.inl 1, z_r 19], Wc_58, 7, 210) (by decide +kernel) rfl ⟨trivial, trivial, trivial⟩ ?_
  refine z_putC (idx := 47) (ci := 5) (j := 11) (kd := 2) (w' := Wc_59) rfl M.1 (by decide +kernel) (by decide) (by decide +kernel) (Or.inr rfl) ?_
  exact z_vret M (by decide +kernel) rfl (by decide) (by decide) ⟨rfl, rfl⟩
def Wc_60 : z_W := z_wr Wc_59 17 1 (z_r 19)
theorem Wn_60 : Wc_60.2.2.2 = 27 := Wn_59
def Wc_61 : z_W := z_nw Wc_60 (1, 9)
theorem Wn_61 : Wc_61.2.2.2 = 28 := congrArg (· + 1) Wn_60
def Wc_62 : z_W := z_nw Wc_61 (1, 10)
theorem Wn_62 : Wc_62.2.2.2 = 29 := congrArg (· + 1) Wn_61
def Wc_63 : z_W := z_nw Wc_62 (2, 300)
theorem Wn_63 : Wc_63.2.2.2 = 30 := congrArg (· + 1) Wn_62
def Wc_64 : z_W := z_wr Wc_63 28 0 (z_r 29)
theorem Wn_64 : Wc_64.2.2.2 = 30 := Wn_63
def Wc_65 : z_W := z_nw Wc_64 (2, 90)
theorem Wn_65 : Wc_65.2.2.2 = 31 := congrArg (· + 1) Wn_64
def Wc_66 : z_W := z_wr Wc_65 28 1 (z_r 30)
theorem Wn_66 : Wc_66.2.2.2 = 31 := Wn_65
def Wc_67 : z_W := z_nw Wc_66 (2, 24)
theorem Wn_67 : Wc_67.2.2.2 = 32 := congrArg (· + 1) Wn_66
def Wc_68 : z_W := z_wr Wc_67 28 2 (z_r 31)
theorem Wn_68 : Wc_68.2.2.2 = 32 := Wn_67
def Wc_69 : z_W := z_wr Wc_68 28 3 (.inl 0)
theorem Wn_69 : Wc_69.2.2.2 = 32 := Wn_68
theorem ci_62_World_init : z_Run (zg 1 3 414) zm_World_init [z_r 28] Wc_62 (zq none Wc_69) := by
  refine z_body (by decide) zf_World_ok (Nat.le_of_ble_eq_true rfl) (fun X M => ?_)
  show z_G X zm_World_init (0, [(0, z_r 28)], [], Wc_62, 0, 0)
  refine z_go2 M.1 0 [(.aload_n 0, 1)] (1, [(0, z_r 28)], [z_r 28], Wc_62, 0, 0) (by decide +kernel) rfl ⟨trivial, trivial⟩ ?_
  refine z_objInit (idx := 3) M.1 (by decide +kernel) M.2.1 (z_wi 241 (by decide +kernel) rfl) (z_wi 184 (by decide +kernel) rfl) (z_wi 185 (by decide +kernel) rfl) rfl (by decide) (by decide) (Nat.le_of_ble_eq_true rfl) ?_
  refine z_go2 M.1 4 [(.aload_n 0, 1), (.sipush 300, 3)] (8, [(0, z_r 28)], [.inl 300, z_r 28], Wc_62, 0, 0) (by decide +kernel) rfl ⟨trivial, trivial, trivial⟩ ?_
  refine z_newaC (n := 29) (aty := .int) (N := 300) (w' := Wc_63) Wn_62 rfl M.1 (by decide +kernel) M.2.1 (z_wi 235 (by decide +kernel) rfl) (by decide) (by decide) (by decide) (by decide) (by decide) ?_
  refine z_putFC (idx := 9) (ci := 10) (j := 0) (kd := 1) (w' := Wc_64) rfl M.1 (by decide +kernel) (by decide) rfl (fun r h => by injection h with h; subst h; rfl) (by decide +kernel) trivial ?_
  refine z_go2 M.1 13 [(.aload_n 0, 1), (.bipush 90, 2)] (16, [(0, z_r 28)], [.inl 90, z_r 28], Wc_64, 1, 300) (by decide +kernel) rfl ⟨trivial, trivial, trivial⟩ ?_
  refine z_newaC (n := 30) (aty := .int) (N := 90) (w' := Wc_65) Wn_64 rfl M.1 (by decide +kernel) M.2.1 (z_wi 235 (by decide +kernel) rfl) (by decide) (by decide) (by decide) (by decide) (by decide) ?_
  refine z_putFC (idx := 15) (ci := 10) (j := 1) (kd := 1) (w' := Wc_66) rfl M.1 (by decide +kernel) (by decide) rfl (fun r h => by injection h with h; subst h; rfl) (by decide +kernel) trivial ?_
  refine z_go2 M.1 21 [(.aload_n 0, 1), (.bipush 24, 2)] (24, [(0, z_r 28)], [.inl 24, z_r 28], Wc_66, 2, 390) (by decide +kernel) rfl ⟨trivial, trivial, trivial⟩ ?_
  refine z_newaC (n := 31) (aty := .int) (N := 24) (w' := Wc_67) Wn_66 rfl M.1 (by decide +kernel) M.2.1 (z_wi 235 (by decide +kernel) rfl) (by decide) (by decide) (by decide) (by decide) (by decide) ?_
  refine z_putFC (idx := 18) (ci := 10) (j := 2) (kd := 1) (w' := Wc_68) rfl M.1 (by decide +kernel) (by decide) rfl (fun r h => by injection h with h; subst h; rfl) (by decide +kernel) trivial ?_
  refine z_go2 M.1 29 [(.aload_n 0, 1), (.iconst 0, 1)] (31, [(0, z_r 28)], [.inl 0, z_r 28], Wc_68, 3, 414) (by decide +kernel) rfl ⟨trivial, trivial, trivial⟩ ?_
  refine z_putC (idx := 21) (ci := 10) (j := 3) (kd := 0) (w' := Wc_69) rfl M.1 (by decide +kernel) (by decide) (by decide +kernel) trivial ?_
  exact z_vret M (by decide +kernel) rfl (by decide) (by decide) ⟨rfl, rfl⟩
def Wc_70 : z_W := z_wr Wc_69 27 0 (z_r 28)
theorem Wn_70 : Wc_70.2.2.2 = 32 := Wn_69
def Wc_71 : z_W := z_nw Wc_70 (2, 30)
theorem Wn_71 : Wc_71.2.2.2 = 33 := congrArg (· + 1) Wn_70
def Wc_72 : z_W := z_wr Wc_71 27 1 (z_r 32)
theorem Wn_72 : Wc_72.2.2.2 = 33 := Wn_71
def Wc_73 : z_W := z_nw Wc_72 (2, 180)
theorem Wn_73 : Wc_73.2.2.2 = 34 := congrArg (· + 1) Wn_72
def Wc_74 : z_W := z_wr Wc_73 27 2 (z_r 33)
theorem Wn_74 : Wc_74.2.2.2 = 34 := Wn_73
def Wc_75 : z_W := z_nw Wc_74 (2, 30)
theorem Wn_75 : Wc_75.2.2.2 = 35 := congrArg (· + 1) Wn_74
def Wc_76 : z_W := z_wr Wc_75 27 3 (z_r 34)
theorem Wn_76 : Wc_76.2.2.2 = 35 := Wn_75
def Wc_77 : z_W := z_nw Wc_76 (2, 30)
theorem Wn_77 : Wc_77.2.2.2 = 36 := congrArg (· + 1) Wn_76
def Wc_78 : z_W := z_wr Wc_77 27 4 (z_r 35)
theorem Wn_78 : Wc_78.2.2.2 = 36 := Wn_77
def Wc_79 : z_W := z_wr Wc_78 27 5 (.inl 0)
theorem Wn_79 : Wc_79.2.2.2 = 36 := Wn_78
theorem ci_61_View_init : z_Run (zg 2 8 688) zm_View_init [z_r 27] Wc_61 (zq none Wc_79) := by
  refine z_body (by decide) zf_View_ok (Nat.le_of_ble_eq_true rfl) (fun X M => ?_)
  show z_G X zm_View_init (0, [(0, z_r 27)], [], Wc_61, 0, 0)
  refine z_go2 M.1 0 [(.aload_n 0, 1)] (1, [(0, z_r 27)], [z_r 27], Wc_61, 0, 0) (by decide +kernel) rfl ⟨trivial, trivial⟩ ?_
  refine z_objInit (idx := 3) M.1 (by decide +kernel) M.2.1 (z_wi 317 (by decide +kernel) rfl) (z_wi 184 (by decide +kernel) rfl) (z_wi 185 (by decide +kernel) rfl) rfl (by decide) (by decide) (Nat.le_of_ble_eq_true rfl) ?_
  refine z_go2 M.1 4 [(.aload_n 0, 1)] (5, [(0, z_r 27)], [z_r 27], Wc_61, 0, 0) (by decide +kernel) rfl ⟨trivial, trivial⟩ ?_
  refine z_newC (idx := 9) (n := 28) (ci := 10) (r := (RX10, TX10, 4)) (w' := Wc_62) Wn_61 rfl M.1 (by decide +kernel) M.2.1 rfl (z_wi 318 (by decide +kernel) rfl) (z_wi 237 (by decide +kernel) rfl) (z_wi 155 (by decide +kernel) rfl) (by decide) (by decide) ?_
  refine z_go2 M.1 8 [(.dup, 1)] (9, [(0, z_r 27)], [z_r 28, z_r 28, z_r 27], Wc_62, 1, 4) (by decide +kernel) rfl ⟨rfl, trivial⟩ ?_
  refine z_callI M.1 (av := []) (st := [z_r 28, z_r 27]) (a := 28) (by decide +kernel) ci_62_World_init M.2.1 zl_View_11 rfl rfl zi_World_init ⟨by decide, by decide, by decide, by decide⟩ rfl (Nat.le_of_ble_eq_true rfl) (fun v w' hv => ?_)
  obtain ⟨rfl, rfl⟩ := hv
  show z_G X zm_View_init (12, [(0, z_r 27)], [z_r 28, z_r 27], Wc_69, 4, 418)
  refine z_putFC (idx := 12) (ci := 9) (j := 0) (kd := 1) (w' := Wc_70) rfl M.1 (by decide +kernel) (by decide) rfl (fun r h => by injection h with h; subst h; rfl) (by decide +kernel) trivial ?_
  refine z_go2 M.1 15 [(.aload_n 0, 1), (.bipush 30, 2)] (18, [(0, z_r 27)], [.inl 30, z_r 27], Wc_70, 4, 418) (by decide +kernel) rfl ⟨trivial, trivial, trivial⟩ ?_
  refine z_newaC (n := 32) (aty := .int) (N := 30) (w' := Wc_71) Wn_70 rfl M.1 (by decide +kernel) M.2.1 (z_wi 235 (by decide +kernel) rfl) (by decide) (by decide) (by decide) (by decide) (by decide) ?_
  refine z_putFC (idx := 18) (ci := 9) (j := 1) (kd := 1) (w' := Wc_72) rfl M.1 (by decide +kernel) (by decide) rfl (fun r h => by injection h with h; subst h; rfl) (by decide +kernel) trivial ?_
  refine z_go2 M.1 23 [(.aload_n 0, 1), (.sipush 180, 3)] (27, [(0, z_r 27)], [.inl 180, z_r 27], Wc_72, 5, 448) (by decide +kernel) rfl ⟨trivial, trivial, trivial⟩ ?_
  refine z_newaC (n := 33) (aty := .int) (N := 180) (w' := Wc_73) Wn_72 rfl M.1 (by decide +kernel) M.2.1 (z_wi 235 (by decide +kernel) rfl) (by decide) (by decide) (by decide) (by decide) (by decide) ?_
  refine z_putFC (idx := 22) (ci := 9) (j := 2) (kd := 1) (w' := Wc_74) rfl M.1 (by decide +kernel) (by decide) rfl (fun r h => by injection h with h; subst h; rfl) (by decide +kernel) trivial ?_
  refine z_go2 M.1 32 [(.aload_n 0, 1), (.bipush 30, 2)] (35, [(0, z_r 27)], [.inl 30, z_r 27], Wc_74, 6, 628) (by decide +kernel) rfl ⟨trivial, trivial, trivial⟩ ?_
  refine z_newaC (n := 34) (aty := .int) (N := 30) (w' := Wc_75) Wn_74 rfl M.1 (by decide +kernel) M.2.1 (z_wi 235 (by decide +kernel) rfl) (by decide) (by decide) (by decide) (by decide) (by decide) ?_
  refine z_putFC (idx := 25) (ci := 9) (j := 3) (kd := 1) (w' := Wc_76) rfl M.1 (by decide +kernel) (by decide) rfl (fun r h => by injection h with h; subst h; rfl) (by decide +kernel) trivial ?_
  refine z_go2 M.1 40 [(.aload_n 0, 1), (.bipush 30, 2)] (43, [(0, z_r 27)], [.inl 30, z_r 27], Wc_76, 7, 658) (by decide +kernel) rfl ⟨trivial, trivial, trivial⟩ ?_
  refine z_newaC (n := 35) (aty := .int) (N := 30) (w' := Wc_77) Wn_76 rfl M.1 (by decide +kernel) M.2.1 (z_wi 235 (by decide +kernel) rfl) (by decide) (by decide) (by decide) (by decide) (by decide) ?_
  refine z_putFC (idx := 28) (ci := 9) (j := 4) (kd := 1) (w' := Wc_78) rfl M.1 (by decide +kernel) (by decide) rfl (fun r h => by injection h with h; subst h; rfl) (by decide +kernel) trivial ?_
  refine z_go2 M.1 48 [(.aload_n 0, 1), (.iconst 0, 1)] (50, [(0, z_r 27)], [.inl 0, z_r 27], Wc_78, 8, 688) (by decide +kernel) rfl ⟨trivial, trivial, trivial⟩ ?_
  refine z_putC (idx := 31) (ci := 9) (j := 5) (kd := 0) (w' := Wc_79) rfl M.1 (by decide +kernel) (by decide) (by decide +kernel) trivial ?_
  exact z_vret M (by decide +kernel) rfl (by decide) (by decide) ⟨rfl, rfl⟩
def Wc_80 : z_W := z_wr Wc_79 17 2 (z_r 27)
theorem Wn_80 : Wc_80.2.2.2 = 36 := Wn_79
def Wc_81 : z_W := z_nw Wc_80 (1, 8)
theorem Wn_81 : Wc_81.2.2.2 = 37 := congrArg (· + 1) Wn_80
def Wc_82 : z_W := z_nw Wc_81 (2, 3)
theorem Wn_82 : Wc_82.2.2.2 = 38 := congrArg (· + 1) Wn_81
def Wc_83 : z_W := z_wr Wc_82 36 0 (z_r 37)
theorem Wn_83 : Wc_83.2.2.2 = 38 := Wn_82
def Wc_84 : z_W := z_nw Wc_83 (2, 3)
theorem Wn_84 : Wc_84.2.2.2 = 39 := congrArg (· + 1) Wn_83
def Wc_85 : z_W := z_wr Wc_84 36 1 (z_r 38)
theorem Wn_85 : Wc_85.2.2.2 = 39 := Wn_84
def Wc_86 : z_W := z_nw Wc_85 (2, 3)
theorem Wn_86 : Wc_86.2.2.2 = 40 := congrArg (· + 1) Wn_85
def Wc_87 : z_W := z_wr Wc_86 36 2 (z_r 39)
theorem Wn_87 : Wc_87.2.2.2 = 40 := Wn_86
def Wc_88 : z_W := z_nw Wc_87 (2, 4)
theorem Wn_88 : Wc_88.2.2.2 = 41 := congrArg (· + 1) Wn_87
def Wc_89 : z_W := z_wr Wc_88 36 3 (z_r 40)
theorem Wn_89 : Wc_89.2.2.2 = 41 := Wn_88
def Wc_90 : z_W := z_nw Wc_89 (2, 4)
theorem Wn_90 : Wc_90.2.2.2 = 42 := congrArg (· + 1) Wn_89
def Wc_91 : z_W := z_wr Wc_90 36 4 (z_r 41)
theorem Wn_91 : Wc_91.2.2.2 = 42 := Wn_90
def Wc_92 : z_W := z_nw Wc_91 (2, 3)
theorem Wn_92 : Wc_92.2.2.2 = 43 := congrArg (· + 1) Wn_91
def Wc_93 : z_W := z_wr Wc_92 36 5 (z_r 42)
theorem Wn_93 : Wc_93.2.2.2 = 43 := Wn_92
def Wc_94 : z_W := z_nw Wc_93 (1, 3)
theorem Wn_94 : Wc_94.2.2.2 = 44 := congrArg (· + 1) Wn_93
def Wc_95 : z_W := z_nw Wc_94 (2, 3)
theorem Wn_95 : Wc_95.2.2.2 = 45 := congrArg (· + 1) Wn_94
def Wc_96 : z_W := z_wr Wc_95 43 0 (z_r 44)
theorem Wn_96 : Wc_96.2.2.2 = 45 := Wn_95
def Wc_97 : z_W := z_nw Wc_96 (2, 3)
theorem Wn_97 : Wc_97.2.2.2 = 46 := congrArg (· + 1) Wn_96
def Wc_98 : z_W := z_wr Wc_97 43 1 (z_r 45)
theorem Wn_98 : Wc_98.2.2.2 = 46 := Wn_97
def Wc_99 : z_W := z_nw Wc_98 (2, 3)
theorem Wn_99 : Wc_99.2.2.2 = 47 := congrArg (· + 1) Wn_98
def Wc_100 : z_W := z_wr Wc_99 43 2 (z_r 46)
theorem Wn_100 : Wc_100.2.2.2 = 47 := Wn_99
def Wc_101 : z_W := z_nw Wc_100 (2, 3)
theorem Wn_101 : Wc_101.2.2.2 = 48 := congrArg (· + 1) Wn_100
def Wc_102 : z_W := z_wr Wc_101 43 3 (z_r 47)
theorem Wn_102 : Wc_102.2.2.2 = 48 := Wn_101
def Wc_103 : z_W := z_nw Wc_102 (2, 3)
theorem Wn_103 : Wc_103.2.2.2 = 49 := congrArg (· + 1) Wn_102
def Wc_104 : z_W := z_wr Wc_103 43 4 (z_r 48)
theorem Wn_104 : Wc_104.2.2.2 = 49 := Wn_103
def Wc_105 : z_W := z_nw Wc_104 (2, 3)
theorem Wn_105 : Wc_105.2.2.2 = 50 := congrArg (· + 1) Wn_104
def Wc_106 : z_W := z_wr Wc_105 43 5 (z_r 49)
theorem Wn_106 : Wc_106.2.2.2 = 50 := Wn_105
def Wc_107 : z_W := (Wc_106.1, Wc_106.2.1, zFill Wc_106.2.2.1 44 3 7, Wc_106.2.2.2)
theorem Wn_107 : Wc_107.2.2.2 = 50 := Wn_106
def Wc_108 : z_W := (Wc_107.1, Wc_107.2.1, zFill Wc_107.2.2.1 45 3 (-1), Wc_107.2.2.2)
theorem Wn_108 : Wc_108.2.2.2 = 50 := Wn_107
def Wc_109 : z_W := (Wc_108.1, Wc_108.2.1, zFill Wc_108.2.2.1 47 3 (-1), Wc_108.2.2.2)
theorem Wn_109 : Wc_109.2.2.2 = 50 := Wn_108
theorem ci_94_Kinds_init : z_Run (zg 1 6 18) zm_Kinds_init [z_r 43] Wc_94 (zq none Wc_109) := by
  refine z_body (by decide) zf_Kinds_ok (Nat.le_of_ble_eq_true rfl) (fun X M => ?_)
  show z_G X zm_Kinds_init (0, [(0, z_r 43)], [], Wc_94, 0, 0)
  refine z_go2 M.1 0 [(.aload_n 0, 1)] (1, [(0, z_r 43)], [z_r 43], Wc_94, 0, 0) (by decide +kernel) rfl ⟨trivial, trivial⟩ ?_
  refine z_objInit (idx := 3) M.1 (by decide +kernel) M.2.1 (z_wi 356 (by decide +kernel) rfl) (z_wi 184 (by decide +kernel) rfl) (z_wi 185 (by decide +kernel) rfl) rfl (by decide) (by decide) (Nat.le_of_ble_eq_true rfl) ?_
  refine z_go2 M.1 4 [(.aload_n 0, 1), (.iconst 3, 1)] (6, [(0, z_r 43)], [.inl 3, z_r 43], Wc_94, 0, 0) (by decide +kernel) rfl ⟨trivial, trivial, trivial⟩ ?_
  refine z_newaC (n := 44) (aty := .int) (N := 3) (w' := Wc_95) Wn_94 rfl M.1 (by decide +kernel) M.2.1 (z_wi 235 (by decide +kernel) rfl) (by decide) (by decide) (by decide) (by decide) (by decide) ?_
  refine z_putFC (idx := 9) (ci := 3) (j := 0) (kd := 1) (w' := Wc_96) rfl M.1 (by decide +kernel) (by decide) rfl (fun r h => by injection h with h; subst h; rfl) (by decide +kernel) trivial ?_
  refine z_go2 M.1 11 [(.aload_n 0, 1), (.iconst 3, 1)] (13, [(0, z_r 43)], [.inl 3, z_r 43], Wc_96, 1, 3) (by decide +kernel) rfl ⟨trivial, trivial, trivial⟩ ?_
  refine z_newaC (n := 45) (aty := .int) (N := 3) (w' := Wc_97) Wn_96 rfl M.1 (by decide +kernel) M.2.1 (z_wi 235 (by decide +kernel) rfl) (by decide) (by decide) (by decide) (by decide) (by decide) ?_
  refine z_putFC (idx := 15) (ci := 3) (j := 1) (kd := 1) (w' := Wc_98) rfl M.1 (by decide +kernel) (by decide) rfl (fun r h => by injection h with h; subst h; rfl) (by decide +kernel) trivial ?_
  refine z_go2 M.1 18 [(.aload_n 0, 1), (.iconst 3, 1)] (20, [(0, z_r 43)], [.inl 3, z_r 43], Wc_98, 2, 6) (by decide +kernel) rfl ⟨trivial, trivial, trivial⟩ ?_
  refine z_newaC (n := 46) (aty := .int) (N := 3) (w' := Wc_99) Wn_98 rfl M.1 (by decide +kernel) M.2.1 (z_wi 235 (by decide +kernel) rfl) (by decide) (by decide) (by decide) (by decide) (by decide) ?_
  refine z_putFC (idx := 18) (ci := 3) (j := 2) (kd := 1) (w' := Wc_100) rfl M.1 (by decide +kernel) (by decide) rfl (fun r h => by injection h with h; subst h; rfl) (by decide +kernel) trivial ?_
  refine z_go2 M.1 25 [(.aload_n 0, 1), (.iconst 3, 1)] (27, [(0, z_r 43)], [.inl 3, z_r 43], Wc_100, 3, 9) (by decide +kernel) rfl ⟨trivial, trivial, trivial⟩ ?_
  refine z_newaC (n := 47) (aty := .int) (N := 3) (w' := Wc_101) Wn_100 rfl M.1 (by decide +kernel) M.2.1 (z_wi 235 (by decide +kernel) rfl) (by decide) (by decide) (by decide) (by decide) (by decide) ?_
  refine z_putFC (idx := 21) (ci := 3) (j := 3) (kd := 1) (w' := Wc_102) rfl M.1 (by decide +kernel) (by decide) rfl (fun r h => by injection h with h; subst h; rfl) (by decide +kernel) trivial ?_
  refine z_go2 M.1 32 [(.aload_n 0, 1), (.iconst 3, 1)] (34, [(0, z_r 43)], [.inl 3, z_r 43], Wc_102, 4, 12) (by decide +kernel) rfl ⟨trivial, trivial, trivial⟩ ?_
  refine z_newaC (n := 48) (aty := .int) (N := 3) (w' := Wc_103) Wn_102 rfl M.1 (by decide +kernel) M.2.1 (z_wi 235 (by decide +kernel) rfl) (by decide) (by decide) (by decide) (by decide) (by decide) ?_
  refine z_putFC (idx := 24) (ci := 3) (j := 4) (kd := 1) (w' := Wc_104) rfl M.1 (by decide +kernel) (by decide) rfl (fun r h => by injection h with h; subst h; rfl) (by decide +kernel) trivial ?_
  refine z_go2 M.1 39 [(.aload_n 0, 1), (.iconst 3, 1)] (41, [(0, z_r 43)], [.inl 3, z_r 43], Wc_104, 5, 15) (by decide +kernel) rfl ⟨trivial, trivial, trivial⟩ ?_
  refine z_newaC (n := 49) (aty := .int) (N := 3) (w' := Wc_105) Wn_104 rfl M.1 (by decide +kernel) M.2.1 (z_wi 235 (by decide +kernel) rfl) (by decide) (by decide) (by decide) (by decide) (by decide) ?_
  refine z_putFC (idx := 27) (ci := 3) (j := 5) (kd := 1) (w' := Wc_106) rfl M.1 (by decide +kernel) (by decide) rfl (fun r h => by injection h with h; subst h; rfl) (by decide +kernel) trivial ?_
  refine z_go2 M.1 46 [(.aload_n 0, 1)] (47, [(0, z_r 43)], [z_r 43], Wc_106, 6, 18) (by decide +kernel) rfl ⟨trivial, trivial⟩ ?_
  refine z_getRC (idx := 9) (ci := 3) (j := 0) (kd := 5) (r := 44) M.1 (by decide +kernel) (by decide) (by decide) (by decide +kernel) (by decide +kernel) ?_
  refine z_go2 M.1 50 [(.bipush 7, 2)] (52, [(0, z_r 43)], [.inl 7, z_r 44], Wc_106, 6, 18) (by decide +kernel) rfl ⟨trivial, trivial⟩ ?_
  refine z_callS M.1 (av := [z_r 44, .inl 7]) (st := []) (by decide +kernel) (c_fill Wc_106.1 Wc_106.2.1 Wc_106.2.2.1 Wc_106.2.2.2 44 3 (by decide +kernel) (by decide) 7) M.2.1 zl_Kinds_30 zs_Arrays_fill ⟨by decide, by decide, by decide, by decide⟩ rfl (Nat.le_of_ble_eq_true rfl) (fun v w' hv => ?_)
  obtain ⟨rfl, rfl⟩ := hv
  show z_G X zm_Kinds_init (55, [(0, z_r 43)], [], Wc_107, 6, 18)
  refine z_go2 M.1 55 [(.aload_n 0, 1)] (56, [(0, z_r 43)], [z_r 43], Wc_107, 6, 18) (by decide +kernel) rfl ⟨trivial, trivial⟩ ?_
  refine z_getRC (idx := 15) (ci := 3) (j := 1) (kd := 5) (r := 45) M.1 (by decide +kernel) (by decide) (by decide) (by decide +kernel) (by decide +kernel) ?_
  refine z_go2 M.1 59 [(.iconst (-1), 1)] (60, [(0, z_r 43)], [.inl (-1), z_r 45], Wc_107, 6, 18) (by decide +kernel) rfl ⟨trivial, trivial⟩ ?_
  refine z_callS M.1 (av := [z_r 45, .inl (-1)]) (st := []) (by decide +kernel) (c_fill Wc_107.1 Wc_107.2.1 Wc_107.2.2.1 Wc_107.2.2.2 45 3 (by decide +kernel) (by decide) (-1)) M.2.1 zl_Kinds_30 zs_Arrays_fill ⟨by decide, by decide, by decide, by decide⟩ rfl (Nat.le_of_ble_eq_true rfl) (fun v w' hv => ?_)
  obtain ⟨rfl, rfl⟩ := hv
  show z_G X zm_Kinds_init (63, [(0, z_r 43)], [], Wc_108, 6, 18)
  refine z_go2 M.1 63 [(.aload_n 0, 1)] (64, [(0, z_r 43)], [z_r 43], Wc_108, 6, 18) (by decide +kernel) rfl ⟨trivial, trivial⟩ ?_
  refine z_getRC (idx := 21) (ci := 3) (j := 3) (kd := 5) (r := 47) M.1 (by decide +kernel) (by decide) (by decide) (by decide +kernel) (by decide +kernel) ?_
  refine z_go2 M.1 67 [(.iconst (-1), 1)] (68, [(0, z_r 43)], [.inl (-1), z_r 47], Wc_108, 6, 18) (by decide +kernel) rfl ⟨trivial, trivial⟩ ?_
  refine z_callS M.1 (av := [z_r 47, .inl (-1)]) (st := []) (by decide +kernel) (c_fill Wc_108.1 Wc_108.2.1 Wc_108.2.2.1 Wc_108.2.2.2 47 3 (by decide +kernel) (by decide) (-1)) M.2.1 zl_Kinds_30 zs_Arrays_fill ⟨by decide, by decide, by decide, by decide⟩ rfl (Nat.le_of_ble_eq_true rfl) (fun v w' hv => ?_)
  obtain ⟨rfl, rfl⟩ := hv
  show z_G X zm_Kinds_init (71, [(0, z_r 43)], [], Wc_109, 6, 18)
  exact z_vret M (by decide +kernel) rfl (by decide) (by decide) ⟨rfl, rfl⟩
def Wc_110 : z_W := z_wr Wc_109 36 6 (z_r 43)
theorem Wn_110 : Wc_110.2.2.2 = 50 := Wn_109
def Wc_111 : z_W := z_nw Wc_110 (1, 10)
theorem Wn_111 : Wc_111.2.2.2 = 51 := congrArg (· + 1) Wn_110
def Wc_112 : z_W := z_nw Wc_111 (2, 300)
theorem Wn_112 : Wc_112.2.2.2 = 52 := congrArg (· + 1) Wn_111
def Wc_113 : z_W := z_wr Wc_112 50 0 (z_r 51)
theorem Wn_113 : Wc_113.2.2.2 = 52 := Wn_112
def Wc_114 : z_W := z_nw Wc_113 (2, 90)
theorem Wn_114 : Wc_114.2.2.2 = 53 := congrArg (· + 1) Wn_113
def Wc_115 : z_W := z_wr Wc_114 50 1 (z_r 52)
theorem Wn_115 : Wc_115.2.2.2 = 53 := Wn_114
def Wc_116 : z_W := z_nw Wc_115 (2, 24)
theorem Wn_116 : Wc_116.2.2.2 = 54 := congrArg (· + 1) Wn_115
def Wc_117 : z_W := z_wr Wc_116 50 2 (z_r 53)
theorem Wn_117 : Wc_117.2.2.2 = 54 := Wn_116
def Wc_118 : z_W := z_wr Wc_117 50 3 (.inl 0)
theorem Wn_118 : Wc_118.2.2.2 = 54 := Wn_117
theorem ci_111_World_init : z_Run (zg 1 3 414) zm_World_init [z_r 50] Wc_111 (zq none Wc_118) := by
  refine z_body (by decide) zf_World_ok (Nat.le_of_ble_eq_true rfl) (fun X M => ?_)
  show z_G X zm_World_init (0, [(0, z_r 50)], [], Wc_111, 0, 0)
  refine z_go2 M.1 0 [(.aload_n 0, 1)] (1, [(0, z_r 50)], [z_r 50], Wc_111, 0, 0) (by decide +kernel) rfl ⟨trivial, trivial⟩ ?_
  refine z_objInit (idx := 3) M.1 (by decide +kernel) M.2.1 (z_wi 241 (by decide +kernel) rfl) (z_wi 184 (by decide +kernel) rfl) (z_wi 185 (by decide +kernel) rfl) rfl (by decide) (by decide) (Nat.le_of_ble_eq_true rfl) ?_
  refine z_go2 M.1 4 [(.aload_n 0, 1), (.sipush 300, 3)] (8, [(0, z_r 50)], [.inl 300, z_r 50], Wc_111, 0, 0) (by decide +kernel) rfl ⟨trivial, trivial, trivial⟩ ?_
  refine z_newaC (n := 51) (aty := .int) (N := 300) (w' := Wc_112) Wn_111 rfl M.1 (by decide +kernel) M.2.1 (z_wi 235 (by decide +kernel) rfl) (by decide) (by decide) (by decide) (by decide) (by decide) ?_
  refine z_putFC (idx := 9) (ci := 10) (j := 0) (kd := 1) (w' := Wc_113) rfl M.1 (by decide +kernel) (by decide) rfl (fun r h => by injection h with h; subst h; rfl) (by decide +kernel) trivial ?_
  refine z_go2 M.1 13 [(.aload_n 0, 1), (.bipush 90, 2)] (16, [(0, z_r 50)], [.inl 90, z_r 50], Wc_113, 1, 300) (by decide +kernel) rfl ⟨trivial, trivial, trivial⟩ ?_
  refine z_newaC (n := 52) (aty := .int) (N := 90) (w' := Wc_114) Wn_113 rfl M.1 (by decide +kernel) M.2.1 (z_wi 235 (by decide +kernel) rfl) (by decide) (by decide) (by decide) (by decide) (by decide) ?_
  refine z_putFC (idx := 15) (ci := 10) (j := 1) (kd := 1) (w' := Wc_115) rfl M.1 (by decide +kernel) (by decide) rfl (fun r h => by injection h with h; subst h; rfl) (by decide +kernel) trivial ?_
  refine z_go2 M.1 21 [(.aload_n 0, 1), (.bipush 24, 2)] (24, [(0, z_r 50)], [.inl 24, z_r 50], Wc_115, 2, 390) (by decide +kernel) rfl ⟨trivial, trivial, trivial⟩ ?_
  refine z_newaC (n := 53) (aty := .int) (N := 24) (w' := Wc_116) Wn_115 rfl M.1 (by decide +kernel) M.2.1 (z_wi 235 (by decide +kernel) rfl) (by decide) (by decide) (by decide) (by decide) (by decide) ?_
  refine z_putFC (idx := 18) (ci := 10) (j := 2) (kd := 1) (w' := Wc_117) rfl M.1 (by decide +kernel) (by decide) rfl (fun r h => by injection h with h; subst h; rfl) (by decide +kernel) trivial ?_
  refine z_go2 M.1 29 [(.aload_n 0, 1), (.iconst 0, 1)] (31, [(0, z_r 50)], [.inl 0, z_r 50], Wc_117, 3, 414) (by decide +kernel) rfl ⟨trivial, trivial, trivial⟩ ?_
  refine z_putC (idx := 21) (ci := 10) (j := 3) (kd := 0) (w' := Wc_118) rfl M.1 (by decide +kernel) (by decide) (by decide +kernel) trivial ?_
  exact z_vret M (by decide +kernel) rfl (by decide) (by decide) ⟨rfl, rfl⟩
def Wc_119 : z_W := z_wr Wc_118 36 7 (z_r 50)
theorem Wn_119 : Wc_119.2.2.2 = 54 := Wn_118
def Wc_120 : z_W := z_wr Wc_119 36 8 (.inl 0)
theorem Wn_120 : Wc_120.2.2.2 = 54 := Wn_119
def Wc_121 : z_W := z_wr Wc_120 36 9 (.inl 0)
theorem Wn_121 : Wc_121.2.2.2 = 54 := Wn_120
def Wc_122 : z_W := (Wc_121.1, Wc_121.2.1, zFill Wc_121.2.2.1 37 3 15, Wc_121.2.2.2)
theorem Wn_122 : Wc_122.2.2.2 = 54 := Wn_121
def Wc_123 : z_W := (Wc_122.1, Wc_122.2.1, zFill Wc_122.2.2.1 38 3 15, Wc_122.2.2.2)
theorem Wn_123 : Wc_123.2.2.2 = 54 := Wn_122
def Wc_124 : z_W := (Wc_123.1, Wc_123.2.1, zFill Wc_123.2.2.1 39 3 15, Wc_123.2.2.2)
theorem Wn_124 : Wc_124.2.2.2 = 54 := Wn_123
def Wc_125 : z_W := (Wc_124.1, Wc_124.2.1, zFill Wc_124.2.2.1 40 4 15, Wc_124.2.2.2)
theorem Wn_125 : Wc_125.2.2.2 = 54 := Wn_124
theorem ci_81_Sight_init : z_Run (zg 2 17 462) zm_Sight_init [z_r 36] Wc_81 (zq none Wc_125) := by
  refine z_body (by decide) zf_Sight_ok (Nat.le_of_ble_eq_true rfl) (fun X M => ?_)
  show z_G X zm_Sight_init (0, [(0, z_r 36)], [], Wc_81, 0, 0)
  refine z_go2 M.1 0 [(.aload_n 0, 1)] (1, [(0, z_r 36)], [z_r 36], Wc_81, 0, 0) (by decide +kernel) rfl ⟨trivial, trivial⟩ ?_
  refine z_objInit (idx := 3) M.1 (by decide +kernel) M.2.1 (z_wi 350 (by decide +kernel) rfl) (z_wi 184 (by decide +kernel) rfl) (z_wi 185 (by decide +kernel) rfl) rfl (by decide) (by decide) (Nat.le_of_ble_eq_true rfl) ?_
  refine z_go2 M.1 4 [(.aload_n 0, 1), (.iconst 3, 1)] (6, [(0, z_r 36)], [.inl 3, z_r 36], Wc_81, 0, 0) (by decide +kernel) rfl ⟨trivial, trivial, trivial⟩ ?_
  refine z_newaC (n := 37) (aty := .int) (N := 3) (w' := Wc_82) Wn_81 rfl M.1 (by decide +kernel) M.2.1 (z_wi 235 (by decide +kernel) rfl) (by decide) (by decide) (by decide) (by decide) (by decide) ?_
  refine z_putFC (idx := 9) (ci := 8) (j := 0) (kd := 1) (w' := Wc_83) rfl M.1 (by decide +kernel) (by decide) rfl (fun r h => by injection h with h; subst h; rfl) (by decide +kernel) trivial ?_
  refine z_go2 M.1 11 [(.aload_n 0, 1), (.iconst 3, 1)] (13, [(0, z_r 36)], [.inl 3, z_r 36], Wc_83, 1, 3) (by decide +kernel) rfl ⟨trivial, trivial, trivial⟩ ?_
  refine z_newaC (n := 38) (aty := .int) (N := 3) (w' := Wc_84) Wn_83 rfl M.1 (by decide +kernel) M.2.1 (z_wi 235 (by decide +kernel) rfl) (by decide) (by decide) (by decide) (by decide) (by decide) ?_
  refine z_putFC (idx := 15) (ci := 8) (j := 1) (kd := 1) (w' := Wc_85) rfl M.1 (by decide +kernel) (by decide) rfl (fun r h => by injection h with h; subst h; rfl) (by decide +kernel) trivial ?_
  refine z_go2 M.1 18 [(.aload_n 0, 1), (.iconst 3, 1)] (20, [(0, z_r 36)], [.inl 3, z_r 36], Wc_85, 2, 6) (by decide +kernel) rfl ⟨trivial, trivial, trivial⟩ ?_
  refine z_newaC (n := 39) (aty := .int) (N := 3) (w' := Wc_86) Wn_85 rfl M.1 (by decide +kernel) M.2.1 (z_wi 235 (by decide +kernel) rfl) (by decide) (by decide) (by decide) (by decide) (by decide) ?_
  refine z_putFC (idx := 18) (ci := 8) (j := 2) (kd := 1) (w' := Wc_87) rfl M.1 (by decide +kernel) (by decide) rfl (fun r h => by injection h with h; subst h; rfl) (by decide +kernel) trivial ?_
  refine z_go2 M.1 25 [(.aload_n 0, 1), (.iconst 4, 1)] (27, [(0, z_r 36)], [.inl 4, z_r 36], Wc_87, 3, 9) (by decide +kernel) rfl ⟨trivial, trivial, trivial⟩ ?_
  refine z_newaC (n := 40) (aty := .int) (N := 4) (w' := Wc_88) Wn_87 rfl M.1 (by decide +kernel) M.2.1 (z_wi 235 (by decide +kernel) rfl) (by decide) (by decide) (by decide) (by decide) (by decide) ?_
  refine z_putFC (idx := 21) (ci := 8) (j := 3) (kd := 1) (w' := Wc_89) rfl M.1 (by decide +kernel) (by decide) rfl (fun r h => by injection h with h; subst h; rfl) (by decide +kernel) trivial ?_
  refine z_go2 M.1 32 [(.aload_n 0, 1), (.iconst 4, 1)] (34, [(0, z_r 36)], [.inl 4, z_r 36], Wc_89, 4, 13) (by decide +kernel) rfl ⟨trivial, trivial, trivial⟩ ?_
  refine z_newaC (n := 41) (aty := .int) (N := 4) (w' := Wc_90) Wn_89 rfl M.1 (by decide +kernel) M.2.1 (z_wi 235 (by decide +kernel) rfl) (by decide) (by decide) (by decide) (by decide) (by decide) ?_
  refine z_putFC (idx := 24) (ci := 8) (j := 4) (kd := 1) (w' := Wc_91) rfl M.1 (by decide +kernel) (by decide) rfl (fun r h => by injection h with h; subst h; rfl) (by decide +kernel) trivial ?_
  refine z_go2 M.1 39 [(.aload_n 0, 1), (.iconst 3, 1)] (41, [(0, z_r 36)], [.inl 3, z_r 36], Wc_91, 5, 17) (by decide +kernel) rfl ⟨trivial, trivial, trivial⟩ ?_
  refine z_newaC (n := 42) (aty := .int) (N := 3) (w' := Wc_92) Wn_91 rfl M.1 (by decide +kernel) M.2.1 (z_wi 235 (by decide +kernel) rfl) (by decide) (by decide) (by decide) (by decide) (by decide) ?_
  refine z_putFC (idx := 27) (ci := 8) (j := 5) (kd := 1) (w' := Wc_93) rfl M.1 (by decide +kernel) (by decide) rfl (fun r h => by injection h with h; subst h; rfl) (by decide +kernel) trivial ?_
  refine z_go2 M.1 46 [(.aload_n 0, 1)] (47, [(0, z_r 36)], [z_r 36], Wc_93, 6, 20) (by decide +kernel) rfl ⟨trivial, trivial⟩ ?_
  refine z_newC (idx := 30) (n := 43) (ci := 3) (r := (RX3, TX3, 6)) (w' := Wc_94) Wn_93 rfl M.1 (by decide +kernel) M.2.1 rfl (z_wi 351 (by decide +kernel) rfl) (z_wi 352 (by decide +kernel) rfl) (z_wi 160 (by decide +kernel) rfl) (by decide) (by decide) ?_
  refine z_go2 M.1 50 [(.dup, 1)] (51, [(0, z_r 36)], [z_r 43, z_r 43, z_r 36], Wc_94, 7, 26) (by decide +kernel) rfl ⟨rfl, trivial⟩ ?_
  refine z_callI M.1 (av := []) (st := [z_r 43, z_r 36]) (a := 43) (by decide +kernel) ci_94_Kinds_init M.2.1 zl_Sight_32 rfl rfl zi_Kinds_init ⟨by decide, by decide, by decide, by decide⟩ rfl (Nat.le_of_ble_eq_true rfl) (fun v w' hv => ?_)
  obtain ⟨rfl, rfl⟩ := hv
  show z_G X zm_Sight_init (54, [(0, z_r 36)], [z_r 43, z_r 36], Wc_109, 13, 44)
  refine z_putFC (idx := 33) (ci := 8) (j := 6) (kd := 1) (w' := Wc_110) rfl M.1 (by decide +kernel) (by decide) rfl (fun r h => by injection h with h; subst h; rfl) (by decide +kernel) trivial ?_
  refine z_go2 M.1 57 [(.aload_n 0, 1)] (58, [(0, z_r 36)], [z_r 36], Wc_110, 13, 44) (by decide +kernel) rfl ⟨trivial, trivial⟩ ?_
  refine z_newC (idx := 37) (n := 50) (ci := 10) (r := (RX10, TX10, 4)) (w' := Wc_111) Wn_110 rfl M.1 (by decide +kernel) M.2.1 rfl (z_wi 387 (by decide +kernel) rfl) (z_wi 237 (by decide +kernel) rfl) (z_wi 155 (by decide +kernel) rfl) (by decide) (by decide) ?_
  refine z_go2 M.1 61 [(.dup, 1)] (62, [(0, z_r 36)], [z_r 50, z_r 50, z_r 36], Wc_111, 14, 48) (by decide +kernel) rfl ⟨rfl, trivial⟩ ?_
  refine z_callI M.1 (av := []) (st := [z_r 50, z_r 36]) (a := 50) (by decide +kernel) ci_111_World_init M.2.1 zl_Sight_39 rfl rfl zi_World_init ⟨by decide, by decide, by decide, by decide⟩ rfl (Nat.le_of_ble_eq_true rfl) (fun v w' hv => ?_)
  obtain ⟨rfl, rfl⟩ := hv
  show z_G X zm_Sight_init (65, [(0, z_r 36)], [z_r 50, z_r 36], Wc_118, 17, 462)
  refine z_putC (idx := 40) (ci := 8) (j := 7) (kd := 1) (w' := Wc_119) rfl M.1 (by decide +kernel) (by decide) (by decide +kernel) trivial ?_
  refine z_go2 M.1 68 [(.aload_n 0, 1), (.iconst 0, 1)] (70, [(0, z_r 36)], [.inl 0, z_r 36], Wc_119, 17, 462) (by decide +kernel) rfl ⟨trivial, trivial, trivial⟩ ?_
  refine z_putC (idx := 44) (ci := 8) (j := 8) (kd := 0) (w' := Wc_120) rfl M.1 (by decide +kernel) (by decide) (by decide +kernel) trivial ?_
  refine z_go2 M.1 73 [(.aload_n 0, 1), (.iconst 0, 1)] (75, [(0, z_r 36)], [.inl 0, z_r 36], Wc_120, 17, 462) (by decide +kernel) rfl ⟨trivial, trivial, trivial⟩ ?_
  refine z_putC (idx := 48) (ci := 8) (j := 9) (kd := 0) (w' := Wc_121) rfl M.1 (by decide +kernel) (by decide) (by decide +kernel) trivial ?_
  refine z_go2 M.1 78 [(.aload_n 0, 1)] (79, [(0, z_r 36)], [z_r 36], Wc_121, 17, 462) (by decide +kernel) rfl ⟨trivial, trivial⟩ ?_
  refine z_getRC (idx := 9) (ci := 8) (j := 0) (kd := 5) (r := 37) M.1 (by decide +kernel) (by decide) (by decide) (by decide +kernel) (by decide +kernel) ?_
  refine z_go2 M.1 82 [(.bipush 15, 2)] (84, [(0, z_r 36)], [.inl 15, z_r 37], Wc_121, 17, 462) (by decide +kernel) rfl ⟨trivial, trivial⟩ ?_
  refine z_callS M.1 (av := [z_r 37, .inl 15]) (st := []) (by decide +kernel) (c_fill Wc_121.1 Wc_121.2.1 Wc_121.2.2.1 Wc_121.2.2.2 37 3 (by decide +kernel) (by decide) 15) M.2.1 zl_Sight_51 zs_Arrays_fill ⟨by decide, by decide, by decide, by decide⟩ rfl (Nat.le_of_ble_eq_true rfl) (fun v w' hv => ?_)
  obtain ⟨rfl, rfl⟩ := hv
  show z_G X zm_Sight_init (87, [(0, z_r 36)], [], Wc_122, 17, 462)
  refine z_go2 M.1 87 [(.aload_n 0, 1)] (88, [(0, z_r 36)], [z_r 36], Wc_122, 17, 462) (by decide +kernel) rfl ⟨trivial, trivial⟩ ?_
  refine z_getRC (idx := 15) (ci := 8) (j := 1) (kd := 5) (r := 38) M.1 (by decide +kernel) (by decide) (by decide) (by decide +kernel) (by decide +kernel) ?_
  refine z_go2 M.1 91 [(.bipush 15, 2)] (93, [(0, z_r 36)], [.inl 15, z_r 38], Wc_122, 17, 462) (by decide +kernel) rfl ⟨trivial, trivial⟩ ?_
  refine z_callS M.1 (av := [z_r 38, .inl 15]) (st := []) (by decide +kernel) (c_fill Wc_122.1 Wc_122.2.1 Wc_122.2.2.1 Wc_122.2.2.2 38 3 (by decide +kernel) (by decide) 15) M.2.1 zl_Sight_51 zs_Arrays_fill ⟨by decide, by decide, by decide, by decide⟩ rfl (Nat.le_of_ble_eq_true rfl) (fun v w' hv => ?_)
  obtain ⟨rfl, rfl⟩ := hv
  show z_G X zm_Sight_init (96, [(0, z_r 36)], [], Wc_123, 17, 462)
  refine z_go2 M.1 96 [(.aload_n 0, 1)] (97, [(0, z_r 36)], [z_r 36], Wc_123, 17, 462) (by decide +kernel) rfl ⟨trivial, trivial⟩ ?_
  refine z_getRC (idx := 18) (ci := 8) (j := 2) (kd := 5) (r := 39) M.1 (by decide +kernel) (by decide) (by decide) (by decide +kernel) (by decide +kernel) ?_
  refine z_go2 M.1 100 [(.bipush 15, 2)] (102, [(0, z_r 36)], [.inl 15, z_r 39], Wc_123, 17, 462) (by decide +kernel) rfl ⟨trivial, trivial⟩ ?_
  refine z_callS M.1 (av := [z_r 39, .inl 15]) (st := []) (by decide +kernel) (c_fill Wc_123.1 Wc_123.2.1 Wc_123.2.2.1 Wc_123.2.2.2 39 3 (by decide +kernel) (by decide) 15) M.2.1 zl_Sight_51 zs_Arrays_fill ⟨by decide, by decide, by decide, by decide⟩ rfl (Nat.le_of_ble_eq_true rfl) (fun v w' hv => ?_)
  obtain ⟨rfl, rfl⟩ := hv
  show z_G X zm_Sight_init (105, [(0, z_r 36)], [], Wc_124, 17, 462)
  refine z_go2 M.1 105 [(.aload_n 0, 1)] (106, [(0, z_r 36)], [z_r 36], Wc_124, 17, 462) (by decide +kernel) rfl ⟨trivial, trivial⟩ ?_
  refine z_getRC (idx := 21) (ci := 8) (j := 3) (kd := 5) (r := 40) M.1 (by decide +kernel) (by decide) (by decide) (by decide +kernel) (by decide +kernel) ?_
  refine z_go2 M.1 109 [(.bipush 15, 2)] (111, [(0, z_r 36)], [.inl 15, z_r 40], Wc_124, 17, 462) (by decide +kernel) rfl ⟨trivial, trivial⟩ ?_
  refine z_callS M.1 (av := [z_r 40, .inl 15]) (st := []) (by decide +kernel) (c_fill Wc_124.1 Wc_124.2.1 Wc_124.2.2.1 Wc_124.2.2.2 40 4 (by decide +kernel) (by decide) 15) M.2.1 zl_Sight_51 zs_Arrays_fill ⟨by decide, by decide, by decide, by decide⟩ rfl (Nat.le_of_ble_eq_true rfl) (fun v w' hv => ?_)
  obtain ⟨rfl, rfl⟩ := hv
  show z_G X zm_Sight_init (114, [(0, z_r 36)], [], Wc_125, 17, 462)
  exact z_vret M (by decide +kernel) rfl (by decide) (by decide) ⟨rfl, rfl⟩
def Wc_126 : z_W := z_wr Wc_125 17 3 (z_r 36)
theorem Wn_126 : Wc_126.2.2.2 = 54 := Wn_125
theorem ci_37_Finder_init : z_Run (zg 3 36 1418) zm_Finder_init [z_r 17] Wc_37 (zq none Wc_126) := by
  refine z_body (by decide) zf_Finder_ok (Nat.le_of_ble_eq_true rfl) (fun X M => ?_)
  show z_G X zm_Finder_init (0, [(0, z_r 17)], [], Wc_37, 0, 0)
  refine z_go2 M.1 0 [(.aload_n 0, 1)] (1, [(0, z_r 17)], [z_r 17], Wc_37, 0, 0) (by decide +kernel) rfl ⟨trivial, trivial⟩ ?_
  refine z_objInit (idx := 3) M.1 (by decide +kernel) M.2.1 (z_wi 261 (by decide +kernel) rfl) (z_wi 184 (by decide +kernel) rfl) (z_wi 185 (by decide +kernel) rfl) rfl (by decide) (by decide) (Nat.le_of_ble_eq_true rfl) ?_
  refine z_go2 M.1 4 [(.aload_n 0, 1), (.bipush 30, 2)] (7, [(0, z_r 17)], [.inl 30, z_r 17], Wc_37, 0, 0) (by decide +kernel) rfl ⟨trivial, trivial, trivial⟩ ?_
  refine z_newaC (n := 18) (aty := .int) (N := 30) (w' := Wc_38) Wn_37 rfl M.1 (by decide +kernel) M.2.1 (z_wi 235 (by decide +kernel) rfl) (by decide) (by decide) (by decide) (by decide) (by decide) ?_
  refine z_putFC (idx := 9) (ci := 1) (j := 0) (kd := 1) (w' := Wc_39) rfl M.1 (by decide +kernel) (by decide) rfl (fun r h => by injection h with h; subst h; rfl) (by decide +kernel) trivial ?_
  refine z_go2 M.1 12 [(.aload_n 0, 1)] (13, [(0, z_r 17)], [z_r 17], Wc_39, 1, 30) (by decide +kernel) rfl ⟨trivial, trivial⟩ ?_
  refine z_newC (idx := 15) (n := 19) (ci := 5) (r := (RX5, TX5, 12)) (w' := Wc_40) Wn_39 rfl M.1 (by decide +kernel) M.2.1 rfl (z_wi 262 (by decide +kernel) rfl) (z_wi 263 (by decide +kernel) rfl) (z_wi 157 (by decide +kernel) rfl) (by decide) (by decide) ?_
  refine z_go2 M.1 16 [(.dup, 1)] (17, [(0, z_r 17)], [z_r 19, z_r 19, z_r 17], Wc_40, 2, 42) (by decide +kernel) rfl ⟨rfl, trivial⟩ ?_
  refine z_callI M.1 (av := []) (st := [z_r 19, z_r 17]) (a := 19) (by decide +kernel) ci_40_Query_init M.2.1 zl_Finder_17 rfl rfl zi_Query_init ⟨by decide, by decide, by decide, by decide⟩ rfl (Nat.le_of_ble_eq_true rfl) (fun v w' hv => ?_)
  obtain ⟨rfl, rfl⟩ := hv
  show z_G X zm_Finder_init (20, [(0, z_r 17)], [z_r 19, z_r 17], Wc_59, 9, 252)
  refine z_putFC (idx := 18) (ci := 1) (j := 1) (kd := 1) (w' := Wc_60) rfl M.1 (by decide +kernel) (by decide) rfl (fun r h => by injection h with h; subst h; rfl) (by decide +kernel) trivial ?_
  refine z_go2 M.1 23 [(.aload_n 0, 1)] (24, [(0, z_r 17)], [z_r 17], Wc_60, 9, 252) (by decide +kernel) rfl ⟨trivial, trivial⟩ ?_
  refine z_newC (idx := 22) (n := 27) (ci := 9) (r := (RX9, TX9, 6)) (w' := Wc_61) Wn_60 rfl M.1 (by decide +kernel) M.2.1 rfl (z_wi 312 (by decide +kernel) rfl) (z_wi 313 (by decide +kernel) rfl) (z_wi 158 (by decide +kernel) rfl) (by decide) (by decide) ?_
  refine z_go2 M.1 27 [(.dup, 1)] (28, [(0, z_r 17)], [z_r 27, z_r 27, z_r 17], Wc_61, 10, 258) (by decide +kernel) rfl ⟨rfl, trivial⟩ ?_
  refine z_callI M.1 (av := []) (st := [z_r 27, z_r 17]) (a := 27) (by decide +kernel) ci_61_View_init M.2.1 zl_Finder_24 rfl rfl zi_View_init ⟨by decide, by decide, by decide, by decide⟩ rfl (Nat.le_of_ble_eq_true rfl) (fun v w' hv => ?_)
  obtain ⟨rfl, rfl⟩ := hv
  show z_G X zm_Finder_init (31, [(0, z_r 17)], [z_r 27, z_r 17], Wc_79, 18, 946)
  refine z_putFC (idx := 25) (ci := 1) (j := 2) (kd := 1) (w' := Wc_80) rfl M.1 (by decide +kernel) (by decide) rfl (fun r h => by injection h with h; subst h; rfl) (by decide +kernel) trivial ?_
  refine z_go2 M.1 34 [(.aload_n 0, 1)] (35, [(0, z_r 17)], [z_r 17], Wc_80, 18, 946) (by decide +kernel) rfl ⟨trivial, trivial⟩ ?_
  refine z_newC (idx := 29) (n := 36) (ci := 8) (r := (RX8, TX8, 10)) (w' := Wc_81) Wn_80 rfl M.1 (by decide +kernel) M.2.1 rfl (z_wi 345 (by decide +kernel) rfl) (z_wi 346 (by decide +kernel) rfl) (z_wi 159 (by decide +kernel) rfl) (by decide) (by decide) ?_
  refine z_go2 M.1 38 [(.dup, 1)] (39, [(0, z_r 17)], [z_r 36, z_r 36, z_r 17], Wc_81, 19, 956) (by decide +kernel) rfl ⟨rfl, trivial⟩ ?_
  refine z_callI M.1 (av := []) (st := [z_r 36, z_r 17]) (a := 36) (by decide +kernel) ci_81_Sight_init M.2.1 zl_Finder_31 rfl rfl zi_Sight_init ⟨by decide, by decide, by decide, by decide⟩ rfl (Nat.le_of_ble_eq_true rfl) (fun v w' hv => ?_)
  obtain ⟨rfl, rfl⟩ := hv
  show z_G X zm_Finder_init (42, [(0, z_r 17)], [z_r 36, z_r 17], Wc_125, 36, 1418)
  refine z_putFC (idx := 32) (ci := 1) (j := 3) (kd := 1) (w' := Wc_126) rfl M.1 (by decide +kernel) (by decide) rfl (fun r h => by injection h with h; subst h; rfl) (by decide +kernel) trivial ?_
  exact z_vret M (by decide +kernel) rfl (by decide) (by decide) ⟨rfl, rfl⟩
def Wc_127 : z_W := z_wr Wc_126 0 3 (z_r 17)
theorem Wn_127 : Wc_127.2.2.2 = 54 := Wn_126
def Wc_128 : z_W := z_wr Wc_127 0 4 (z_r 19)
theorem Wn_128 : Wc_128.2.2.2 = 54 := Wn_127
def Wc_129 : z_W := z_wr Wc_128 0 5 (z_r 27)
theorem Wn_129 : Wc_129.2.2.2 = 54 := Wn_128
def Wc_130 : z_W := z_wr Wc_129 0 6 (z_r 36)
theorem Wn_130 : Wc_130.2.2.2 = 54 := Wn_129
def Wc_131 : z_W := z_wr Wc_130 0 7 (z_r 43)
theorem Wn_131 : Wc_131.2.2.2 = 54 := Wn_130
def Wc_132 : z_W := z_nw Wc_131 (1, 2)
theorem Wn_132 : Wc_132.2.2.2 = 55 := congrArg (· + 1) Wn_131
def Wc_133 : z_W := z_nw Wc_132 (2, 4)
theorem Wn_133 : Wc_133.2.2.2 = 56 := congrArg (· + 1) Wn_132
def Wc_134 : z_W := z_wr Wc_133 54 0 (z_r 55)
theorem Wn_134 : Wc_134.2.2.2 = 56 := Wn_133
def Wc_135 : z_W := z_nw Wc_134 (2, 4)
theorem Wn_135 : Wc_135.2.2.2 = 57 := congrArg (· + 1) Wn_134
def Wc_136 : z_W := z_wr Wc_135 54 1 (z_r 56)
theorem Wn_136 : Wc_136.2.2.2 = 57 := Wn_135
def Wc_137 : z_W := z_nw Wc_136 (2, 192)
theorem Wn_137 : Wc_137.2.2.2 = 58 := congrArg (· + 1) Wn_136
def Wc_138 : z_W := z_wr Wc_137 54 2 (z_r 57)
theorem Wn_138 : Wc_138.2.2.2 = 58 := Wn_137
def Wc_139 : z_W := z_nw Wc_138 (2, 6)
theorem Wn_139 : Wc_139.2.2.2 = 59 := congrArg (· + 1) Wn_138
def Wc_140 : z_W := z_wr Wc_139 54 3 (z_r 58)
theorem Wn_140 : Wc_140.2.2.2 = 59 := Wn_139
def Wc_141 : z_W := z_wr Wc_140 54 4 (.inl (-1))
theorem Wn_141 : Wc_141.2.2.2 = 59 := Wn_140
def Wc_142 : z_W := (Wc_141.1, Wc_141.2.1, zFill Wc_141.2.2.1 55 4 1, Wc_141.2.2.2)
theorem Wn_142 : Wc_142.2.2.2 = 59 := Wn_141
theorem ci_132_Flows_init : z_Run (zg 1 4 206) zm_Flows_init [z_r 54] Wc_132 (zq none Wc_142) := by
  refine z_body (by decide) zf_Flows_ok (Nat.le_of_ble_eq_true rfl) (fun X M => ?_)
  show z_G X zm_Flows_init (0, [(0, z_r 54)], [], Wc_132, 0, 0)
  refine z_go2 M.1 0 [(.aload_n 0, 1)] (1, [(0, z_r 54)], [z_r 54], Wc_132, 0, 0) (by decide +kernel) rfl ⟨trivial, trivial⟩ ?_
  refine z_objInit (idx := 3) M.1 (by decide +kernel) M.2.1 (z_wi 449 (by decide +kernel) rfl) (z_wi 184 (by decide +kernel) rfl) (z_wi 185 (by decide +kernel) rfl) rfl (by decide) (by decide) (Nat.le_of_ble_eq_true rfl) ?_
  refine z_go2 M.1 4 [(.aload_n 0, 1), (.iconst 4, 1)] (6, [(0, z_r 54)], [.inl 4, z_r 54], Wc_132, 0, 0) (by decide +kernel) rfl ⟨trivial, trivial, trivial⟩ ?_
  refine z_newaC (n := 55) (aty := .int) (N := 4) (w' := Wc_133) Wn_132 rfl M.1 (by decide +kernel) M.2.1 (z_wi 235 (by decide +kernel) rfl) (by decide) (by decide) (by decide) (by decide) (by decide) ?_
  refine z_putFC (idx := 9) (ci := 2) (j := 0) (kd := 1) (w' := Wc_134) rfl M.1 (by decide +kernel) (by decide) rfl (fun r h => by injection h with h; subst h; rfl) (by decide +kernel) trivial ?_
  refine z_go2 M.1 11 [(.aload_n 0, 1), (.iconst 4, 1)] (13, [(0, z_r 54)], [.inl 4, z_r 54], Wc_134, 1, 4) (by decide +kernel) rfl ⟨trivial, trivial, trivial⟩ ?_
  refine z_newaC (n := 56) (aty := .int) (N := 4) (w' := Wc_135) Wn_134 rfl M.1 (by decide +kernel) M.2.1 (z_wi 235 (by decide +kernel) rfl) (by decide) (by decide) (by decide) (by decide) (by decide) ?_
  refine z_putFC (idx := 15) (ci := 2) (j := 1) (kd := 1) (w' := Wc_136) rfl M.1 (by decide +kernel) (by decide) rfl (fun r h => by injection h with h; subst h; rfl) (by decide +kernel) trivial ?_
  refine z_go2 M.1 18 [(.aload_n 0, 1), (.sipush 192, 3)] (22, [(0, z_r 54)], [.inl 192, z_r 54], Wc_136, 2, 8) (by decide +kernel) rfl ⟨trivial, trivial, trivial⟩ ?_
  refine z_newaC (n := 57) (aty := .int) (N := 192) (w' := Wc_137) Wn_136 rfl M.1 (by decide +kernel) M.2.1 (z_wi 235 (by decide +kernel) rfl) (by decide) (by decide) (by decide) (by decide) (by decide) ?_
  refine z_putFC (idx := 18) (ci := 2) (j := 2) (kd := 1) (w' := Wc_138) rfl M.1 (by decide +kernel) (by decide) rfl (fun r h => by injection h with h; subst h; rfl) (by decide +kernel) trivial ?_
  refine z_go2 M.1 27 [(.aload_n 0, 1), (.bipush 6, 2)] (30, [(0, z_r 54)], [.inl 6, z_r 54], Wc_138, 3, 200) (by decide +kernel) rfl ⟨trivial, trivial, trivial⟩ ?_
  refine z_newaC (n := 58) (aty := .int) (N := 6) (w' := Wc_139) Wn_138 rfl M.1 (by decide +kernel) M.2.1 (z_wi 235 (by decide +kernel) rfl) (by decide) (by decide) (by decide) (by decide) (by decide) ?_
  refine z_putFC (idx := 21) (ci := 2) (j := 3) (kd := 1) (w' := Wc_140) rfl M.1 (by decide +kernel) (by decide) rfl (fun r h => by injection h with h; subst h; rfl) (by decide +kernel) trivial ?_
  refine z_go2 M.1 35 [(.aload_n 0, 1), (.iconst (-1), 1)] (37, [(0, z_r 54)], [.inl (-1), z_r 54], Wc_140, 4, 206) (by decide +kernel) rfl ⟨trivial, trivial, trivial⟩ ?_
  refine z_putC (idx := 24) (ci := 2) (j := 4) (kd := 0) (w' := Wc_141) rfl M.1 (by decide +kernel) (by decide) (by decide +kernel) trivial ?_
  refine z_go2 M.1 40 [(.aload_n 0, 1)] (41, [(0, z_r 54)], [z_r 54], Wc_141, 4, 206) (by decide +kernel) rfl ⟨trivial, trivial⟩ ?_
  refine z_getRC (idx := 9) (ci := 2) (j := 0) (kd := 5) (r := 55) M.1 (by decide +kernel) (by decide) (by decide) (by decide +kernel) (by decide +kernel) ?_
  refine z_go2 M.1 44 [(.iconst 1, 1)] (45, [(0, z_r 54)], [.inl 1, z_r 55], Wc_141, 4, 206) (by decide +kernel) rfl ⟨trivial, trivial⟩ ?_
  refine z_callS M.1 (av := [z_r 55, .inl 1]) (st := []) (by decide +kernel) (c_fill Wc_141.1 Wc_141.2.1 Wc_141.2.2.1 Wc_141.2.2.2 55 4 (by decide +kernel) (by decide) 1) M.2.1 zl_Flows_28 zs_Arrays_fill ⟨by decide, by decide, by decide, by decide⟩ rfl (Nat.le_of_ble_eq_true rfl) (fun v w' hv => ?_)
  obtain ⟨rfl, rfl⟩ := hv
  show z_G X zm_Flows_init (48, [(0, z_r 54)], [], Wc_142, 4, 206)
  exact z_vret M (by decide +kernel) rfl (by decide) (by decide) ⟨rfl, rfl⟩
def Wc_143 : z_W := z_wr Wc_142 0 8 (z_r 54)
theorem Wn_143 : Wc_143.2.2.2 = 59 := Wn_142
def Wc_144 : z_W := z_nw Wc_143 (1, 7)
theorem Wn_144 : Wc_144.2.2.2 = 60 := congrArg (· + 1) Wn_143
def Wc_145 : z_W := z_nw Wc_144 (2, 6)
theorem Wn_145 : Wc_145.2.2.2 = 61 := congrArg (· + 1) Wn_144
def Wc_146 : z_W := z_wr Wc_145 59 0 (z_r 60)
theorem Wn_146 : Wc_146.2.2.2 = 61 := Wn_145
def Wc_147 : z_W := z_nw Wc_146 (2, 6)
theorem Wn_147 : Wc_147.2.2.2 = 62 := congrArg (· + 1) Wn_146
def Wc_148 : z_W := z_wr Wc_147 59 1 (z_r 61)
theorem Wn_148 : Wc_148.2.2.2 = 62 := Wn_147
def Wc_149 : z_W := z_nw Wc_148 (2, 6)
theorem Wn_149 : Wc_149.2.2.2 = 63 := congrArg (· + 1) Wn_148
def Wc_150 : z_W := z_wr Wc_149 59 2 (z_r 62)
theorem Wn_150 : Wc_150.2.2.2 = 63 := Wn_149
def Wc_151 : z_W := z_nw Wc_150 (2, 6)
theorem Wn_151 : Wc_151.2.2.2 = 64 := congrArg (· + 1) Wn_150
def Wc_152 : z_W := z_wr Wc_151 59 3 (z_r 63)
theorem Wn_152 : Wc_152.2.2.2 = 64 := Wn_151
def Wc_153 : z_W := z_nw Wc_152 (2, 6)
theorem Wn_153 : Wc_153.2.2.2 = 65 := congrArg (· + 1) Wn_152
def Wc_154 : z_W := z_wr Wc_153 59 4 (z_r 64)
theorem Wn_154 : Wc_154.2.2.2 = 65 := Wn_153
def Wc_155 : z_W := z_nw Wc_154 (2, 6)
theorem Wn_155 : Wc_155.2.2.2 = 66 := congrArg (· + 1) Wn_154
def Wc_156 : z_W := z_wr Wc_155 59 5 (z_r 65)
theorem Wn_156 : Wc_156.2.2.2 = 66 := Wn_155
def Wc_157 : z_W := z_nw Wc_156 (2, 6)
theorem Wn_157 : Wc_157.2.2.2 = 67 := congrArg (· + 1) Wn_156
def Wc_158 : z_W := z_wr Wc_157 59 6 (z_r 66)
theorem Wn_158 : Wc_158.2.2.2 = 67 := Wn_157
def Wc_159 : z_W := z_nw Wc_158 (2, 6)
theorem Wn_159 : Wc_159.2.2.2 = 68 := congrArg (· + 1) Wn_158
def Wc_160 : z_W := z_wr Wc_159 59 7 (z_r 67)
theorem Wn_160 : Wc_160.2.2.2 = 68 := Wn_159
def Wc_161 : z_W := z_wr Wc_160 59 8 (.inl 0)
theorem Wn_161 : Wc_161.2.2.2 = 68 := Wn_160
theorem ci_144_Rules_init : z_Run (zg 1 8 48) zm_Rules_init [z_r 59] Wc_144 (zq none Wc_161) := by
  refine z_body (by decide) zf_Rules_ok (Nat.le_of_ble_eq_true rfl) (fun X M => ?_)
  show z_G X zm_Rules_init (0, [(0, z_r 59)], [], Wc_144, 0, 0)
  refine z_go2 M.1 0 [(.aload_n 0, 1)] (1, [(0, z_r 59)], [z_r 59], Wc_144, 0, 0) (by decide +kernel) rfl ⟨trivial, trivial⟩ ?_
  refine z_objInit (idx := 3) M.1 (by decide +kernel) M.2.1 (z_wi 475 (by decide +kernel) rfl) (z_wi 184 (by decide +kernel) rfl) (z_wi 185 (by decide +kernel) rfl) rfl (by decide) (by decide) (Nat.le_of_ble_eq_true rfl) ?_
  refine z_go2 M.1 4 [(.aload_n 0, 1), (.bipush 6, 2)] (7, [(0, z_r 59)], [.inl 6, z_r 59], Wc_144, 0, 0) (by decide +kernel) rfl ⟨trivial, trivial, trivial⟩ ?_
  refine z_newaC (n := 60) (aty := .int) (N := 6) (w' := Wc_145) Wn_144 rfl M.1 (by decide +kernel) M.2.1 (z_wi 235 (by decide +kernel) rfl) (by decide) (by decide) (by decide) (by decide) (by decide) ?_
  refine z_putFC (idx := 9) (ci := 7) (j := 0) (kd := 1) (w' := Wc_146) rfl M.1 (by decide +kernel) (by decide) rfl (fun r h => by injection h with h; subst h; rfl) (by decide +kernel) trivial ?_
  refine z_go2 M.1 12 [(.aload_n 0, 1), (.bipush 6, 2)] (15, [(0, z_r 59)], [.inl 6, z_r 59], Wc_146, 1, 6) (by decide +kernel) rfl ⟨trivial, trivial, trivial⟩ ?_
  refine z_newaC (n := 61) (aty := .int) (N := 6) (w' := Wc_147) Wn_146 rfl M.1 (by decide +kernel) M.2.1 (z_wi 235 (by decide +kernel) rfl) (by decide) (by decide) (by decide) (by decide) (by decide) ?_
  refine z_putFC (idx := 15) (ci := 7) (j := 1) (kd := 1) (w' := Wc_148) rfl M.1 (by decide +kernel) (by decide) rfl (fun r h => by injection h with h; subst h; rfl) (by decide +kernel) trivial ?_
  refine z_go2 M.1 20 [(.aload_n 0, 1), (.bipush 6, 2)] (23, [(0, z_r 59)], [.inl 6, z_r 59], Wc_148, 2, 12) (by decide +kernel) rfl ⟨trivial, trivial, trivial⟩ ?_
  refine z_newaC (n := 62) (aty := .int) (N := 6) (w' := Wc_149) Wn_148 rfl M.1 (by decide +kernel) M.2.1 (z_wi 235 (by decide +kernel) rfl) (by decide) (by decide) (by decide) (by decide) (by decide) ?_
  refine z_putFC (idx := 18) (ci := 7) (j := 2) (kd := 1) (w' := Wc_150) rfl M.1 (by decide +kernel) (by decide) rfl (fun r h => by injection h with h; subst h; rfl) (by decide +kernel) trivial ?_
  refine z_go2 M.1 28 [(.aload_n 0, 1), (.bipush 6, 2)] (31, [(0, z_r 59)], [.inl 6, z_r 59], Wc_150, 3, 18) (by decide +kernel) rfl ⟨trivial, trivial, trivial⟩ ?_
  refine z_newaC (n := 63) (aty := .int) (N := 6) (w' := Wc_151) Wn_150 rfl M.1 (by decide +kernel) M.2.1 (z_wi 235 (by decide +kernel) rfl) (by decide) (by decide) (by decide) (by decide) (by decide) ?_
  refine z_putFC (idx := 21) (ci := 7) (j := 3) (kd := 1) (w' := Wc_152) rfl M.1 (by decide +kernel) (by decide) rfl (fun r h => by injection h with h; subst h; rfl) (by decide +kernel) trivial ?_
  refine z_go2 M.1 36 [(.aload_n 0, 1), (.bipush 6, 2)] (39, [(0, z_r 59)], [.inl 6, z_r 59], Wc_152, 4, 24) (by decide +kernel) rfl ⟨trivial, trivial, trivial⟩ ?_
  refine z_newaC (n := 64) (aty := .int) (N := 6) (w' := Wc_153) Wn_152 rfl M.1 (by decide +kernel) M.2.1 (z_wi 235 (by decide +kernel) rfl) (by decide) (by decide) (by decide) (by decide) (by decide) ?_
  refine z_putFC (idx := 24) (ci := 7) (j := 4) (kd := 1) (w' := Wc_154) rfl M.1 (by decide +kernel) (by decide) rfl (fun r h => by injection h with h; subst h; rfl) (by decide +kernel) trivial ?_
  refine z_go2 M.1 44 [(.aload_n 0, 1), (.bipush 6, 2)] (47, [(0, z_r 59)], [.inl 6, z_r 59], Wc_154, 5, 30) (by decide +kernel) rfl ⟨trivial, trivial, trivial⟩ ?_
  refine z_newaC (n := 65) (aty := .int) (N := 6) (w' := Wc_155) Wn_154 rfl M.1 (by decide +kernel) M.2.1 (z_wi 235 (by decide +kernel) rfl) (by decide) (by decide) (by decide) (by decide) (by decide) ?_
  refine z_putFC (idx := 27) (ci := 7) (j := 5) (kd := 1) (w' := Wc_156) rfl M.1 (by decide +kernel) (by decide) rfl (fun r h => by injection h with h; subst h; rfl) (by decide +kernel) trivial ?_
  refine z_go2 M.1 52 [(.aload_n 0, 1), (.bipush 6, 2)] (55, [(0, z_r 59)], [.inl 6, z_r 59], Wc_156, 6, 36) (by decide +kernel) rfl ⟨trivial, trivial, trivial⟩ ?_
  refine z_newaC (n := 66) (aty := .int) (N := 6) (w' := Wc_157) Wn_156 rfl M.1 (by decide +kernel) M.2.1 (z_wi 235 (by decide +kernel) rfl) (by decide) (by decide) (by decide) (by decide) (by decide) ?_
  refine z_putFC (idx := 30) (ci := 7) (j := 6) (kd := 1) (w' := Wc_158) rfl M.1 (by decide +kernel) (by decide) rfl (fun r h => by injection h with h; subst h; rfl) (by decide +kernel) trivial ?_
  refine z_go2 M.1 60 [(.aload_n 0, 1), (.bipush 6, 2)] (63, [(0, z_r 59)], [.inl 6, z_r 59], Wc_158, 7, 42) (by decide +kernel) rfl ⟨trivial, trivial, trivial⟩ ?_
  refine z_newaC (n := 67) (aty := .int) (N := 6) (w' := Wc_159) Wn_158 rfl M.1 (by decide +kernel) M.2.1 (z_wi 235 (by decide +kernel) rfl) (by decide) (by decide) (by decide) (by decide) (by decide) ?_
  refine z_putFC (idx := 33) (ci := 7) (j := 7) (kd := 1) (w' := Wc_160) rfl M.1 (by decide +kernel) (by decide) rfl (fun r h => by injection h with h; subst h; rfl) (by decide +kernel) trivial ?_
  refine z_go2 M.1 68 [(.aload_n 0, 1), (.iconst 0, 1)] (70, [(0, z_r 59)], [.inl 0, z_r 59], Wc_160, 8, 48) (by decide +kernel) rfl ⟨trivial, trivial, trivial⟩ ?_
  refine z_putC (idx := 36) (ci := 7) (j := 8) (kd := 0) (w' := Wc_161) rfl M.1 (by decide +kernel) (by decide) (by decide +kernel) trivial ?_
  exact z_vret M (by decide +kernel) rfl (by decide) (by decide) ⟨rfl, rfl⟩
def Wc_162 : z_W := z_wr Wc_161 0 9 (z_r 59)
theorem Wn_162 : Wc_162.2.2.2 = 68 := Wn_161
def Wc_163 : z_W := z_nw Wc_162 (1, 6)
theorem Wn_163 : Wc_163.2.2.2 = 69 := congrArg (· + 1) Wn_162
def Wc_164 : z_W := z_nw Wc_163 (2, 30)
theorem Wn_164 : Wc_164.2.2.2 = 70 := congrArg (· + 1) Wn_163
def Wc_165 : z_W := z_wr Wc_164 68 0 (z_r 69)
theorem Wn_165 : Wc_165.2.2.2 = 70 := Wn_164
def Wc_166 : z_W := z_nw Wc_165 (2, 30)
theorem Wn_166 : Wc_166.2.2.2 = 71 := congrArg (· + 1) Wn_165
def Wc_167 : z_W := z_wr Wc_166 68 1 (z_r 70)
theorem Wn_167 : Wc_167.2.2.2 = 71 := Wn_166
def Wc_168 : z_W := z_wr Wc_167 68 2 (.inl 0)
theorem Wn_168 : Wc_168.2.2.2 = 71 := Wn_167
theorem ci_163_Ranks_init : z_Run (zg 1 2 60) zm_Ranks_init [z_r 68] Wc_163 (zq none Wc_168) := by
  refine z_body (by decide) zf_Ranks_ok (Nat.le_of_ble_eq_true rfl) (fun X M => ?_)
  show z_G X zm_Ranks_init (0, [(0, z_r 68)], [], Wc_163, 0, 0)
  refine z_go2 M.1 0 [(.aload_n 0, 1)] (1, [(0, z_r 68)], [z_r 68], Wc_163, 0, 0) (by decide +kernel) rfl ⟨trivial, trivial⟩ ?_
  refine z_objInit (idx := 3) M.1 (by decide +kernel) M.2.1 (z_wi 516 (by decide +kernel) rfl) (z_wi 184 (by decide +kernel) rfl) (z_wi 185 (by decide +kernel) rfl) rfl (by decide) (by decide) (Nat.le_of_ble_eq_true rfl) ?_
  refine z_go2 M.1 4 [(.aload_n 0, 1), (.bipush 30, 2)] (7, [(0, z_r 68)], [.inl 30, z_r 68], Wc_163, 0, 0) (by decide +kernel) rfl ⟨trivial, trivial, trivial⟩ ?_
  refine z_newaC (n := 69) (aty := .int) (N := 30) (w' := Wc_164) Wn_163 rfl M.1 (by decide +kernel) M.2.1 (z_wi 235 (by decide +kernel) rfl) (by decide) (by decide) (by decide) (by decide) (by decide) ?_
  refine z_putFC (idx := 9) (ci := 6) (j := 0) (kd := 1) (w' := Wc_165) rfl M.1 (by decide +kernel) (by decide) rfl (fun r h => by injection h with h; subst h; rfl) (by decide +kernel) trivial ?_
  refine z_go2 M.1 12 [(.aload_n 0, 1), (.bipush 30, 2)] (15, [(0, z_r 68)], [.inl 30, z_r 68], Wc_165, 1, 30) (by decide +kernel) rfl ⟨trivial, trivial, trivial⟩ ?_
  refine z_newaC (n := 70) (aty := .int) (N := 30) (w' := Wc_166) Wn_165 rfl M.1 (by decide +kernel) M.2.1 (z_wi 235 (by decide +kernel) rfl) (by decide) (by decide) (by decide) (by decide) (by decide) ?_
  refine z_putFC (idx := 15) (ci := 6) (j := 1) (kd := 1) (w' := Wc_167) rfl M.1 (by decide +kernel) (by decide) rfl (fun r h => by injection h with h; subst h; rfl) (by decide +kernel) trivial ?_
  refine z_go2 M.1 20 [(.aload_n 0, 1), (.iconst 0, 1)] (22, [(0, z_r 68)], [.inl 0, z_r 68], Wc_167, 2, 60) (by decide +kernel) rfl ⟨trivial, trivial, trivial⟩ ?_
  refine z_putC (idx := 18) (ci := 6) (j := 2) (kd := 0) (w' := Wc_168) rfl M.1 (by decide +kernel) (by decide) (by decide +kernel) trivial ?_
  exact z_vret M (by decide +kernel) rfl (by decide) (by decide) ⟨rfl, rfl⟩
def Wc_169 : z_W := z_wr Wc_168 0 10 (z_r 68)
theorem Wn_169 : Wc_169.2.2.2 = 71 := Wn_168
def Wc_170 : z_W := z_nw Wc_169 (1, 0)
theorem Wn_170 : Wc_170.2.2.2 = 72 := congrArg (· + 1) Wn_169
def Wc_171 : z_W := z_nw Wc_170 (2, 512)
theorem Wn_171 : Wc_171.2.2.2 = 73 := congrArg (· + 1) Wn_170
def Wc_172 : z_W := z_wr Wc_171 71 0 (z_r 72)
theorem Wn_172 : Wc_172.2.2.2 = 73 := Wn_171
def Wc_173 : z_W := z_nw Wc_172 (2, 512)
theorem Wn_173 : Wc_173.2.2.2 = 74 := congrArg (· + 1) Wn_172
def Wc_174 : z_W := z_wr Wc_173 71 1 (z_r 73)
theorem Wn_174 : Wc_174.2.2.2 = 74 := Wn_173
def Wc_175 : z_W := z_nw Wc_174 (2, 512)
theorem Wn_175 : Wc_175.2.2.2 = 75 := congrArg (· + 1) Wn_174
def Wc_176 : z_W := z_wr Wc_175 71 2 (z_r 74)
theorem Wn_176 : Wc_176.2.2.2 = 75 := Wn_175
def Wc_177 : z_W := z_nw Wc_176 (2, 512)
theorem Wn_177 : Wc_177.2.2.2 = 76 := congrArg (· + 1) Wn_176
def Wc_178 : z_W := z_wr Wc_177 71 3 (z_r 75)
theorem Wn_178 : Wc_178.2.2.2 = 76 := Wn_177
def Wc_179 : z_W := z_wr Wc_178 71 4 (.inl 0)
theorem Wn_179 : Wc_179.2.2.2 = 76 := Wn_178
theorem ci_170_Bulks_init : z_Run (zg 1 4 2048) zm_Bulks_init [z_r 71] Wc_170 (zq none Wc_179) := by
  refine z_body (by decide) zf_Bulks_ok (Nat.le_of_ble_eq_true rfl) (fun X M => ?_)
  show z_G X zm_Bulks_init (0, [(0, z_r 71)], [], Wc_170, 0, 0)
  refine z_go2 M.1 0 [(.aload_n 0, 1)] (1, [(0, z_r 71)], [z_r 71], Wc_170, 0, 0) (by decide +kernel) rfl ⟨trivial, trivial⟩ ?_
  refine z_objInit (idx := 3) M.1 (by decide +kernel) M.2.1 (z_wi 533 (by decide +kernel) rfl) (z_wi 184 (by decide +kernel) rfl) (z_wi 185 (by decide +kernel) rfl) rfl (by decide) (by decide) (Nat.le_of_ble_eq_true rfl) ?_
  refine z_go2 M.1 4 [(.aload_n 0, 1), (.sipush 512, 3)] (8, [(0, z_r 71)], [.inl 512, z_r 71], Wc_170, 0, 0) (by decide +kernel) rfl ⟨trivial, trivial, trivial⟩ ?_
  refine z_newaC (n := 72) (aty := .int) (N := 512) (w' := Wc_171) Wn_170 rfl M.1 (by decide +kernel) M.2.1 (z_wi 235 (by decide +kernel) rfl) (by decide) (by decide) (by decide) (by decide) (by decide) ?_
  refine z_putFC (idx := 9) (ci := 0) (j := 0) (kd := 1) (w' := Wc_172) rfl M.1 (by decide +kernel) (by decide) rfl (fun r h => by injection h with h; subst h; rfl) (by decide +kernel) trivial ?_
  refine z_go2 M.1 13 [(.aload_n 0, 1), (.sipush 512, 3)] (17, [(0, z_r 71)], [.inl 512, z_r 71], Wc_172, 1, 512) (by decide +kernel) rfl ⟨trivial, trivial, trivial⟩ ?_
  refine z_newaC (n := 73) (aty := .int) (N := 512) (w' := Wc_173) Wn_172 rfl M.1 (by decide +kernel) M.2.1 (z_wi 235 (by decide +kernel) rfl) (by decide) (by decide) (by decide) (by decide) (by decide) ?_
  refine z_putFC (idx := 15) (ci := 0) (j := 1) (kd := 1) (w' := Wc_174) rfl M.1 (by decide +kernel) (by decide) rfl (fun r h => by injection h with h; subst h; rfl) (by decide +kernel) trivial ?_
  refine z_go2 M.1 22 [(.aload_n 0, 1), (.sipush 512, 3)] (26, [(0, z_r 71)], [.inl 512, z_r 71], Wc_174, 2, 1024) (by decide +kernel) rfl ⟨trivial, trivial, trivial⟩ ?_
  refine z_newaC (n := 74) (aty := .int) (N := 512) (w' := Wc_175) Wn_174 rfl M.1 (by decide +kernel) M.2.1 (z_wi 235 (by decide +kernel) rfl) (by decide) (by decide) (by decide) (by decide) (by decide) ?_
  refine z_putFC (idx := 18) (ci := 0) (j := 2) (kd := 1) (w' := Wc_176) rfl M.1 (by decide +kernel) (by decide) rfl (fun r h => by injection h with h; subst h; rfl) (by decide +kernel) trivial ?_
  refine z_go2 M.1 31 [(.aload_n 0, 1), (.sipush 512, 3)] (35, [(0, z_r 71)], [.inl 512, z_r 71], Wc_176, 3, 1536) (by decide +kernel) rfl ⟨trivial, trivial, trivial⟩ ?_
  refine z_newaC (n := 75) (aty := .int) (N := 512) (w' := Wc_177) Wn_176 rfl M.1 (by decide +kernel) M.2.1 (z_wi 235 (by decide +kernel) rfl) (by decide) (by decide) (by decide) (by decide) (by decide) ?_
  refine z_putFC (idx := 21) (ci := 0) (j := 3) (kd := 1) (w' := Wc_178) rfl M.1 (by decide +kernel) (by decide) rfl (fun r h => by injection h with h; subst h; rfl) (by decide +kernel) trivial ?_
  refine z_go2 M.1 40 [(.aload_n 0, 1), (.iconst 0, 1)] (42, [(0, z_r 71)], [.inl 0, z_r 71], Wc_178, 4, 2048) (by decide +kernel) rfl ⟨trivial, trivial, trivial⟩ ?_
  refine z_putC (idx := 24) (ci := 0) (j := 4) (kd := 0) (w' := Wc_179) rfl M.1 (by decide +kernel) (by decide) (by decide +kernel) trivial ?_
  exact z_vret M (by decide +kernel) rfl (by decide) (by decide) ⟨rfl, rfl⟩
def Wc_180 : z_W := z_wr Wc_179 0 11 (z_r 71)
theorem Wn_180 : Wc_180.2.2.2 = 76 := Wn_179
def Wc_181 : z_W := z_nw Wc_180 (2, 8)
theorem Wn_181 : Wc_181.2.2.2 = 77 := congrArg (· + 1) Wn_180
def Wc_182 : z_W := z_wr Wc_181 0 12 (z_r 76)
theorem Wn_182 : Wc_182.2.2.2 = 77 := Wn_181
def Wc_183 : z_W := z_nw Wc_182 (2, 8)
theorem Wn_183 : Wc_183.2.2.2 = 78 := congrArg (· + 1) Wn_182
def Wc_184 : z_W := z_wr Wc_183 0 13 (z_r 77)
theorem Wn_184 : Wc_184.2.2.2 = 78 := Wn_183
def Wc_185 : z_W := z_wr Wc_184 0 14 (.inl 0)
theorem Wn_185 : Wc_185.2.2.2 = 78 := Wn_184
def Wc_186 : z_W := z_wr Wc_185 0 15 (.inl 0)
theorem Wn_186 : Wc_186.2.2.2 = 78 := Wn_185
theorem ci_1_T_init : z_Run (zg 4 77 10966) zm_T_init [z_r 0] Wc_1 (zq none Wc_186) := by
  refine z_body (by decide) zf_T_ok (Nat.le_of_ble_eq_true rfl) (fun X M => ?_)
  show z_G X zm_T_init (0, [(0, z_r 0)], [], Wc_1, 0, 0)
  refine z_go2 M.1 0 [(.aload_n 0, 1)] (1, [(0, z_r 0)], [z_r 0], Wc_1, 0, 0) (by decide +kernel) rfl ⟨trivial, trivial⟩ ?_
  refine z_objInit (idx := 3) M.1 (by decide +kernel) M.2.1 (z_wi 183 (by decide +kernel) rfl) (z_wi 184 (by decide +kernel) rfl) (z_wi 185 (by decide +kernel) rfl) rfl (by decide) (by decide) (Nat.le_of_ble_eq_true rfl) ?_
  refine z_go2 M.1 4 [(.aload_n 0, 1)] (5, [(0, z_r 0)], [z_r 0], Wc_1, 0, 0) (by decide +kernel) rfl ⟨trivial, trivial⟩ ?_
  refine z_newC (idx := 9) (n := 1) (ci := 4) (r := (RX4, TX4, 8)) (w' := Wc_2) Wn_1 rfl M.1 (by decide +kernel) M.2.1 rfl (z_wi 186 (by decide +kernel) rfl) (z_wi 187 (by decide +kernel) rfl) (z_wi 154 (by decide +kernel) rfl) (by decide) (by decide) ?_
  refine z_go2 M.1 8 [(.dup, 1)] (9, [(0, z_r 0)], [z_r 1, z_r 1, z_r 0], Wc_2, 1, 8) (by decide +kernel) rfl ⟨rfl, trivial⟩ ?_
  refine z_callI M.1 (av := []) (st := [z_r 1, z_r 0]) (a := 1) (by decide +kernel) ci_2_Log_init M.2.1 zl_T_11 rfl rfl zi_Log_init ⟨by decide, by decide, by decide, by decide⟩ rfl (Nat.le_of_ble_eq_true rfl) (fun v w' hv => ?_)
  obtain ⟨rfl, rfl⟩ := hv
  show z_G X zm_T_init (12, [(0, z_r 0)], [z_r 1, z_r 0], Wc_17, 8, 6308)
  refine z_putFC (idx := 12) (ci := 11) (j := 0) (kd := 1) (w' := Wc_18) rfl M.1 (by decide +kernel) (by decide) rfl (fun r h => by injection h with h; subst h; rfl) (by decide +kernel) trivial ?_
  refine z_go2 M.1 15 [(.aload_n 0, 1)] (16, [(0, z_r 0)], [z_r 0], Wc_18, 8, 6308) (by decide +kernel) rfl ⟨trivial, trivial⟩ ?_
  refine z_newC (idx := 16) (n := 9) (ci := 10) (r := (RX10, TX10, 4)) (w' := Wc_19) Wn_18 rfl M.1 (by decide +kernel) M.2.1 rfl (z_wi 236 (by decide +kernel) rfl) (z_wi 237 (by decide +kernel) rfl) (z_wi 155 (by decide +kernel) rfl) (by decide) (by decide) ?_
  refine z_go2 M.1 19 [(.dup, 1)] (20, [(0, z_r 0)], [z_r 9, z_r 9, z_r 0], Wc_19, 9, 6312) (by decide +kernel) rfl ⟨rfl, trivial⟩ ?_
  refine z_callI M.1 (av := []) (st := [z_r 9, z_r 0]) (a := 9) (by decide +kernel) ci_19_World_init M.2.1 zl_T_18 rfl rfl zi_World_init ⟨by decide, by decide, by decide, by decide⟩ rfl (Nat.le_of_ble_eq_true rfl) (fun v w' hv => ?_)
  obtain ⟨rfl, rfl⟩ := hv
  show z_G X zm_T_init (23, [(0, z_r 0)], [z_r 9, z_r 0], Wc_26, 12, 6726)
  refine z_putFC (idx := 19) (ci := 11) (j := 1) (kd := 1) (w' := Wc_27) rfl M.1 (by decide +kernel) (by decide) rfl (fun r h => by injection h with h; subst h; rfl) (by decide +kernel) trivial ?_
  refine z_go2 M.1 26 [(.aload_n 0, 1)] (27, [(0, z_r 0)], [z_r 0], Wc_27, 12, 6726) (by decide +kernel) rfl ⟨trivial, trivial⟩ ?_
  refine z_newC (idx := 16) (n := 13) (ci := 10) (r := (RX10, TX10, 4)) (w' := Wc_28) Wn_27 rfl M.1 (by decide +kernel) M.2.1 rfl (z_wi 236 (by decide +kernel) rfl) (z_wi 237 (by decide +kernel) rfl) (z_wi 155 (by decide +kernel) rfl) (by decide) (by decide) ?_
  refine z_go2 M.1 30 [(.dup, 1)] (31, [(0, z_r 0)], [z_r 13, z_r 13, z_r 0], Wc_28, 13, 6730) (by decide +kernel) rfl ⟨rfl, trivial⟩ ?_
  refine z_callI M.1 (av := []) (st := [z_r 13, z_r 0]) (a := 13) (by decide +kernel) ci_28_World_init M.2.1 zl_T_18 rfl rfl zi_World_init ⟨by decide, by decide, by decide, by decide⟩ rfl (Nat.le_of_ble_eq_true rfl) (fun v w' hv => ?_)
  obtain ⟨rfl, rfl⟩ := hv
  show z_G X zm_T_init (34, [(0, z_r 0)], [z_r 13, z_r 0], Wc_35, 16, 7144)
  refine z_putFC (idx := 23) (ci := 11) (j := 2) (kd := 1) (w' := Wc_36) rfl M.1 (by decide +kernel) (by decide) rfl (fun r h => by injection h with h; subst h; rfl) (by decide +kernel) trivial ?_
  refine z_go2 M.1 37 [(.aload_n 0, 1)] (38, [(0, z_r 0)], [z_r 0], Wc_36, 16, 7144) (by decide +kernel) rfl ⟨trivial, trivial⟩ ?_
  refine z_newC (idx := 26) (n := 17) (ci := 1) (r := (RX1, TX1, 4)) (w' := Wc_37) Wn_36 rfl M.1 (by decide +kernel) M.2.1 rfl (z_wi 256 (by decide +kernel) rfl) (z_wi 257 (by decide +kernel) rfl) (z_wi 156 (by decide +kernel) rfl) (by decide) (by decide) ?_
  refine z_go2 M.1 41 [(.dup, 1)] (42, [(0, z_r 0)], [z_r 17, z_r 17, z_r 0], Wc_37, 17, 7148) (by decide +kernel) rfl ⟨rfl, trivial⟩ ?_
  refine z_callI M.1 (av := []) (st := [z_r 17, z_r 0]) (a := 17) (by decide +kernel) ci_37_Finder_init M.2.1 zl_T_28 rfl rfl zi_Finder_init ⟨by decide, by decide, by decide, by decide⟩ rfl (Nat.le_of_ble_eq_true rfl) (fun v w' hv => ?_)
  obtain ⟨rfl, rfl⟩ := hv
  show z_G X zm_T_init (45, [(0, z_r 0)], [z_r 17, z_r 0], Wc_126, 53, 8566)
  refine z_putFC (idx := 29) (ci := 11) (j := 3) (kd := 1) (w' := Wc_127) rfl M.1 (by decide +kernel) (by decide) rfl (fun r h => by injection h with h; subst h; rfl) (by decide +kernel) trivial ?_
  refine z_go2 M.1 48 [(.aload_n 0, 1), (.aload_n 0, 1)] (50, [(0, z_r 0)], [z_r 0, z_r 0], Wc_127, 53, 8566) (by decide +kernel) rfl ⟨trivial, trivial, trivial⟩ ?_
  refine z_getRC (idx := 29) (ci := 11) (j := 3) (kd := 5) (r := 17) M.1 (by decide +kernel) (by decide) (by decide) (by decide +kernel) (by decide +kernel) ?_
  refine z_getRC (idx := 33) (ci := 1) (j := 1) (kd := 5) (r := 19) M.1 (by decide +kernel) (by decide) (by decide) (by decide +kernel) (by decide +kernel) ?_
  refine z_putFC (idx := 37) (ci := 11) (j := 4) (kd := 1) (w' := Wc_128) rfl M.1 (by decide +kernel) (by decide) rfl (fun r h => by injection h with h; subst h; rfl) (by decide +kernel) trivial ?_
  refine z_go2 M.1 59 [(.aload_n 0, 1), (.aload_n 0, 1)] (61, [(0, z_r 0)], [z_r 0, z_r 0], Wc_128, 53, 8566) (by decide +kernel) rfl ⟨trivial, trivial, trivial⟩ ?_
  refine z_getRC (idx := 29) (ci := 11) (j := 3) (kd := 5) (r := 17) M.1 (by decide +kernel) (by decide) (by decide) (by decide +kernel) (by decide +kernel) ?_
  refine z_getRC (idx := 38) (ci := 1) (j := 2) (kd := 5) (r := 27) M.1 (by decide +kernel) (by decide) (by decide) (by decide +kernel) (by decide +kernel) ?_
  refine z_putFC (idx := 42) (ci := 11) (j := 5) (kd := 1) (w' := Wc_129) rfl M.1 (by decide +kernel) (by decide) rfl (fun r h => by injection h with h; subst h; rfl) (by decide +kernel) trivial ?_
  refine z_go2 M.1 70 [(.aload_n 0, 1), (.aload_n 0, 1)] (72, [(0, z_r 0)], [z_r 0, z_r 0], Wc_129, 53, 8566) (by decide +kernel) rfl ⟨trivial, trivial, trivial⟩ ?_
  refine z_getRC (idx := 29) (ci := 11) (j := 3) (kd := 5) (r := 17) M.1 (by decide +kernel) (by decide) (by decide) (by decide +kernel) (by decide +kernel) ?_
  refine z_getRC (idx := 43) (ci := 1) (j := 3) (kd := 5) (r := 36) M.1 (by decide +kernel) (by decide) (by decide) (by decide +kernel) (by decide +kernel) ?_
  refine z_putFC (idx := 47) (ci := 11) (j := 6) (kd := 1) (w' := Wc_130) rfl M.1 (by decide +kernel) (by decide) rfl (fun r h => by injection h with h; subst h; rfl) (by decide +kernel) trivial ?_
  refine z_go2 M.1 81 [(.aload_n 0, 1), (.aload_n 0, 1)] (83, [(0, z_r 0)], [z_r 0, z_r 0], Wc_130, 53, 8566) (by decide +kernel) rfl ⟨trivial, trivial, trivial⟩ ?_
  refine z_getRC (idx := 47) (ci := 11) (j := 6) (kd := 5) (r := 36) M.1 (by decide +kernel) (by decide) (by decide) (by decide +kernel) (by decide +kernel) ?_
  refine z_getRC (idx := 48) (ci := 8) (j := 6) (kd := 5) (r := 43) M.1 (by decide +kernel) (by decide) (by decide) (by decide +kernel) (by decide +kernel) ?_
  refine z_putFC (idx := 54) (ci := 11) (j := 7) (kd := 1) (w' := Wc_131) rfl M.1 (by decide +kernel) (by decide) rfl (fun r h => by injection h with h; subst h; rfl) (by decide +kernel) trivial ?_
  refine z_go2 M.1 92 [(.aload_n 0, 1)] (93, [(0, z_r 0)], [z_r 0], Wc_131, 53, 8566) (by decide +kernel) rfl ⟨trivial, trivial⟩ ?_
  refine z_newC (idx := 55) (n := 54) (ci := 2) (r := (RX2, TX2, 5)) (w' := Wc_132) Wn_131 rfl M.1 (by decide +kernel) M.2.1 rfl (z_wi 444 (by decide +kernel) rfl) (z_wi 445 (by decide +kernel) rfl) (z_wi 162 (by decide +kernel) rfl) (by decide) (by decide) ?_
  refine z_go2 M.1 96 [(.dup, 1)] (97, [(0, z_r 0)], [z_r 54, z_r 54, z_r 0], Wc_132, 54, 8571) (by decide +kernel) rfl ⟨rfl, trivial⟩ ?_
  refine z_callI M.1 (av := []) (st := [z_r 54, z_r 0]) (a := 54) (by decide +kernel) ci_132_Flows_init M.2.1 zl_T_57 rfl rfl zi_Flows_init ⟨by decide, by decide, by decide, by decide⟩ rfl (Nat.le_of_ble_eq_true rfl) (fun v w' hv => ?_)
  obtain ⟨rfl, rfl⟩ := hv
  show z_G X zm_T_init (100, [(0, z_r 0)], [z_r 54, z_r 0], Wc_142, 58, 8777)
  refine z_putFC (idx := 58) (ci := 11) (j := 8) (kd := 1) (w' := Wc_143) rfl M.1 (by decide +kernel) (by decide) rfl (fun r h => by injection h with h; subst h; rfl) (by decide +kernel) trivial ?_
  refine z_go2 M.1 103 [(.aload_n 0, 1)] (104, [(0, z_r 0)], [z_r 0], Wc_143, 58, 8777) (by decide +kernel) rfl ⟨trivial, trivial⟩ ?_
  refine z_newC (idx := 62) (n := 59) (ci := 7) (r := (RX7, TX7, 9)) (w' := Wc_144) Wn_143 rfl M.1 (by decide +kernel) M.2.1 rfl (z_wi 470 (by decide +kernel) rfl) (z_wi 471 (by decide +kernel) rfl) (z_wi 163 (by decide +kernel) rfl) (by decide) (by decide) ?_
  refine z_go2 M.1 107 [(.dup, 1)] (108, [(0, z_r 0)], [z_r 59, z_r 59, z_r 0], Wc_144, 59, 8786) (by decide +kernel) rfl ⟨rfl, trivial⟩ ?_
  refine z_callI M.1 (av := []) (st := [z_r 59, z_r 0]) (a := 59) (by decide +kernel) ci_144_Rules_init M.2.1 zl_T_64 rfl rfl zi_Rules_init ⟨by decide, by decide, by decide, by decide⟩ rfl (Nat.le_of_ble_eq_true rfl) (fun v w' hv => ?_)
  obtain ⟨rfl, rfl⟩ := hv
  show z_G X zm_T_init (111, [(0, z_r 0)], [z_r 59, z_r 0], Wc_161, 67, 8834)
  refine z_putFC (idx := 65) (ci := 11) (j := 9) (kd := 1) (w' := Wc_162) rfl M.1 (by decide +kernel) (by decide) rfl (fun r h => by injection h with h; subst h; rfl) (by decide +kernel) trivial ?_
  refine z_go2 M.1 114 [(.aload_n 0, 1)] (115, [(0, z_r 0)], [z_r 0], Wc_162, 67, 8834) (by decide +kernel) rfl ⟨trivial, trivial⟩ ?_
  refine z_newC (idx := 69) (n := 68) (ci := 6) (r := (RX6, TX6, 3)) (w' := Wc_163) Wn_162 rfl M.1 (by decide +kernel) M.2.1 rfl (z_wi 511 (by decide +kernel) rfl) (z_wi 512 (by decide +kernel) rfl) (z_wi 164 (by decide +kernel) rfl) (by decide) (by decide) ?_
  refine z_go2 M.1 118 [(.dup, 1)] (119, [(0, z_r 0)], [z_r 68, z_r 68, z_r 0], Wc_163, 68, 8837) (by decide +kernel) rfl ⟨rfl, trivial⟩ ?_
  refine z_callI M.1 (av := []) (st := [z_r 68, z_r 0]) (a := 68) (by decide +kernel) ci_163_Ranks_init M.2.1 zl_T_71 rfl rfl zi_Ranks_init ⟨by decide, by decide, by decide, by decide⟩ rfl (Nat.le_of_ble_eq_true rfl) (fun v w' hv => ?_)
  obtain ⟨rfl, rfl⟩ := hv
  show z_G X zm_T_init (122, [(0, z_r 0)], [z_r 68, z_r 0], Wc_168, 70, 8897)
  refine z_putFC (idx := 72) (ci := 11) (j := 10) (kd := 1) (w' := Wc_169) rfl M.1 (by decide +kernel) (by decide) rfl (fun r h => by injection h with h; subst h; rfl) (by decide +kernel) trivial ?_
  refine z_go2 M.1 125 [(.aload_n 0, 1)] (126, [(0, z_r 0)], [z_r 0], Wc_169, 70, 8897) (by decide +kernel) rfl ⟨trivial, trivial⟩ ?_
  refine z_newC (idx := 76) (n := 71) (ci := 0) (r := (RX0, TX0, 5)) (w' := Wc_170) Wn_169 rfl M.1 (by decide +kernel) M.2.1 rfl (z_wi 528 (by decide +kernel) rfl) (z_wi 529 (by decide +kernel) rfl) (z_wi 165 (by decide +kernel) rfl) (by decide) (by decide) ?_
  refine z_go2 M.1 129 [(.dup, 1)] (130, [(0, z_r 0)], [z_r 71, z_r 71, z_r 0], Wc_170, 71, 8902) (by decide +kernel) rfl ⟨rfl, trivial⟩ ?_
  refine z_callI M.1 (av := []) (st := [z_r 71, z_r 0]) (a := 71) (by decide +kernel) ci_170_Bulks_init M.2.1 zl_T_78 rfl rfl zi_Bulks_init ⟨by decide, by decide, by decide, by decide⟩ rfl (Nat.le_of_ble_eq_true rfl) (fun v w' hv => ?_)
  obtain ⟨rfl, rfl⟩ := hv
  show z_G X zm_T_init (133, [(0, z_r 0)], [z_r 71, z_r 0], Wc_179, 75, 10950)
  refine z_putFC (idx := 79) (ci := 11) (j := 11) (kd := 1) (w' := Wc_180) rfl M.1 (by decide +kernel) (by decide) rfl (fun r h => by injection h with h; subst h; rfl) (by decide +kernel) trivial ?_
  refine z_go2 M.1 136 [(.aload_n 0, 1), (.bipush 8, 2)] (139, [(0, z_r 0)], [.inl 8, z_r 0], Wc_180, 75, 10950) (by decide +kernel) rfl ⟨trivial, trivial, trivial⟩ ?_
  refine z_newaC (n := 76) (aty := .int) (N := 8) (w' := Wc_181) Wn_180 rfl M.1 (by decide +kernel) M.2.1 (z_wi 235 (by decide +kernel) rfl) (by decide) (by decide) (by decide) (by decide) (by decide) ?_
  refine z_putFC (idx := 83) (ci := 11) (j := 12) (kd := 1) (w' := Wc_182) rfl M.1 (by decide +kernel) (by decide) rfl (fun r h => by injection h with h; subst h; rfl) (by decide +kernel) trivial ?_
  refine z_go2 M.1 144 [(.aload_n 0, 1), (.bipush 8, 2)] (147, [(0, z_r 0)], [.inl 8, z_r 0], Wc_182, 76, 10958) (by decide +kernel) rfl ⟨trivial, trivial, trivial⟩ ?_
  refine z_newaC (n := 77) (aty := .int) (N := 8) (w' := Wc_183) Wn_182 rfl M.1 (by decide +kernel) M.2.1 (z_wi 235 (by decide +kernel) rfl) (by decide) (by decide) (by decide) (by decide) (by decide) ?_
  refine z_putFC (idx := 87) (ci := 11) (j := 13) (kd := 1) (w' := Wc_184) rfl M.1 (by decide +kernel) (by decide) rfl (fun r h => by injection h with h; subst h; rfl) (by decide +kernel) trivial ?_
  refine z_go2 M.1 152 [(.aload_n 0, 1), (.iconst 0, 1)] (154, [(0, z_r 0)], [.inl 0, z_r 0], Wc_184, 77, 10966) (by decide +kernel) rfl ⟨trivial, trivial, trivial⟩ ?_
  refine z_putC (idx := 90) (ci := 11) (j := 14) (kd := 0) (w' := Wc_185) rfl M.1 (by decide +kernel) (by decide) (by decide +kernel) trivial ?_
  refine z_go2 M.1 157 [(.aload_n 0, 1), (.iconst 0, 1)] (159, [(0, z_r 0)], [.inl 0, z_r 0], Wc_185, 77, 10966) (by decide +kernel) rfl ⟨trivial, trivial, trivial⟩ ?_
  refine z_putC (idx := 94) (ci := 11) (j := 15) (kd := 0) (w' := Wc_186) rfl M.1 (by decide +kernel) (by decide) (by decide +kernel) trivial ?_
  exact z_vret M (by decide +kernel) rfl (by decide) (by decide) ⟨rfl, rfl⟩
def Wc_187 : z_W := z_nw Wc_186 (1, 14)
theorem Wn_187 : Wc_187.2.2.2 = 79 := congrArg (· + 1) Wn_186
def Wc_188 : z_W := z_nw Wc_187 (2, 1200)
theorem Wn_188 : Wc_188.2.2.2 = 80 := congrArg (· + 1) Wn_187
def Wc_189 : z_W := z_wr Wc_188 78 3 (z_r 79)
theorem Wn_189 : Wc_189.2.2.2 = 80 := Wn_188
def Wc_190 : z_W := z_nw Wc_189 (2, 1200)
theorem Wn_190 : Wc_190.2.2.2 = 81 := congrArg (· + 1) Wn_189
def Wc_191 : z_W := z_wr Wc_190 78 4 (z_r 80)
theorem Wn_191 : Wc_191.2.2.2 = 81 := Wn_190
def Wc_192 : z_W := z_nw Wc_191 (2, 1200)
theorem Wn_192 : Wc_192.2.2.2 = 82 := congrArg (· + 1) Wn_191
def Wc_193 : z_W := z_wr Wc_192 78 5 (z_r 81)
theorem Wn_193 : Wc_193.2.2.2 = 82 := Wn_192
def Wc_194 : z_W := z_nw Wc_193 (2, 1200)
theorem Wn_194 : Wc_194.2.2.2 = 83 := congrArg (· + 1) Wn_193
def Wc_195 : z_W := z_wr Wc_194 78 6 (z_r 82)
theorem Wn_195 : Wc_195.2.2.2 = 83 := Wn_194
def Wc_196 : z_W := z_nw Wc_195 (2, 1200)
theorem Wn_196 : Wc_196.2.2.2 = 84 := congrArg (· + 1) Wn_195
def Wc_197 : z_W := z_wr Wc_196 78 7 (z_r 83)
theorem Wn_197 : Wc_197.2.2.2 = 84 := Wn_196
def Wc_198 : z_W := z_nw Wc_197 (2, 1200)
theorem Wn_198 : Wc_198.2.2.2 = 85 := congrArg (· + 1) Wn_197
def Wc_199 : z_W := z_wr Wc_198 78 8 (z_r 84)
theorem Wn_199 : Wc_199.2.2.2 = 85 := Wn_198
def Wc_200 : z_W := z_nw Wc_199 (2, 1200)
theorem Wn_200 : Wc_200.2.2.2 = 86 := congrArg (· + 1) Wn_199
def Wc_201 : z_W := z_wr Wc_200 78 9 (z_r 85)
theorem Wn_201 : Wc_201.2.2.2 = 86 := Wn_200
def Wc_202 : z_W := z_nw Wc_201 (1, 13)
theorem Wn_202 : Wc_202.2.2.2 = 87 := congrArg (· + 1) Wn_201
def Wc_203 : z_W := z_nw Wc_202 (2, 30)
theorem Wn_203 : Wc_203.2.2.2 = 88 := congrArg (· + 1) Wn_202
def Wc_204 : z_W := z_wr Wc_203 86 1 (z_r 87)
theorem Wn_204 : Wc_204.2.2.2 = 88 := Wn_203
def Wc_205 : z_W := z_nw Wc_204 (2, 30)
theorem Wn_205 : Wc_205.2.2.2 = 89 := congrArg (· + 1) Wn_204
def Wc_206 : z_W := z_wr Wc_205 86 2 (z_r 88)
theorem Wn_206 : Wc_206.2.2.2 = 89 := Wn_205
def Wc_207 : z_W := z_nw Wc_206 (2, 30)
theorem Wn_207 : Wc_207.2.2.2 = 90 := congrArg (· + 1) Wn_206
def Wc_208 : z_W := z_wr Wc_207 86 3 (z_r 89)
theorem Wn_208 : Wc_208.2.2.2 = 90 := Wn_207
def Wc_209 : z_W := z_nw Wc_208 (2, 90)
theorem Wn_209 : Wc_209.2.2.2 = 91 := congrArg (· + 1) Wn_208
def Wc_210 : z_W := z_wr Wc_209 86 4 (z_r 90)
theorem Wn_210 : Wc_210.2.2.2 = 91 := Wn_209
def Wc_211 : z_W := z_nw Wc_210 (2, 30)
theorem Wn_211 : Wc_211.2.2.2 = 92 := congrArg (· + 1) Wn_210
def Wc_212 : z_W := z_wr Wc_211 86 5 (z_r 91)
theorem Wn_212 : Wc_212.2.2.2 = 92 := Wn_211
def Wc_213 : z_W := z_nw Wc_212 (2, 30)
theorem Wn_213 : Wc_213.2.2.2 = 93 := congrArg (· + 1) Wn_212
def Wc_214 : z_W := z_wr Wc_213 86 6 (z_r 92)
theorem Wn_214 : Wc_214.2.2.2 = 93 := Wn_213
def Wc_215 : z_W := z_nw Wc_214 (2, 30)
theorem Wn_215 : Wc_215.2.2.2 = 94 := congrArg (· + 1) Wn_214
def Wc_216 : z_W := z_wr Wc_215 86 7 (z_r 93)
theorem Wn_216 : Wc_216.2.2.2 = 94 := Wn_215
def Wc_217 : z_W := z_nw Wc_216 (2, 30)
theorem Wn_217 : Wc_217.2.2.2 = 95 := congrArg (· + 1) Wn_216
def Wc_218 : z_W := z_wr Wc_217 86 8 (z_r 94)
theorem Wn_218 : Wc_218.2.2.2 = 95 := Wn_217
def Wc_219 : z_W := z_nw Wc_218 (3, 30)
theorem Wn_219 : Wc_219.2.2.2 = 96 := congrArg (· + 1) Wn_218
def Wc_220 : z_W := z_wr Wc_219 86 9 (z_r 95)
theorem Wn_220 : Wc_220.2.2.2 = 96 := Wn_219
def Wc_221 : z_W := z_nw Wc_220 (3, 2700)
theorem Wn_221 : Wc_221.2.2.2 = 97 := congrArg (· + 1) Wn_220
def Wc_222 : z_W := z_wr Wc_221 86 10 (z_r 96)
theorem Wn_222 : Wc_222.2.2.2 = 97 := Wn_221
def Wc_223 : z_W := z_nw Wc_222 (2, 24)
theorem Wn_223 : Wc_223.2.2.2 = 98 := congrArg (· + 1) Wn_222
def Wc_224 : z_W := z_wr Wc_223 86 11 (z_r 97)
theorem Wn_224 : Wc_224.2.2.2 = 98 := Wn_223
theorem ci_202_MW_init : z_Run (zg 1 11 3054) zm_MW_init [z_r 86] Wc_202 (zq none Wc_224) := by
  refine z_body (by decide) zf_MW_ok (Nat.le_of_ble_eq_true rfl) (fun X M => ?_)
  show z_G X zm_MW_init (0, [(0, z_r 86)], [], Wc_202, 0, 0)
  refine z_go2 M.1 0 [(.aload_n 0, 1)] (1, [(0, z_r 86)], [z_r 86], Wc_202, 0, 0) (by decide +kernel) rfl ⟨trivial, trivial⟩ ?_
  refine z_objInit (idx := 3) M.1 (by decide +kernel) M.2.1 (z_wi 1521 (by decide +kernel) rfl) (z_wi 184 (by decide +kernel) rfl) (z_wi 185 (by decide +kernel) rfl) rfl (by decide) (by decide) (Nat.le_of_ble_eq_true rfl) ?_
  refine z_go2 M.1 4 [(.aload_n 0, 1), (.bipush 30, 2)] (7, [(0, z_r 86)], [.inl 30, z_r 86], Wc_202, 0, 0) (by decide +kernel) rfl ⟨trivial, trivial, trivial⟩ ?_
  refine z_newaC (n := 87) (aty := .int) (N := 30) (w' := Wc_203) Wn_202 rfl M.1 (by decide +kernel) M.2.1 (z_wi 235 (by decide +kernel) rfl) (by decide) (by decide) (by decide) (by decide) (by decide) ?_
  refine z_putFC (idx := 9) (ci := 13) (j := 1) (kd := 1) (w' := Wc_204) rfl M.1 (by decide +kernel) (by decide) rfl (fun r h => by injection h with h; subst h; rfl) (by decide +kernel) trivial ?_
  refine z_go2 M.1 12 [(.aload_n 0, 1), (.bipush 30, 2)] (15, [(0, z_r 86)], [.inl 30, z_r 86], Wc_204, 1, 30) (by decide +kernel) rfl ⟨trivial, trivial, trivial⟩ ?_
  refine z_newaC (n := 88) (aty := .int) (N := 30) (w' := Wc_205) Wn_204 rfl M.1 (by decide +kernel) M.2.1 (z_wi 235 (by decide +kernel) rfl) (by decide) (by decide) (by decide) (by decide) (by decide) ?_
  refine z_putFC (idx := 15) (ci := 13) (j := 2) (kd := 1) (w' := Wc_206) rfl M.1 (by decide +kernel) (by decide) rfl (fun r h => by injection h with h; subst h; rfl) (by decide +kernel) trivial ?_
  refine z_go2 M.1 20 [(.aload_n 0, 1), (.bipush 30, 2)] (23, [(0, z_r 86)], [.inl 30, z_r 86], Wc_206, 2, 60) (by decide +kernel) rfl ⟨trivial, trivial, trivial⟩ ?_
  refine z_newaC (n := 89) (aty := .int) (N := 30) (w' := Wc_207) Wn_206 rfl M.1 (by decide +kernel) M.2.1 (z_wi 235 (by decide +kernel) rfl) (by decide) (by decide) (by decide) (by decide) (by decide) ?_
  refine z_putFC (idx := 18) (ci := 13) (j := 3) (kd := 1) (w' := Wc_208) rfl M.1 (by decide +kernel) (by decide) rfl (fun r h => by injection h with h; subst h; rfl) (by decide +kernel) trivial ?_
  refine z_go2 M.1 28 [(.aload_n 0, 1), (.bipush 90, 2)] (31, [(0, z_r 86)], [.inl 90, z_r 86], Wc_208, 3, 90) (by decide +kernel) rfl ⟨trivial, trivial, trivial⟩ ?_
  refine z_newaC (n := 90) (aty := .int) (N := 90) (w' := Wc_209) Wn_208 rfl M.1 (by decide +kernel) M.2.1 (z_wi 235 (by decide +kernel) rfl) (by decide) (by decide) (by decide) (by decide) (by decide) ?_
  refine z_putFC (idx := 21) (ci := 13) (j := 4) (kd := 1) (w' := Wc_210) rfl M.1 (by decide +kernel) (by decide) rfl (fun r h => by injection h with h; subst h; rfl) (by decide +kernel) trivial ?_
  refine z_go2 M.1 36 [(.aload_n 0, 1), (.bipush 30, 2)] (39, [(0, z_r 86)], [.inl 30, z_r 86], Wc_210, 4, 180) (by decide +kernel) rfl ⟨trivial, trivial, trivial⟩ ?_
  refine z_newaC (n := 91) (aty := .int) (N := 30) (w' := Wc_211) Wn_210 rfl M.1 (by decide +kernel) M.2.1 (z_wi 235 (by decide +kernel) rfl) (by decide) (by decide) (by decide) (by decide) (by decide) ?_
  refine z_putFC (idx := 24) (ci := 13) (j := 5) (kd := 1) (w' := Wc_212) rfl M.1 (by decide +kernel) (by decide) rfl (fun r h => by injection h with h; subst h; rfl) (by decide +kernel) trivial ?_
  refine z_go2 M.1 44 [(.aload_n 0, 1), (.bipush 30, 2)] (47, [(0, z_r 86)], [.inl 30, z_r 86], Wc_212, 5, 210) (by decide +kernel) rfl ⟨trivial, trivial, trivial⟩ ?_
  refine z_newaC (n := 92) (aty := .int) (N := 30) (w' := Wc_213) Wn_212 rfl M.1 (by decide +kernel) M.2.1 (z_wi 235 (by decide +kernel) rfl) (by decide) (by decide) (by decide) (by decide) (by decide) ?_
  refine z_putFC (idx := 27) (ci := 13) (j := 6) (kd := 1) (w' := Wc_214) rfl M.1 (by decide +kernel) (by decide) rfl (fun r h => by injection h with h; subst h; rfl) (by decide +kernel) trivial ?_
  refine z_go2 M.1 52 [(.aload_n 0, 1), (.bipush 30, 2)] (55, [(0, z_r 86)], [.inl 30, z_r 86], Wc_214, 6, 240) (by decide +kernel) rfl ⟨trivial, trivial, trivial⟩ ?_
  refine z_newaC (n := 93) (aty := .int) (N := 30) (w' := Wc_215) Wn_214 rfl M.1 (by decide +kernel) M.2.1 (z_wi 235 (by decide +kernel) rfl) (by decide) (by decide) (by decide) (by decide) (by decide) ?_
  refine z_putFC (idx := 30) (ci := 13) (j := 7) (kd := 1) (w' := Wc_216) rfl M.1 (by decide +kernel) (by decide) rfl (fun r h => by injection h with h; subst h; rfl) (by decide +kernel) trivial ?_
  refine z_go2 M.1 60 [(.aload_n 0, 1), (.bipush 30, 2)] (63, [(0, z_r 86)], [.inl 30, z_r 86], Wc_216, 7, 270) (by decide +kernel) rfl ⟨trivial, trivial, trivial⟩ ?_
  refine z_newaC (n := 94) (aty := .int) (N := 30) (w' := Wc_217) Wn_216 rfl M.1 (by decide +kernel) M.2.1 (z_wi 235 (by decide +kernel) rfl) (by decide) (by decide) (by decide) (by decide) (by decide) ?_
  refine z_putFC (idx := 33) (ci := 13) (j := 8) (kd := 1) (w' := Wc_218) rfl M.1 (by decide +kernel) (by decide) rfl (fun r h => by injection h with h; subst h; rfl) (by decide +kernel) trivial ?_
  refine z_go2 M.1 68 [(.aload_n 0, 1), (.bipush 30, 2)] (71, [(0, z_r 86)], [.inl 30, z_r 86], Wc_218, 8, 300) (by decide +kernel) rfl ⟨trivial, trivial, trivial⟩ ?_
  refine z_newaC (n := 95) (aty := .boolean) (N := 30) (w' := Wc_219) Wn_218 rfl M.1 (by decide +kernel) M.2.1 (z_wi 1570 (by decide +kernel) rfl) (by decide) (by decide) (by decide) (by decide) (by decide) ?_
  refine z_putFC (idx := 36) (ci := 13) (j := 9) (kd := 1) (w' := Wc_220) rfl M.1 (by decide +kernel) (by decide) rfl (fun r h => by injection h with h; subst h; rfl) (by decide +kernel) trivial ?_
  refine z_go2 M.1 76 [(.aload_n 0, 1), (.sipush 2700, 3)] (80, [(0, z_r 86)], [.inl 2700, z_r 86], Wc_220, 9, 330) (by decide +kernel) rfl ⟨trivial, trivial, trivial⟩ ?_
  refine z_newaC (n := 96) (aty := .boolean) (N := 2700) (w' := Wc_221) Wn_220 rfl M.1 (by decide +kernel) M.2.1 (z_wi 1570 (by decide +kernel) rfl) (by decide) (by decide) (by decide) (by decide) (by decide) ?_
  refine z_putFC (idx := 40) (ci := 13) (j := 10) (kd := 1) (w' := Wc_222) rfl M.1 (by decide +kernel) (by decide) rfl (fun r h => by injection h with h; subst h; rfl) (by decide +kernel) trivial ?_
  refine z_go2 M.1 85 [(.aload_n 0, 1), (.bipush 24, 2)] (88, [(0, z_r 86)], [.inl 24, z_r 86], Wc_222, 10, 3030) (by decide +kernel) rfl ⟨trivial, trivial, trivial⟩ ?_
  refine z_newaC (n := 97) (aty := .int) (N := 24) (w' := Wc_223) Wn_222 rfl M.1 (by decide +kernel) M.2.1 (z_wi 235 (by decide +kernel) rfl) (by decide) (by decide) (by decide) (by decide) (by decide) ?_
  refine z_putFC (idx := 43) (ci := 13) (j := 11) (kd := 1) (w' := Wc_224) rfl M.1 (by decide +kernel) (by decide) rfl (fun r h => by injection h with h; subst h; rfl) (by decide +kernel) trivial ?_
  exact z_vret M (by decide +kernel) rfl (by decide) (by decide) ⟨rfl, rfl⟩
def Wc_225 : z_W := z_wr Wc_224 78 10 (z_r 86)
theorem Wn_225 : Wc_225.2.2.2 = 98 := Wn_224
def Wc_226 : z_W := z_nw Wc_225 (1, 13)
theorem Wn_226 : Wc_226.2.2.2 = 99 := congrArg (· + 1) Wn_225
def Wc_227 : z_W := z_nw Wc_226 (2, 30)
theorem Wn_227 : Wc_227.2.2.2 = 100 := congrArg (· + 1) Wn_226
def Wc_228 : z_W := z_wr Wc_227 98 1 (z_r 99)
theorem Wn_228 : Wc_228.2.2.2 = 100 := Wn_227
def Wc_229 : z_W := z_nw Wc_228 (2, 30)
theorem Wn_229 : Wc_229.2.2.2 = 101 := congrArg (· + 1) Wn_228
def Wc_230 : z_W := z_wr Wc_229 98 2 (z_r 100)
theorem Wn_230 : Wc_230.2.2.2 = 101 := Wn_229
def Wc_231 : z_W := z_nw Wc_230 (2, 30)
theorem Wn_231 : Wc_231.2.2.2 = 102 := congrArg (· + 1) Wn_230
def Wc_232 : z_W := z_wr Wc_231 98 3 (z_r 101)
theorem Wn_232 : Wc_232.2.2.2 = 102 := Wn_231
def Wc_233 : z_W := z_nw Wc_232 (2, 90)
theorem Wn_233 : Wc_233.2.2.2 = 103 := congrArg (· + 1) Wn_232
def Wc_234 : z_W := z_wr Wc_233 98 4 (z_r 102)
theorem Wn_234 : Wc_234.2.2.2 = 103 := Wn_233
def Wc_235 : z_W := z_nw Wc_234 (2, 30)
theorem Wn_235 : Wc_235.2.2.2 = 104 := congrArg (· + 1) Wn_234
def Wc_236 : z_W := z_wr Wc_235 98 5 (z_r 103)
theorem Wn_236 : Wc_236.2.2.2 = 104 := Wn_235
def Wc_237 : z_W := z_nw Wc_236 (2, 30)
theorem Wn_237 : Wc_237.2.2.2 = 105 := congrArg (· + 1) Wn_236
def Wc_238 : z_W := z_wr Wc_237 98 6 (z_r 104)
theorem Wn_238 : Wc_238.2.2.2 = 105 := Wn_237
def Wc_239 : z_W := z_nw Wc_238 (2, 30)
theorem Wn_239 : Wc_239.2.2.2 = 106 := congrArg (· + 1) Wn_238
def Wc_240 : z_W := z_wr Wc_239 98 7 (z_r 105)
theorem Wn_240 : Wc_240.2.2.2 = 106 := Wn_239
def Wc_241 : z_W := z_nw Wc_240 (2, 30)
theorem Wn_241 : Wc_241.2.2.2 = 107 := congrArg (· + 1) Wn_240
def Wc_242 : z_W := z_wr Wc_241 98 8 (z_r 106)
theorem Wn_242 : Wc_242.2.2.2 = 107 := Wn_241
def Wc_243 : z_W := z_nw Wc_242 (3, 30)
theorem Wn_243 : Wc_243.2.2.2 = 108 := congrArg (· + 1) Wn_242
def Wc_244 : z_W := z_wr Wc_243 98 9 (z_r 107)
theorem Wn_244 : Wc_244.2.2.2 = 108 := Wn_243
def Wc_245 : z_W := z_nw Wc_244 (3, 2700)
theorem Wn_245 : Wc_245.2.2.2 = 109 := congrArg (· + 1) Wn_244
def Wc_246 : z_W := z_wr Wc_245 98 10 (z_r 108)
theorem Wn_246 : Wc_246.2.2.2 = 109 := Wn_245
def Wc_247 : z_W := z_nw Wc_246 (2, 24)
theorem Wn_247 : Wc_247.2.2.2 = 110 := congrArg (· + 1) Wn_246
def Wc_248 : z_W := z_wr Wc_247 98 11 (z_r 109)
theorem Wn_248 : Wc_248.2.2.2 = 110 := Wn_247
theorem ci_226_MW_init : z_Run (zg 1 11 3054) zm_MW_init [z_r 98] Wc_226 (zq none Wc_248) := by
  refine z_body (by decide) zf_MW_ok (Nat.le_of_ble_eq_true rfl) (fun X M => ?_)
  show z_G X zm_MW_init (0, [(0, z_r 98)], [], Wc_226, 0, 0)
  refine z_go2 M.1 0 [(.aload_n 0, 1)] (1, [(0, z_r 98)], [z_r 98], Wc_226, 0, 0) (by decide +kernel) rfl ⟨trivial, trivial⟩ ?_
  refine z_objInit (idx := 3) M.1 (by decide +kernel) M.2.1 (z_wi 1521 (by decide +kernel) rfl) (z_wi 184 (by decide +kernel) rfl) (z_wi 185 (by decide +kernel) rfl) rfl (by decide) (by decide) (Nat.le_of_ble_eq_true rfl) ?_
  refine z_go2 M.1 4 [(.aload_n 0, 1), (.bipush 30, 2)] (7, [(0, z_r 98)], [.inl 30, z_r 98], Wc_226, 0, 0) (by decide +kernel) rfl ⟨trivial, trivial, trivial⟩ ?_
  refine z_newaC (n := 99) (aty := .int) (N := 30) (w' := Wc_227) Wn_226 rfl M.1 (by decide +kernel) M.2.1 (z_wi 235 (by decide +kernel) rfl) (by decide) (by decide) (by decide) (by decide) (by decide) ?_
  refine z_putFC (idx := 9) (ci := 13) (j := 1) (kd := 1) (w' := Wc_228) rfl M.1 (by decide +kernel) (by decide) rfl (fun r h => by injection h with h; subst h; rfl) (by decide +kernel) trivial ?_
  refine z_go2 M.1 12 [(.aload_n 0, 1), (.bipush 30, 2)] (15, [(0, z_r 98)], [.inl 30, z_r 98], Wc_228, 1, 30) (by decide +kernel) rfl ⟨trivial, trivial, trivial⟩ ?_
  refine z_newaC (n := 100) (aty := .int) (N := 30) (w' := Wc_229) Wn_228 rfl M.1 (by decide +kernel) M.2.1 (z_wi 235 (by decide +kernel) rfl) (by decide) (by decide) (by decide) (by decide) (by decide) ?_
  refine z_putFC (idx := 15) (ci := 13) (j := 2) (kd := 1) (w' := Wc_230) rfl M.1 (by decide +kernel) (by decide) rfl (fun r h => by injection h with h; subst h; rfl) (by decide +kernel) trivial ?_
  refine z_go2 M.1 20 [(.aload_n 0, 1), (.bipush 30, 2)] (23, [(0, z_r 98)], [.inl 30, z_r 98], Wc_230, 2, 60) (by decide +kernel) rfl ⟨trivial, trivial, trivial⟩ ?_
  refine z_newaC (n := 101) (aty := .int) (N := 30) (w' := Wc_231) Wn_230 rfl M.1 (by decide +kernel) M.2.1 (z_wi 235 (by decide +kernel) rfl) (by decide) (by decide) (by decide) (by decide) (by decide) ?_
  refine z_putFC (idx := 18) (ci := 13) (j := 3) (kd := 1) (w' := Wc_232) rfl M.1 (by decide +kernel) (by decide) rfl (fun r h => by injection h with h; subst h; rfl) (by decide +kernel) trivial ?_
  refine z_go2 M.1 28 [(.aload_n 0, 1), (.bipush 90, 2)] (31, [(0, z_r 98)], [.inl 90, z_r 98], Wc_232, 3, 90) (by decide +kernel) rfl ⟨trivial, trivial, trivial⟩ ?_
  refine z_newaC (n := 102) (aty := .int) (N := 90) (w' := Wc_233) Wn_232 rfl M.1 (by decide +kernel) M.2.1 (z_wi 235 (by decide +kernel) rfl) (by decide) (by decide) (by decide) (by decide) (by decide) ?_
  refine z_putFC (idx := 21) (ci := 13) (j := 4) (kd := 1) (w' := Wc_234) rfl M.1 (by decide +kernel) (by decide) rfl (fun r h => by injection h with h; subst h; rfl) (by decide +kernel) trivial ?_
  refine z_go2 M.1 36 [(.aload_n 0, 1), (.bipush 30, 2)] (39, [(0, z_r 98)], [.inl 30, z_r 98], Wc_234, 4, 180) (by decide +kernel) rfl ⟨trivial, trivial, trivial⟩ ?_
  refine z_newaC (n := 103) (aty := .int) (N := 30) (w' := Wc_235) Wn_234 rfl M.1 (by decide +kernel) M.2.1 (z_wi 235 (by decide +kernel) rfl) (by decide) (by decide) (by decide) (by decide) (by decide) ?_
  refine z_putFC (idx := 24) (ci := 13) (j := 5) (kd := 1) (w' := Wc_236) rfl M.1 (by decide +kernel) (by decide) rfl (fun r h => by injection h with h; subst h; rfl) (by decide +kernel) trivial ?_
  refine z_go2 M.1 44 [(.aload_n 0, 1), (.bipush 30, 2)] (47, [(0, z_r 98)], [.inl 30, z_r 98], Wc_236, 5, 210) (by decide +kernel) rfl ⟨trivial, trivial, trivial⟩ ?_
  refine z_newaC (n := 104) (aty := .int) (N := 30) (w' := Wc_237) Wn_236 rfl M.1 (by decide +kernel) M.2.1 (z_wi 235 (by decide +kernel) rfl) (by decide) (by decide) (by decide) (by decide) (by decide) ?_
  refine z_putFC (idx := 27) (ci := 13) (j := 6) (kd := 1) (w' := Wc_238) rfl M.1 (by decide +kernel) (by decide) rfl (fun r h => by injection h with h; subst h; rfl) (by decide +kernel) trivial ?_
  refine z_go2 M.1 52 [(.aload_n 0, 1), (.bipush 30, 2)] (55, [(0, z_r 98)], [.inl 30, z_r 98], Wc_238, 6, 240) (by decide +kernel) rfl ⟨trivial, trivial, trivial⟩ ?_
  refine z_newaC (n := 105) (aty := .int) (N := 30) (w' := Wc_239) Wn_238 rfl M.1 (by decide +kernel) M.2.1 (z_wi 235 (by decide +kernel) rfl) (by decide) (by decide) (by decide) (by decide) (by decide) ?_
  refine z_putFC (idx := 30) (ci := 13) (j := 7) (kd := 1) (w' := Wc_240) rfl M.1 (by decide +kernel) (by decide) rfl (fun r h => by injection h with h; subst h; rfl) (by decide +kernel) trivial ?_
  refine z_go2 M.1 60 [(.aload_n 0, 1), (.bipush 30, 2)] (63, [(0, z_r 98)], [.inl 30, z_r 98], Wc_240, 7, 270) (by decide +kernel) rfl ⟨trivial, trivial, trivial⟩ ?_
  refine z_newaC (n := 106) (aty := .int) (N := 30) (w' := Wc_241) Wn_240 rfl M.1 (by decide +kernel) M.2.1 (z_wi 235 (by decide +kernel) rfl) (by decide) (by decide) (by decide) (by decide) (by decide) ?_
  refine z_putFC (idx := 33) (ci := 13) (j := 8) (kd := 1) (w' := Wc_242) rfl M.1 (by decide +kernel) (by decide) rfl (fun r h => by injection h with h; subst h; rfl) (by decide +kernel) trivial ?_
  refine z_go2 M.1 68 [(.aload_n 0, 1), (.bipush 30, 2)] (71, [(0, z_r 98)], [.inl 30, z_r 98], Wc_242, 8, 300) (by decide +kernel) rfl ⟨trivial, trivial, trivial⟩ ?_
  refine z_newaC (n := 107) (aty := .boolean) (N := 30) (w' := Wc_243) Wn_242 rfl M.1 (by decide +kernel) M.2.1 (z_wi 1570 (by decide +kernel) rfl) (by decide) (by decide) (by decide) (by decide) (by decide) ?_
  refine z_putFC (idx := 36) (ci := 13) (j := 9) (kd := 1) (w' := Wc_244) rfl M.1 (by decide +kernel) (by decide) rfl (fun r h => by injection h with h; subst h; rfl) (by decide +kernel) trivial ?_
  refine z_go2 M.1 76 [(.aload_n 0, 1), (.sipush 2700, 3)] (80, [(0, z_r 98)], [.inl 2700, z_r 98], Wc_244, 9, 330) (by decide +kernel) rfl ⟨trivial, trivial, trivial⟩ ?_
  refine z_newaC (n := 108) (aty := .boolean) (N := 2700) (w' := Wc_245) Wn_244 rfl M.1 (by decide +kernel) M.2.1 (z_wi 1570 (by decide +kernel) rfl) (by decide) (by decide) (by decide) (by decide) (by decide) ?_
  refine z_putFC (idx := 40) (ci := 13) (j := 10) (kd := 1) (w' := Wc_246) rfl M.1 (by decide +kernel) (by decide) rfl (fun r h => by injection h with h; subst h; rfl) (by decide +kernel) trivial ?_
  refine z_go2 M.1 85 [(.aload_n 0, 1), (.bipush 24, 2)] (88, [(0, z_r 98)], [.inl 24, z_r 98], Wc_246, 10, 3030) (by decide +kernel) rfl ⟨trivial, trivial, trivial⟩ ?_
  refine z_newaC (n := 109) (aty := .int) (N := 24) (w' := Wc_247) Wn_246 rfl M.1 (by decide +kernel) M.2.1 (z_wi 235 (by decide +kernel) rfl) (by decide) (by decide) (by decide) (by decide) (by decide) ?_
  refine z_putFC (idx := 43) (ci := 13) (j := 11) (kd := 1) (w' := Wc_248) rfl M.1 (by decide +kernel) (by decide) rfl (fun r h => by injection h with h; subst h; rfl) (by decide +kernel) trivial ?_
  exact z_vret M (by decide +kernel) rfl (by decide) (by decide) ⟨rfl, rfl⟩
def Wc_249 : z_W := z_wr Wc_248 78 11 (z_r 98)
theorem Wn_249 : Wc_249.2.2.2 = 110 := Wn_248
def Wc_250 : z_W := z_nw Wc_249 (1, 13)
theorem Wn_250 : Wc_250.2.2.2 = 111 := congrArg (· + 1) Wn_249
def Wc_251 : z_W := z_nw Wc_250 (2, 30)
theorem Wn_251 : Wc_251.2.2.2 = 112 := congrArg (· + 1) Wn_250
def Wc_252 : z_W := z_wr Wc_251 110 1 (z_r 111)
theorem Wn_252 : Wc_252.2.2.2 = 112 := Wn_251
def Wc_253 : z_W := z_nw Wc_252 (2, 30)
theorem Wn_253 : Wc_253.2.2.2 = 113 := congrArg (· + 1) Wn_252
def Wc_254 : z_W := z_wr Wc_253 110 2 (z_r 112)
theorem Wn_254 : Wc_254.2.2.2 = 113 := Wn_253
def Wc_255 : z_W := z_nw Wc_254 (2, 30)
theorem Wn_255 : Wc_255.2.2.2 = 114 := congrArg (· + 1) Wn_254
def Wc_256 : z_W := z_wr Wc_255 110 3 (z_r 113)
theorem Wn_256 : Wc_256.2.2.2 = 114 := Wn_255
def Wc_257 : z_W := z_nw Wc_256 (2, 90)
theorem Wn_257 : Wc_257.2.2.2 = 115 := congrArg (· + 1) Wn_256
def Wc_258 : z_W := z_wr Wc_257 110 4 (z_r 114)
theorem Wn_258 : Wc_258.2.2.2 = 115 := Wn_257
def Wc_259 : z_W := z_nw Wc_258 (2, 30)
theorem Wn_259 : Wc_259.2.2.2 = 116 := congrArg (· + 1) Wn_258
def Wc_260 : z_W := z_wr Wc_259 110 5 (z_r 115)
theorem Wn_260 : Wc_260.2.2.2 = 116 := Wn_259
def Wc_261 : z_W := z_nw Wc_260 (2, 30)
theorem Wn_261 : Wc_261.2.2.2 = 117 := congrArg (· + 1) Wn_260
def Wc_262 : z_W := z_wr Wc_261 110 6 (z_r 116)
theorem Wn_262 : Wc_262.2.2.2 = 117 := Wn_261
def Wc_263 : z_W := z_nw Wc_262 (2, 30)
theorem Wn_263 : Wc_263.2.2.2 = 118 := congrArg (· + 1) Wn_262
def Wc_264 : z_W := z_wr Wc_263 110 7 (z_r 117)
theorem Wn_264 : Wc_264.2.2.2 = 118 := Wn_263
def Wc_265 : z_W := z_nw Wc_264 (2, 30)
theorem Wn_265 : Wc_265.2.2.2 = 119 := congrArg (· + 1) Wn_264
def Wc_266 : z_W := z_wr Wc_265 110 8 (z_r 118)
theorem Wn_266 : Wc_266.2.2.2 = 119 := Wn_265
def Wc_267 : z_W := z_nw Wc_266 (3, 30)
theorem Wn_267 : Wc_267.2.2.2 = 120 := congrArg (· + 1) Wn_266
def Wc_268 : z_W := z_wr Wc_267 110 9 (z_r 119)
theorem Wn_268 : Wc_268.2.2.2 = 120 := Wn_267
def Wc_269 : z_W := z_nw Wc_268 (3, 2700)
theorem Wn_269 : Wc_269.2.2.2 = 121 := congrArg (· + 1) Wn_268
def Wc_270 : z_W := z_wr Wc_269 110 10 (z_r 120)
theorem Wn_270 : Wc_270.2.2.2 = 121 := Wn_269
def Wc_271 : z_W := z_nw Wc_270 (2, 24)
theorem Wn_271 : Wc_271.2.2.2 = 122 := congrArg (· + 1) Wn_270
def Wc_272 : z_W := z_wr Wc_271 110 11 (z_r 121)
theorem Wn_272 : Wc_272.2.2.2 = 122 := Wn_271
theorem ci_250_MW_init : z_Run (zg 1 11 3054) zm_MW_init [z_r 110] Wc_250 (zq none Wc_272) := by
  refine z_body (by decide) zf_MW_ok (Nat.le_of_ble_eq_true rfl) (fun X M => ?_)
  show z_G X zm_MW_init (0, [(0, z_r 110)], [], Wc_250, 0, 0)
  refine z_go2 M.1 0 [(.aload_n 0, 1)] (1, [(0, z_r 110)], [z_r 110], Wc_250, 0, 0) (by decide +kernel) rfl ⟨trivial, trivial⟩ ?_
  refine z_objInit (idx := 3) M.1 (by decide +kernel) M.2.1 (z_wi 1521 (by decide +kernel) rfl) (z_wi 184 (by decide +kernel) rfl) (z_wi 185 (by decide +kernel) rfl) rfl (by decide) (by decide) (Nat.le_of_ble_eq_true rfl) ?_
  refine z_go2 M.1 4 [(.aload_n 0, 1), (.bipush 30, 2)] (7, [(0, z_r 110)], [.inl 30, z_r 110], Wc_250, 0, 0) (by decide +kernel) rfl ⟨trivial, trivial, trivial⟩ ?_
  refine z_newaC (n := 111) (aty := .int) (N := 30) (w' := Wc_251) Wn_250 rfl M.1 (by decide +kernel) M.2.1 (z_wi 235 (by decide +kernel) rfl) (by decide) (by decide) (by decide) (by decide) (by decide) ?_
  refine z_putFC (idx := 9) (ci := 13) (j := 1) (kd := 1) (w' := Wc_252) rfl M.1 (by decide +kernel) (by decide) rfl (fun r h => by injection h with h; subst h; rfl) (by decide +kernel) trivial ?_
  refine z_go2 M.1 12 [(.aload_n 0, 1), (.bipush 30, 2)] (15, [(0, z_r 110)], [.inl 30, z_r 110], Wc_252, 1, 30) (by decide +kernel) rfl ⟨trivial, trivial, trivial⟩ ?_
  refine z_newaC (n := 112) (aty := .int) (N := 30) (w' := Wc_253) Wn_252 rfl M.1 (by decide +kernel) M.2.1 (z_wi 235 (by decide +kernel) rfl) (by decide) (by decide) (by decide) (by decide) (by decide) ?_
  refine z_putFC (idx := 15) (ci := 13) (j := 2) (kd := 1) (w' := Wc_254) rfl M.1 (by decide +kernel) (by decide) rfl (fun r h => by injection h with h; subst h; rfl) (by decide +kernel) trivial ?_
  refine z_go2 M.1 20 [(.aload_n 0, 1), (.bipush 30, 2)] (23, [(0, z_r 110)], [.inl 30, z_r 110], Wc_254, 2, 60) (by decide +kernel) rfl ⟨trivial, trivial, trivial⟩ ?_
  refine z_newaC (n := 113) (aty := .int) (N := 30) (w' := Wc_255) Wn_254 rfl M.1 (by decide +kernel) M.2.1 (z_wi 235 (by decide +kernel) rfl) (by decide) (by decide) (by decide) (by decide) (by decide) ?_
  refine z_putFC (idx := 18) (ci := 13) (j := 3) (kd := 1) (w' := Wc_256) rfl M.1 (by decide +kernel) (by decide) rfl (fun r h => by injection h with h; subst h; rfl) (by decide +kernel) trivial ?_
  refine z_go2 M.1 28 [(.aload_n 0, 1), (.bipush 90, 2)] (31, [(0, z_r 110)], [.inl 90, z_r 110], Wc_256, 3, 90) (by decide +kernel) rfl ⟨trivial, trivial, trivial⟩ ?_
  refine z_newaC (n := 114) (aty := .int) (N := 90) (w' := Wc_257) Wn_256 rfl M.1 (by decide +kernel) M.2.1 (z_wi 235 (by decide +kernel) rfl) (by decide) (by decide) (by decide) (by decide) (by decide) ?_
  refine z_putFC (idx := 21) (ci := 13) (j := 4) (kd := 1) (w' := Wc_258) rfl M.1 (by decide +kernel) (by decide) rfl (fun r h => by injection h with h; subst h; rfl) (by decide +kernel) trivial ?_
  refine z_go2 M.1 36 [(.aload_n 0, 1), (.bipush 30, 2)] (39, [(0, z_r 110)], [.inl 30, z_r 110], Wc_258, 4, 180) (by decide +kernel) rfl ⟨trivial, trivial, trivial⟩ ?_
  refine z_newaC (n := 115) (aty := .int) (N := 30) (w' := Wc_259) Wn_258 rfl M.1 (by decide +kernel) M.2.1 (z_wi 235 (by decide +kernel) rfl) (by decide) (by decide) (by decide) (by decide) (by decide) ?_
  refine z_putFC (idx := 24) (ci := 13) (j := 5) (kd := 1) (w' := Wc_260) rfl M.1 (by decide +kernel) (by decide) rfl (fun r h => by injection h with h; subst h; rfl) (by decide +kernel) trivial ?_
  refine z_go2 M.1 44 [(.aload_n 0, 1), (.bipush 30, 2)] (47, [(0, z_r 110)], [.inl 30, z_r 110], Wc_260, 5, 210) (by decide +kernel) rfl ⟨trivial, trivial, trivial⟩ ?_
  refine z_newaC (n := 116) (aty := .int) (N := 30) (w' := Wc_261) Wn_260 rfl M.1 (by decide +kernel) M.2.1 (z_wi 235 (by decide +kernel) rfl) (by decide) (by decide) (by decide) (by decide) (by decide) ?_
  refine z_putFC (idx := 27) (ci := 13) (j := 6) (kd := 1) (w' := Wc_262) rfl M.1 (by decide +kernel) (by decide) rfl (fun r h => by injection h with h; subst h; rfl) (by decide +kernel) trivial ?_
  refine z_go2 M.1 52 [(.aload_n 0, 1), (.bipush 30, 2)] (55, [(0, z_r 110)], [.inl 30, z_r 110], Wc_262, 6, 240) (by decide +kernel) rfl ⟨trivial, trivial, trivial⟩ ?_
  refine z_newaC (n := 117) (aty := .int) (N := 30) (w' := Wc_263) Wn_262 rfl M.1 (by decide +kernel) M.2.1 (z_wi 235 (by decide +kernel) rfl) (by decide) (by decide) (by decide) (by decide) (by decide) ?_
  refine z_putFC (idx := 30) (ci := 13) (j := 7) (kd := 1) (w' := Wc_264) rfl M.1 (by decide +kernel) (by decide) rfl (fun r h => by injection h with h; subst h; rfl) (by decide +kernel) trivial ?_
  refine z_go2 M.1 60 [(.aload_n 0, 1), (.bipush 30, 2)] (63, [(0, z_r 110)], [.inl 30, z_r 110], Wc_264, 7, 270) (by decide +kernel) rfl ⟨trivial, trivial, trivial⟩ ?_
  refine z_newaC (n := 118) (aty := .int) (N := 30) (w' := Wc_265) Wn_264 rfl M.1 (by decide +kernel) M.2.1 (z_wi 235 (by decide +kernel) rfl) (by decide) (by decide) (by decide) (by decide) (by decide) ?_
  refine z_putFC (idx := 33) (ci := 13) (j := 8) (kd := 1) (w' := Wc_266) rfl M.1 (by decide +kernel) (by decide) rfl (fun r h => by injection h with h; subst h; rfl) (by decide +kernel) trivial ?_
  refine z_go2 M.1 68 [(.aload_n 0, 1), (.bipush 30, 2)] (71, [(0, z_r 110)], [.inl 30, z_r 110], Wc_266, 8, 300) (by decide +kernel) rfl ⟨trivial, trivial, trivial⟩ ?_
  refine z_newaC (n := 119) (aty := .boolean) (N := 30) (w' := Wc_267) Wn_266 rfl M.1 (by decide +kernel) M.2.1 (z_wi 1570 (by decide +kernel) rfl) (by decide) (by decide) (by decide) (by decide) (by decide) ?_
  refine z_putFC (idx := 36) (ci := 13) (j := 9) (kd := 1) (w' := Wc_268) rfl M.1 (by decide +kernel) (by decide) rfl (fun r h => by injection h with h; subst h; rfl) (by decide +kernel) trivial ?_
  refine z_go2 M.1 76 [(.aload_n 0, 1), (.sipush 2700, 3)] (80, [(0, z_r 110)], [.inl 2700, z_r 110], Wc_268, 9, 330) (by decide +kernel) rfl ⟨trivial, trivial, trivial⟩ ?_
  refine z_newaC (n := 120) (aty := .boolean) (N := 2700) (w' := Wc_269) Wn_268 rfl M.1 (by decide +kernel) M.2.1 (z_wi 1570 (by decide +kernel) rfl) (by decide) (by decide) (by decide) (by decide) (by decide) ?_
  refine z_putFC (idx := 40) (ci := 13) (j := 10) (kd := 1) (w' := Wc_270) rfl M.1 (by decide +kernel) (by decide) rfl (fun r h => by injection h with h; subst h; rfl) (by decide +kernel) trivial ?_
  refine z_go2 M.1 85 [(.aload_n 0, 1), (.bipush 24, 2)] (88, [(0, z_r 110)], [.inl 24, z_r 110], Wc_270, 10, 3030) (by decide +kernel) rfl ⟨trivial, trivial, trivial⟩ ?_
  refine z_newaC (n := 121) (aty := .int) (N := 24) (w' := Wc_271) Wn_270 rfl M.1 (by decide +kernel) M.2.1 (z_wi 235 (by decide +kernel) rfl) (by decide) (by decide) (by decide) (by decide) (by decide) ?_
  refine z_putFC (idx := 43) (ci := 13) (j := 11) (kd := 1) (w' := Wc_272) rfl M.1 (by decide +kernel) (by decide) rfl (fun r h => by injection h with h; subst h; rfl) (by decide +kernel) trivial ?_
  exact z_vret M (by decide +kernel) rfl (by decide) (by decide) ⟨rfl, rfl⟩
def Wc_273 : z_W := z_wr Wc_272 78 12 (z_r 110)
theorem Wn_273 : Wc_273.2.2.2 = 122 := Wn_272
def Wc_274 : z_W := z_nw Wc_273 (2, 1200)
theorem Wn_274 : Wc_274.2.2.2 = 123 := congrArg (· + 1) Wn_273
def Wc_275 : z_W := z_wr Wc_274 78 14 (z_r 122)
theorem Wn_275 : Wc_275.2.2.2 = 123 := Wn_274
def Wc_276 : z_W := z_nw Wc_275 (2, 1200)
theorem Wn_276 : Wc_276.2.2.2 = 124 := congrArg (· + 1) Wn_275
def Wc_277 : z_W := z_wr Wc_276 78 15 (z_r 123)
theorem Wn_277 : Wc_277.2.2.2 = 124 := Wn_276
def Wc_278 : z_W := z_nw Wc_277 (2, 3)
theorem Wn_278 : Wc_278.2.2.2 = 125 := congrArg (· + 1) Wn_277
def Wc_279 : z_W := (Wc_278.1, Wc_278.2.1, z_uS Wc_278.2.2.1 124 (Int32.toNatClampNeg 0) 15, Wc_278.2.2.2)
theorem Wn_279 : Wc_279.2.2.2 = 125 := Wn_278
def Wc_280 : z_W := (Wc_279.1, Wc_279.2.1, z_uS Wc_279.2.2.1 124 (Int32.toNatClampNeg 1) 15, Wc_279.2.2.2)
theorem Wn_280 : Wc_280.2.2.2 = 125 := Wn_279
def Wc_281 : z_W := (Wc_280.1, Wc_280.2.1, z_uS Wc_280.2.2.1 124 (Int32.toNatClampNeg 2) 15, Wc_280.2.2.2)
theorem Wn_281 : Wc_281.2.2.2 = 125 := Wn_280
def Wc_282 : z_W := z_wr Wc_281 78 17 (z_r 124)
theorem Wn_282 : Wc_282.2.2.2 = 125 := Wn_281
def Wc_283 : z_W := z_nw Wc_282 (2, 3)
theorem Wn_283 : Wc_283.2.2.2 = 126 := congrArg (· + 1) Wn_282
def Wc_284 : z_W := (Wc_283.1, Wc_283.2.1, z_uS Wc_283.2.2.1 125 (Int32.toNatClampNeg 0) 15, Wc_283.2.2.2)
theorem Wn_284 : Wc_284.2.2.2 = 126 := Wn_283
def Wc_285 : z_W := (Wc_284.1, Wc_284.2.1, z_uS Wc_284.2.2.1 125 (Int32.toNatClampNeg 1) 15, Wc_284.2.2.2)
theorem Wn_285 : Wc_285.2.2.2 = 126 := Wn_284
def Wc_286 : z_W := (Wc_285.1, Wc_285.2.1, z_uS Wc_285.2.2.1 125 (Int32.toNatClampNeg 2) 15, Wc_285.2.2.2)
theorem Wn_286 : Wc_286.2.2.2 = 126 := Wn_285
def Wc_287 : z_W := z_wr Wc_286 78 18 (z_r 125)
theorem Wn_287 : Wc_287.2.2.2 = 126 := Wn_286
def Wc_288 : z_W := z_nw Wc_287 (2, 3)
theorem Wn_288 : Wc_288.2.2.2 = 127 := congrArg (· + 1) Wn_287
def Wc_289 : z_W := (Wc_288.1, Wc_288.2.1, z_uS Wc_288.2.2.1 126 (Int32.toNatClampNeg 0) 15, Wc_288.2.2.2)
theorem Wn_289 : Wc_289.2.2.2 = 127 := Wn_288
def Wc_290 : z_W := (Wc_289.1, Wc_289.2.1, z_uS Wc_289.2.2.1 126 (Int32.toNatClampNeg 1) 15, Wc_289.2.2.2)
theorem Wn_290 : Wc_290.2.2.2 = 127 := Wn_289
def Wc_291 : z_W := (Wc_290.1, Wc_290.2.1, z_uS Wc_290.2.2.1 126 (Int32.toNatClampNeg 2) 15, Wc_290.2.2.2)
theorem Wn_291 : Wc_291.2.2.2 = 127 := Wn_290
def Wc_292 : z_W := z_wr Wc_291 78 19 (z_r 126)
theorem Wn_292 : Wc_292.2.2.2 = 127 := Wn_291
def Wc_293 : z_W := z_nw Wc_292 (2, 4)
theorem Wn_293 : Wc_293.2.2.2 = 128 := congrArg (· + 1) Wn_292
def Wc_294 : z_W := (Wc_293.1, Wc_293.2.1, z_uS Wc_293.2.2.1 127 (Int32.toNatClampNeg 0) 15, Wc_293.2.2.2)
theorem Wn_294 : Wc_294.2.2.2 = 128 := Wn_293
def Wc_295 : z_W := (Wc_294.1, Wc_294.2.1, z_uS Wc_294.2.2.1 127 (Int32.toNatClampNeg 1) 15, Wc_294.2.2.2)
theorem Wn_295 : Wc_295.2.2.2 = 128 := Wn_294
def Wc_296 : z_W := (Wc_295.1, Wc_295.2.1, z_uS Wc_295.2.2.1 127 (Int32.toNatClampNeg 2) 15, Wc_295.2.2.2)
theorem Wn_296 : Wc_296.2.2.2 = 128 := Wn_295
def Wc_297 : z_W := (Wc_296.1, Wc_296.2.1, z_uS Wc_296.2.2.1 127 (Int32.toNatClampNeg 3) 15, Wc_296.2.2.2)
theorem Wn_297 : Wc_297.2.2.2 = 128 := Wn_296
def Wc_298 : z_W := z_wr Wc_297 78 20 (z_r 127)
theorem Wn_298 : Wc_298.2.2.2 = 128 := Wn_297
def Wc_299 : z_W := z_nw Wc_298 (2, 3)
theorem Wn_299 : Wc_299.2.2.2 = 129 := congrArg (· + 1) Wn_298
def Wc_300 : z_W := (Wc_299.1, Wc_299.2.1, z_uS Wc_299.2.2.1 128 (Int32.toNatClampNeg 0) 7, Wc_299.2.2.2)
theorem Wn_300 : Wc_300.2.2.2 = 129 := Wn_299
def Wc_301 : z_W := (Wc_300.1, Wc_300.2.1, z_uS Wc_300.2.2.1 128 (Int32.toNatClampNeg 1) 7, Wc_300.2.2.2)
theorem Wn_301 : Wc_301.2.2.2 = 129 := Wn_300
def Wc_302 : z_W := (Wc_301.1, Wc_301.2.1, z_uS Wc_301.2.2.1 128 (Int32.toNatClampNeg 2) 7, Wc_301.2.2.2)
theorem Wn_302 : Wc_302.2.2.2 = 129 := Wn_301
def Wc_303 : z_W := z_wr Wc_302 78 21 (z_r 128)
theorem Wn_303 : Wc_303.2.2.2 = 129 := Wn_302
def Wc_304 : z_W := z_nw Wc_303 (2, 3)
theorem Wn_304 : Wc_304.2.2.2 = 130 := congrArg (· + 1) Wn_303
def Wc_305 : z_W := (Wc_304.1, Wc_304.2.1, z_uS Wc_304.2.2.1 129 (Int32.toNatClampNeg 0) (-1), Wc_304.2.2.2)
theorem Wn_305 : Wc_305.2.2.2 = 130 := Wn_304
def Wc_306 : z_W := (Wc_305.1, Wc_305.2.1, z_uS Wc_305.2.2.1 129 (Int32.toNatClampNeg 1) (-1), Wc_305.2.2.2)
theorem Wn_306 : Wc_306.2.2.2 = 130 := Wn_305
def Wc_307 : z_W := (Wc_306.1, Wc_306.2.1, z_uS Wc_306.2.2.1 129 (Int32.toNatClampNeg 2) (-1), Wc_306.2.2.2)
theorem Wn_307 : Wc_307.2.2.2 = 130 := Wn_306
def Wc_308 : z_W := z_wr Wc_307 78 22 (z_r 129)
theorem Wn_308 : Wc_308.2.2.2 = 130 := Wn_307
def Wc_309 : z_W := z_nw Wc_308 (2, 3)
theorem Wn_309 : Wc_309.2.2.2 = 131 := congrArg (· + 1) Wn_308
def Wc_310 : z_W := z_wr Wc_309 78 23 (z_r 130)
theorem Wn_310 : Wc_310.2.2.2 = 131 := Wn_309
def Wc_311 : z_W := z_nw Wc_310 (6, 3)
theorem Wn_311 : Wc_311.2.2.2 = 132 := congrArg (· + 1) Wn_310
def Wc_312 : z_W := z_nw Wc_311 (1, 12)
theorem Wn_312 : Wc_312.2.2.2 = 133 := congrArg (· + 1) Wn_311
def Wc_313 : z_W := z_wr Wc_312 132 0 (.inl 1)
theorem Wn_313 : Wc_313.2.2.2 = 133 := Wn_312
def Wc_314 : z_W := z_nw Wc_313 (2, 8)
theorem Wn_314 : Wc_314.2.2.2 = 134 := congrArg (· + 1) Wn_313
def Wc_315 : z_W := z_wr Wc_314 132 2 (z_r 133)
theorem Wn_315 : Wc_315.2.2.2 = 134 := Wn_314
def Wc_316 : z_W := z_nw Wc_315 (2, 8)
theorem Wn_316 : Wc_316.2.2.2 = 135 := congrArg (· + 1) Wn_315
def Wc_317 : z_W := z_wr Wc_316 132 3 (z_r 134)
theorem Wn_317 : Wc_317.2.2.2 = 135 := Wn_316
def Wc_318 : z_W := z_nw Wc_317 (2, 8)
theorem Wn_318 : Wc_318.2.2.2 = 136 := congrArg (· + 1) Wn_317
def Wc_319 : z_W := z_wr Wc_318 132 4 (z_r 135)
theorem Wn_319 : Wc_319.2.2.2 = 136 := Wn_318
def Wc_320 : z_W := z_nw Wc_319 (2, 8)
theorem Wn_320 : Wc_320.2.2.2 = 137 := congrArg (· + 1) Wn_319
def Wc_321 : z_W := z_wr Wc_320 132 5 (z_r 136)
theorem Wn_321 : Wc_321.2.2.2 = 137 := Wn_320
def Wc_322 : z_W := z_nw Wc_321 (2, 8)
theorem Wn_322 : Wc_322.2.2.2 = 138 := congrArg (· + 1) Wn_321
def Wc_323 : z_W := z_wr Wc_322 132 6 (z_r 137)
theorem Wn_323 : Wc_323.2.2.2 = 138 := Wn_322
def Wc_324 : z_W := z_nw Wc_323 (2, 8)
theorem Wn_324 : Wc_324.2.2.2 = 139 := congrArg (· + 1) Wn_323
def Wc_325 : z_W := z_wr Wc_324 132 7 (z_r 138)
theorem Wn_325 : Wc_325.2.2.2 = 139 := Wn_324
def Wc_326 : z_W := z_nw Wc_325 (2, 6)
theorem Wn_326 : Wc_326.2.2.2 = 140 := congrArg (· + 1) Wn_325
def Wc_327 : z_W := z_wr Wc_326 132 8 (z_r 139)
theorem Wn_327 : Wc_327.2.2.2 = 140 := Wn_326
theorem ci_312_MF_init : z_Run (zg 1 7 54) zm_MF_init [z_r 132] Wc_312 (zq none Wc_327) := by
  refine z_body (by decide) zf_MF_ok (Nat.le_of_ble_eq_true rfl) (fun X M => ?_)
  show z_G X zm_MF_init (0, [(0, z_r 132)], [], Wc_312, 0, 0)
  refine z_go2 M.1 0 [(.aload_n 0, 1)] (1, [(0, z_r 132)], [z_r 132], Wc_312, 0, 0) (by decide +kernel) rfl ⟨trivial, trivial⟩ ?_
  refine z_objInit (idx := 1) M.1 (by decide +kernel) M.2.1 (z_wi 1577 (by decide +kernel) rfl) (z_wi 184 (by decide +kernel) rfl) (z_wi 185 (by decide +kernel) rfl) rfl (by decide) (by decide) (Nat.le_of_ble_eq_true rfl) ?_
  refine z_go2 M.1 4 [(.aload_n 0, 1), (.iconst 1, 1)] (6, [(0, z_r 132)], [.inl 1, z_r 132], Wc_312, 0, 0) (by decide +kernel) rfl ⟨trivial, trivial, trivial⟩ ?_
  refine z_putC (idx := 7) (ci := 12) (j := 0) (kd := 0) (w' := Wc_313) rfl M.1 (by decide +kernel) (by decide) (by decide +kernel) trivial ?_
  refine z_go2 M.1 9 [(.aload_n 0, 1), (.bipush 8, 2)] (12, [(0, z_r 132)], [.inl 8, z_r 132], Wc_313, 0, 0) (by decide +kernel) rfl ⟨trivial, trivial, trivial⟩ ?_
  refine z_newaC (n := 133) (aty := .int) (N := 8) (w' := Wc_314) Wn_313 rfl M.1 (by decide +kernel) M.2.1 (z_wi 235 (by decide +kernel) rfl) (by decide) (by decide) (by decide) (by decide) (by decide) ?_
  refine z_putFC (idx := 13) (ci := 12) (j := 2) (kd := 1) (w' := Wc_315) rfl M.1 (by decide +kernel) (by decide) rfl (fun r h => by injection h with h; subst h; rfl) (by decide +kernel) trivial ?_
  refine z_go2 M.1 17 [(.aload_n 0, 1), (.bipush 8, 2)] (20, [(0, z_r 132)], [.inl 8, z_r 132], Wc_315, 1, 8) (by decide +kernel) rfl ⟨trivial, trivial, trivial⟩ ?_
  refine z_newaC (n := 134) (aty := .int) (N := 8) (w' := Wc_316) Wn_315 rfl M.1 (by decide +kernel) M.2.1 (z_wi 235 (by decide +kernel) rfl) (by decide) (by decide) (by decide) (by decide) (by decide) ?_
  refine z_putFC (idx := 17) (ci := 12) (j := 3) (kd := 1) (w' := Wc_317) rfl M.1 (by decide +kernel) (by decide) rfl (fun r h => by injection h with h; subst h; rfl) (by decide +kernel) trivial ?_
  refine z_go2 M.1 25 [(.aload_n 0, 1), (.bipush 8, 2)] (28, [(0, z_r 132)], [.inl 8, z_r 132], Wc_317, 2, 16) (by decide +kernel) rfl ⟨trivial, trivial, trivial⟩ ?_
  refine z_newaC (n := 135) (aty := .int) (N := 8) (w' := Wc_318) Wn_317 rfl M.1 (by decide +kernel) M.2.1 (z_wi 235 (by decide +kernel) rfl) (by decide) (by decide) (by decide) (by decide) (by decide) ?_
  refine z_putFC (idx := 20) (ci := 12) (j := 4) (kd := 1) (w' := Wc_319) rfl M.1 (by decide +kernel) (by decide) rfl (fun r h => by injection h with h; subst h; rfl) (by decide +kernel) trivial ?_
  refine z_go2 M.1 33 [(.aload_n 0, 1), (.bipush 8, 2)] (36, [(0, z_r 132)], [.inl 8, z_r 132], Wc_319, 3, 24) (by decide +kernel) rfl ⟨trivial, trivial, trivial⟩ ?_
  refine z_newaC (n := 136) (aty := .int) (N := 8) (w' := Wc_320) Wn_319 rfl M.1 (by decide +kernel) M.2.1 (z_wi 235 (by decide +kernel) rfl) (by decide) (by decide) (by decide) (by decide) (by decide) ?_
  refine z_putFC (idx := 23) (ci := 12) (j := 5) (kd := 1) (w' := Wc_321) rfl M.1 (by decide +kernel) (by decide) rfl (fun r h => by injection h with h; subst h; rfl) (by decide +kernel) trivial ?_
  refine z_go2 M.1 41 [(.aload_n 0, 1), (.bipush 8, 2)] (44, [(0, z_r 132)], [.inl 8, z_r 132], Wc_321, 4, 32) (by decide +kernel) rfl ⟨trivial, trivial, trivial⟩ ?_
  refine z_newaC (n := 137) (aty := .int) (N := 8) (w' := Wc_322) Wn_321 rfl M.1 (by decide +kernel) M.2.1 (z_wi 235 (by decide +kernel) rfl) (by decide) (by decide) (by decide) (by decide) (by decide) ?_
  refine z_putFC (idx := 26) (ci := 12) (j := 6) (kd := 1) (w' := Wc_323) rfl M.1 (by decide +kernel) (by decide) rfl (fun r h => by injection h with h; subst h; rfl) (by decide +kernel) trivial ?_
  refine z_go2 M.1 49 [(.aload_n 0, 1), (.bipush 8, 2)] (52, [(0, z_r 132)], [.inl 8, z_r 132], Wc_323, 5, 40) (by decide +kernel) rfl ⟨trivial, trivial, trivial⟩ ?_
  refine z_newaC (n := 138) (aty := .int) (N := 8) (w' := Wc_324) Wn_323 rfl M.1 (by decide +kernel) M.2.1 (z_wi 235 (by decide +kernel) rfl) (by decide) (by decide) (by decide) (by decide) (by decide) ?_
  refine z_putFC (idx := 29) (ci := 12) (j := 7) (kd := 1) (w' := Wc_325) rfl M.1 (by decide +kernel) (by decide) rfl (fun r h => by injection h with h; subst h; rfl) (by decide +kernel) trivial ?_
  refine z_go2 M.1 57 [(.aload_n 0, 1), (.bipush 6, 2)] (60, [(0, z_r 132)], [.inl 6, z_r 132], Wc_325, 6, 48) (by decide +kernel) rfl ⟨trivial, trivial, trivial⟩ ?_
  refine z_newaC (n := 139) (aty := .int) (N := 6) (w' := Wc_326) Wn_325 rfl M.1 (by decide +kernel) M.2.1 (z_wi 235 (by decide +kernel) rfl) (by decide) (by decide) (by decide) (by decide) (by decide) ?_
  refine z_putFC (idx := 32) (ci := 12) (j := 8) (kd := 1) (w' := Wc_327) rfl M.1 (by decide +kernel) (by decide) rfl (fun r h => by injection h with h; subst h; rfl) (by decide +kernel) trivial ?_
  exact z_vret M (by decide +kernel) rfl (by decide) (by decide) ⟨rfl, rfl⟩
def Wc_328 : z_W := (Wc_327.1, z_uG Wc_327.2.1 131 (Int32.toNatClampNeg 0) (some 132), Wc_327.2.2.1, Wc_327.2.2.2)
theorem Wn_328 : Wc_328.2.2.2 = 140 := Wn_327
def Wc_329 : z_W := z_nw Wc_328 (1, 12)
theorem Wn_329 : Wc_329.2.2.2 = 141 := congrArg (· + 1) Wn_328
def Wc_330 : z_W := z_wr Wc_329 140 0 (.inl 1)
theorem Wn_330 : Wc_330.2.2.2 = 141 := Wn_329
def Wc_331 : z_W := z_nw Wc_330 (2, 8)
theorem Wn_331 : Wc_331.2.2.2 = 142 := congrArg (· + 1) Wn_330
def Wc_332 : z_W := z_wr Wc_331 140 2 (z_r 141)
theorem Wn_332 : Wc_332.2.2.2 = 142 := Wn_331
def Wc_333 : z_W := z_nw Wc_332 (2, 8)
theorem Wn_333 : Wc_333.2.2.2 = 143 := congrArg (· + 1) Wn_332
def Wc_334 : z_W := z_wr Wc_333 140 3 (z_r 142)
theorem Wn_334 : Wc_334.2.2.2 = 143 := Wn_333
def Wc_335 : z_W := z_nw Wc_334 (2, 8)
theorem Wn_335 : Wc_335.2.2.2 = 144 := congrArg (· + 1) Wn_334
def Wc_336 : z_W := z_wr Wc_335 140 4 (z_r 143)
theorem Wn_336 : Wc_336.2.2.2 = 144 := Wn_335
def Wc_337 : z_W := z_nw Wc_336 (2, 8)
theorem Wn_337 : Wc_337.2.2.2 = 145 := congrArg (· + 1) Wn_336
def Wc_338 : z_W := z_wr Wc_337 140 5 (z_r 144)
theorem Wn_338 : Wc_338.2.2.2 = 145 := Wn_337
def Wc_339 : z_W := z_nw Wc_338 (2, 8)
theorem Wn_339 : Wc_339.2.2.2 = 146 := congrArg (· + 1) Wn_338
def Wc_340 : z_W := z_wr Wc_339 140 6 (z_r 145)
theorem Wn_340 : Wc_340.2.2.2 = 146 := Wn_339
def Wc_341 : z_W := z_nw Wc_340 (2, 8)
theorem Wn_341 : Wc_341.2.2.2 = 147 := congrArg (· + 1) Wn_340
def Wc_342 : z_W := z_wr Wc_341 140 7 (z_r 146)
theorem Wn_342 : Wc_342.2.2.2 = 147 := Wn_341
def Wc_343 : z_W := z_nw Wc_342 (2, 6)
theorem Wn_343 : Wc_343.2.2.2 = 148 := congrArg (· + 1) Wn_342
def Wc_344 : z_W := z_wr Wc_343 140 8 (z_r 147)
theorem Wn_344 : Wc_344.2.2.2 = 148 := Wn_343
theorem ci_329_MF_init : z_Run (zg 1 7 54) zm_MF_init [z_r 140] Wc_329 (zq none Wc_344) := by
  refine z_body (by decide) zf_MF_ok (Nat.le_of_ble_eq_true rfl) (fun X M => ?_)
  show z_G X zm_MF_init (0, [(0, z_r 140)], [], Wc_329, 0, 0)
  refine z_go2 M.1 0 [(.aload_n 0, 1)] (1, [(0, z_r 140)], [z_r 140], Wc_329, 0, 0) (by decide +kernel) rfl ⟨trivial, trivial⟩ ?_
  refine z_objInit (idx := 1) M.1 (by decide +kernel) M.2.1 (z_wi 1577 (by decide +kernel) rfl) (z_wi 184 (by decide +kernel) rfl) (z_wi 185 (by decide +kernel) rfl) rfl (by decide) (by decide) (Nat.le_of_ble_eq_true rfl) ?_
  refine z_go2 M.1 4 [(.aload_n 0, 1), (.iconst 1, 1)] (6, [(0, z_r 140)], [.inl 1, z_r 140], Wc_329, 0, 0) (by decide +kernel) rfl ⟨trivial, trivial, trivial⟩ ?_
  refine z_putC (idx := 7) (ci := 12) (j := 0) (kd := 0) (w' := Wc_330) rfl M.1 (by decide +kernel) (by decide) (by decide +kernel) trivial ?_
  refine z_go2 M.1 9 [(.aload_n 0, 1), (.bipush 8, 2)] (12, [(0, z_r 140)], [.inl 8, z_r 140], Wc_330, 0, 0) (by decide +kernel) rfl ⟨trivial, trivial, trivial⟩ ?_
  refine z_newaC (n := 141) (aty := .int) (N := 8) (w' := Wc_331) Wn_330 rfl M.1 (by decide +kernel) M.2.1 (z_wi 235 (by decide +kernel) rfl) (by decide) (by decide) (by decide) (by decide) (by decide) ?_
  refine z_putFC (idx := 13) (ci := 12) (j := 2) (kd := 1) (w' := Wc_332) rfl M.1 (by decide +kernel) (by decide) rfl (fun r h => by injection h with h; subst h; rfl) (by decide +kernel) trivial ?_
  refine z_go2 M.1 17 [(.aload_n 0, 1), (.bipush 8, 2)] (20, [(0, z_r 140)], [.inl 8, z_r 140], Wc_332, 1, 8) (by decide +kernel) rfl ⟨trivial, trivial, trivial⟩ ?_
  refine z_newaC (n := 142) (aty := .int) (N := 8) (w' := Wc_333) Wn_332 rfl M.1 (by decide +kernel) M.2.1 (z_wi 235 (by decide +kernel) rfl) (by decide) (by decide) (by decide) (by decide) (by decide) ?_
  refine z_putFC (idx := 17) (ci := 12) (j := 3) (kd := 1) (w' := Wc_334) rfl M.1 (by decide +kernel) (by decide) rfl (fun r h => by injection h with h; subst h; rfl) (by decide +kernel) trivial ?_
  refine z_go2 M.1 25 [(.aload_n 0, 1), (.bipush 8, 2)] (28, [(0, z_r 140)], [.inl 8, z_r 140], Wc_334, 2, 16) (by decide +kernel) rfl ⟨trivial, trivial, trivial⟩ ?_
  refine z_newaC (n := 143) (aty := .int) (N := 8) (w' := Wc_335) Wn_334 rfl M.1 (by decide +kernel) M.2.1 (z_wi 235 (by decide +kernel) rfl) (by decide) (by decide) (by decide) (by decide) (by decide) ?_
  refine z_putFC (idx := 20) (ci := 12) (j := 4) (kd := 1) (w' := Wc_336) rfl M.1 (by decide +kernel) (by decide) rfl (fun r h => by injection h with h; subst h; rfl) (by decide +kernel) trivial ?_
  refine z_go2 M.1 33 [(.aload_n 0, 1), (.bipush 8, 2)] (36, [(0, z_r 140)], [.inl 8, z_r 140], Wc_336, 3, 24) (by decide +kernel) rfl ⟨trivial, trivial, trivial⟩ ?_
  refine z_newaC (n := 144) (aty := .int) (N := 8) (w' := Wc_337) Wn_336 rfl M.1 (by decide +kernel) M.2.1 (z_wi 235 (by decide +kernel) rfl) (by decide) (by decide) (by decide) (by decide) (by decide) ?_
  refine z_putFC (idx := 23) (ci := 12) (j := 5) (kd := 1) (w' := Wc_338) rfl M.1 (by decide +kernel) (by decide) rfl (fun r h => by injection h with h; subst h; rfl) (by decide +kernel) trivial ?_
  refine z_go2 M.1 41 [(.aload_n 0, 1), (.bipush 8, 2)] (44, [(0, z_r 140)], [.inl 8, z_r 140], Wc_338, 4, 32) (by decide +kernel) rfl ⟨trivial, trivial, trivial⟩ ?_
  refine z_newaC (n := 145) (aty := .int) (N := 8) (w' := Wc_339) Wn_338 rfl M.1 (by decide +kernel) M.2.1 (z_wi 235 (by decide +kernel) rfl) (by decide) (by decide) (by decide) (by decide) (by decide) ?_
  refine z_putFC (idx := 26) (ci := 12) (j := 6) (kd := 1) (w' := Wc_340) rfl M.1 (by decide +kernel) (by decide) rfl (fun r h => by injection h with h; subst h; rfl) (by decide +kernel) trivial ?_
  refine z_go2 M.1 49 [(.aload_n 0, 1), (.bipush 8, 2)] (52, [(0, z_r 140)], [.inl 8, z_r 140], Wc_340, 5, 40) (by decide +kernel) rfl ⟨trivial, trivial, trivial⟩ ?_
  refine z_newaC (n := 146) (aty := .int) (N := 8) (w' := Wc_341) Wn_340 rfl M.1 (by decide +kernel) M.2.1 (z_wi 235 (by decide +kernel) rfl) (by decide) (by decide) (by decide) (by decide) (by decide) ?_
  refine z_putFC (idx := 29) (ci := 12) (j := 7) (kd := 1) (w' := Wc_342) rfl M.1 (by decide +kernel) (by decide) rfl (fun r h => by injection h with h; subst h; rfl) (by decide +kernel) trivial ?_
  refine z_go2 M.1 57 [(.aload_n 0, 1), (.bipush 6, 2)] (60, [(0, z_r 140)], [.inl 6, z_r 140], Wc_342, 6, 48) (by decide +kernel) rfl ⟨trivial, trivial, trivial⟩ ?_
  refine z_newaC (n := 147) (aty := .int) (N := 6) (w' := Wc_343) Wn_342 rfl M.1 (by decide +kernel) M.2.1 (z_wi 235 (by decide +kernel) rfl) (by decide) (by decide) (by decide) (by decide) (by decide) ?_
  refine z_putFC (idx := 32) (ci := 12) (j := 8) (kd := 1) (w' := Wc_344) rfl M.1 (by decide +kernel) (by decide) rfl (fun r h => by injection h with h; subst h; rfl) (by decide +kernel) trivial ?_
  exact z_vret M (by decide +kernel) rfl (by decide) (by decide) ⟨rfl, rfl⟩
def Wc_345 : z_W := (Wc_344.1, z_uG Wc_344.2.1 131 (Int32.toNatClampNeg 1) (some 140), Wc_344.2.2.1, Wc_344.2.2.2)
theorem Wn_345 : Wc_345.2.2.2 = 148 := Wn_344
def Wc_346 : z_W := z_nw Wc_345 (1, 12)
theorem Wn_346 : Wc_346.2.2.2 = 149 := congrArg (· + 1) Wn_345
def Wc_347 : z_W := z_wr Wc_346 148 0 (.inl 1)
theorem Wn_347 : Wc_347.2.2.2 = 149 := Wn_346
def Wc_348 : z_W := z_nw Wc_347 (2, 8)
theorem Wn_348 : Wc_348.2.2.2 = 150 := congrArg (· + 1) Wn_347
def Wc_349 : z_W := z_wr Wc_348 148 2 (z_r 149)
theorem Wn_349 : Wc_349.2.2.2 = 150 := Wn_348
def Wc_350 : z_W := z_nw Wc_349 (2, 8)
theorem Wn_350 : Wc_350.2.2.2 = 151 := congrArg (· + 1) Wn_349
def Wc_351 : z_W := z_wr Wc_350 148 3 (z_r 150)
theorem Wn_351 : Wc_351.2.2.2 = 151 := Wn_350
def Wc_352 : z_W := z_nw Wc_351 (2, 8)
theorem Wn_352 : Wc_352.2.2.2 = 152 := congrArg (· + 1) Wn_351
def Wc_353 : z_W := z_wr Wc_352 148 4 (z_r 151)
theorem Wn_353 : Wc_353.2.2.2 = 152 := Wn_352
def Wc_354 : z_W := z_nw Wc_353 (2, 8)
theorem Wn_354 : Wc_354.2.2.2 = 153 := congrArg (· + 1) Wn_353
def Wc_355 : z_W := z_wr Wc_354 148 5 (z_r 152)
theorem Wn_355 : Wc_355.2.2.2 = 153 := Wn_354
def Wc_356 : z_W := z_nw Wc_355 (2, 8)
theorem Wn_356 : Wc_356.2.2.2 = 154 := congrArg (· + 1) Wn_355
def Wc_357 : z_W := z_wr Wc_356 148 6 (z_r 153)
theorem Wn_357 : Wc_357.2.2.2 = 154 := Wn_356
def Wc_358 : z_W := z_nw Wc_357 (2, 8)
theorem Wn_358 : Wc_358.2.2.2 = 155 := congrArg (· + 1) Wn_357
def Wc_359 : z_W := z_wr Wc_358 148 7 (z_r 154)
theorem Wn_359 : Wc_359.2.2.2 = 155 := Wn_358
def Wc_360 : z_W := z_nw Wc_359 (2, 6)
theorem Wn_360 : Wc_360.2.2.2 = 156 := congrArg (· + 1) Wn_359
def Wc_361 : z_W := z_wr Wc_360 148 8 (z_r 155)
theorem Wn_361 : Wc_361.2.2.2 = 156 := Wn_360
theorem ci_346_MF_init : z_Run (zg 1 7 54) zm_MF_init [z_r 148] Wc_346 (zq none Wc_361) := by
  refine z_body (by decide) zf_MF_ok (Nat.le_of_ble_eq_true rfl) (fun X M => ?_)
  show z_G X zm_MF_init (0, [(0, z_r 148)], [], Wc_346, 0, 0)
  refine z_go2 M.1 0 [(.aload_n 0, 1)] (1, [(0, z_r 148)], [z_r 148], Wc_346, 0, 0) (by decide +kernel) rfl ⟨trivial, trivial⟩ ?_
  refine z_objInit (idx := 1) M.1 (by decide +kernel) M.2.1 (z_wi 1577 (by decide +kernel) rfl) (z_wi 184 (by decide +kernel) rfl) (z_wi 185 (by decide +kernel) rfl) rfl (by decide) (by decide) (Nat.le_of_ble_eq_true rfl) ?_
  refine z_go2 M.1 4 [(.aload_n 0, 1), (.iconst 1, 1)] (6, [(0, z_r 148)], [.inl 1, z_r 148], Wc_346, 0, 0) (by decide +kernel) rfl ⟨trivial, trivial, trivial⟩ ?_
  refine z_putC (idx := 7) (ci := 12) (j := 0) (kd := 0) (w' := Wc_347) rfl M.1 (by decide +kernel) (by decide) (by decide +kernel) trivial ?_
  refine z_go2 M.1 9 [(.aload_n 0, 1), (.bipush 8, 2)] (12, [(0, z_r 148)], [.inl 8, z_r 148], Wc_347, 0, 0) (by decide +kernel) rfl ⟨trivial, trivial, trivial⟩ ?_
  refine z_newaC (n := 149) (aty := .int) (N := 8) (w' := Wc_348) Wn_347 rfl M.1 (by decide +kernel) M.2.1 (z_wi 235 (by decide +kernel) rfl) (by decide) (by decide) (by decide) (by decide) (by decide) ?_
  refine z_putFC (idx := 13) (ci := 12) (j := 2) (kd := 1) (w' := Wc_349) rfl M.1 (by decide +kernel) (by decide) rfl (fun r h => by injection h with h; subst h; rfl) (by decide +kernel) trivial ?_
  refine z_go2 M.1 17 [(.aload_n 0, 1), (.bipush 8, 2)] (20, [(0, z_r 148)], [.inl 8, z_r 148], Wc_349, 1, 8) (by decide +kernel) rfl ⟨trivial, trivial, trivial⟩ ?_
  refine z_newaC (n := 150) (aty := .int) (N := 8) (w' := Wc_350) Wn_349 rfl M.1 (by decide +kernel) M.2.1 (z_wi 235 (by decide +kernel) rfl) (by decide) (by decide) (by decide) (by decide) (by decide) ?_
  refine z_putFC (idx := 17) (ci := 12) (j := 3) (kd := 1) (w' := Wc_351) rfl M.1 (by decide +kernel) (by decide) rfl (fun r h => by injection h with h; subst h; rfl) (by decide +kernel) trivial ?_
  refine z_go2 M.1 25 [(.aload_n 0, 1), (.bipush 8, 2)] (28, [(0, z_r 148)], [.inl 8, z_r 148], Wc_351, 2, 16) (by decide +kernel) rfl ⟨trivial, trivial, trivial⟩ ?_
  refine z_newaC (n := 151) (aty := .int) (N := 8) (w' := Wc_352) Wn_351 rfl M.1 (by decide +kernel) M.2.1 (z_wi 235 (by decide +kernel) rfl) (by decide) (by decide) (by decide) (by decide) (by decide) ?_
  refine z_putFC (idx := 20) (ci := 12) (j := 4) (kd := 1) (w' := Wc_353) rfl M.1 (by decide +kernel) (by decide) rfl (fun r h => by injection h with h; subst h; rfl) (by decide +kernel) trivial ?_
  refine z_go2 M.1 33 [(.aload_n 0, 1), (.bipush 8, 2)] (36, [(0, z_r 148)], [.inl 8, z_r 148], Wc_353, 3, 24) (by decide +kernel) rfl ⟨trivial, trivial, trivial⟩ ?_
  refine z_newaC (n := 152) (aty := .int) (N := 8) (w' := Wc_354) Wn_353 rfl M.1 (by decide +kernel) M.2.1 (z_wi 235 (by decide +kernel) rfl) (by decide) (by decide) (by decide) (by decide) (by decide) ?_
  refine z_putFC (idx := 23) (ci := 12) (j := 5) (kd := 1) (w' := Wc_355) rfl M.1 (by decide +kernel) (by decide) rfl (fun r h => by injection h with h; subst h; rfl) (by decide +kernel) trivial ?_
  refine z_go2 M.1 41 [(.aload_n 0, 1), (.bipush 8, 2)] (44, [(0, z_r 148)], [.inl 8, z_r 148], Wc_355, 4, 32) (by decide +kernel) rfl ⟨trivial, trivial, trivial⟩ ?_
  refine z_newaC (n := 153) (aty := .int) (N := 8) (w' := Wc_356) Wn_355 rfl M.1 (by decide +kernel) M.2.1 (z_wi 235 (by decide +kernel) rfl) (by decide) (by decide) (by decide) (by decide) (by decide) ?_
  refine z_putFC (idx := 26) (ci := 12) (j := 6) (kd := 1) (w' := Wc_357) rfl M.1 (by decide +kernel) (by decide) rfl (fun r h => by injection h with h; subst h; rfl) (by decide +kernel) trivial ?_
  refine z_go2 M.1 49 [(.aload_n 0, 1), (.bipush 8, 2)] (52, [(0, z_r 148)], [.inl 8, z_r 148], Wc_357, 5, 40) (by decide +kernel) rfl ⟨trivial, trivial, trivial⟩ ?_
  refine z_newaC (n := 154) (aty := .int) (N := 8) (w' := Wc_358) Wn_357 rfl M.1 (by decide +kernel) M.2.1 (z_wi 235 (by decide +kernel) rfl) (by decide) (by decide) (by decide) (by decide) (by decide) ?_
  refine z_putFC (idx := 29) (ci := 12) (j := 7) (kd := 1) (w' := Wc_359) rfl M.1 (by decide +kernel) (by decide) rfl (fun r h => by injection h with h; subst h; rfl) (by decide +kernel) trivial ?_
  refine z_go2 M.1 57 [(.aload_n 0, 1), (.bipush 6, 2)] (60, [(0, z_r 148)], [.inl 6, z_r 148], Wc_359, 6, 48) (by decide +kernel) rfl ⟨trivial, trivial, trivial⟩ ?_
  refine z_newaC (n := 155) (aty := .int) (N := 6) (w' := Wc_360) Wn_359 rfl M.1 (by decide +kernel) M.2.1 (z_wi 235 (by decide +kernel) rfl) (by decide) (by decide) (by decide) (by decide) (by decide) ?_
  refine z_putFC (idx := 32) (ci := 12) (j := 8) (kd := 1) (w' := Wc_361) rfl M.1 (by decide +kernel) (by decide) rfl (fun r h => by injection h with h; subst h; rfl) (by decide +kernel) trivial ?_
  exact z_vret M (by decide +kernel) rfl (by decide) (by decide) ⟨rfl, rfl⟩
def Wc_362 : z_W := (Wc_361.1, z_uG Wc_361.2.1 131 (Int32.toNatClampNeg 2) (some 148), Wc_361.2.2.1, Wc_361.2.2.2)
theorem Wn_362 : Wc_362.2.2.2 = 156 := Wn_361
def Wc_363 : z_W := z_wr Wc_362 78 24 (z_r 131)
theorem Wn_363 : Wc_363.2.2.2 = 156 := Wn_362
def Wc_364 : z_W := z_nw Wc_363 (1, 12)
theorem Wn_364 : Wc_364.2.2.2 = 157 := congrArg (· + 1) Wn_363
def Wc_365 : z_W := z_wr Wc_364 156 0 (.inl 1)
theorem Wn_365 : Wc_365.2.2.2 = 157 := Wn_364
def Wc_366 : z_W := z_nw Wc_365 (2, 8)
theorem Wn_366 : Wc_366.2.2.2 = 158 := congrArg (· + 1) Wn_365
def Wc_367 : z_W := z_wr Wc_366 156 2 (z_r 157)
theorem Wn_367 : Wc_367.2.2.2 = 158 := Wn_366
def Wc_368 : z_W := z_nw Wc_367 (2, 8)
theorem Wn_368 : Wc_368.2.2.2 = 159 := congrArg (· + 1) Wn_367
def Wc_369 : z_W := z_wr Wc_368 156 3 (z_r 158)
theorem Wn_369 : Wc_369.2.2.2 = 159 := Wn_368
def Wc_370 : z_W := z_nw Wc_369 (2, 8)
theorem Wn_370 : Wc_370.2.2.2 = 160 := congrArg (· + 1) Wn_369
def Wc_371 : z_W := z_wr Wc_370 156 4 (z_r 159)
theorem Wn_371 : Wc_371.2.2.2 = 160 := Wn_370
def Wc_372 : z_W := z_nw Wc_371 (2, 8)
theorem Wn_372 : Wc_372.2.2.2 = 161 := congrArg (· + 1) Wn_371
def Wc_373 : z_W := z_wr Wc_372 156 5 (z_r 160)
theorem Wn_373 : Wc_373.2.2.2 = 161 := Wn_372
def Wc_374 : z_W := z_nw Wc_373 (2, 8)
theorem Wn_374 : Wc_374.2.2.2 = 162 := congrArg (· + 1) Wn_373
def Wc_375 : z_W := z_wr Wc_374 156 6 (z_r 161)
theorem Wn_375 : Wc_375.2.2.2 = 162 := Wn_374
def Wc_376 : z_W := z_nw Wc_375 (2, 8)
theorem Wn_376 : Wc_376.2.2.2 = 163 := congrArg (· + 1) Wn_375
def Wc_377 : z_W := z_wr Wc_376 156 7 (z_r 162)
theorem Wn_377 : Wc_377.2.2.2 = 163 := Wn_376
def Wc_378 : z_W := z_nw Wc_377 (2, 6)
theorem Wn_378 : Wc_378.2.2.2 = 164 := congrArg (· + 1) Wn_377
def Wc_379 : z_W := z_wr Wc_378 156 8 (z_r 163)
theorem Wn_379 : Wc_379.2.2.2 = 164 := Wn_378
theorem ci_364_MF_init : z_Run (zg 1 7 54) zm_MF_init [z_r 156] Wc_364 (zq none Wc_379) := by
  refine z_body (by decide) zf_MF_ok (Nat.le_of_ble_eq_true rfl) (fun X M => ?_)
  show z_G X zm_MF_init (0, [(0, z_r 156)], [], Wc_364, 0, 0)
  refine z_go2 M.1 0 [(.aload_n 0, 1)] (1, [(0, z_r 156)], [z_r 156], Wc_364, 0, 0) (by decide +kernel) rfl ⟨trivial, trivial⟩ ?_
  refine z_objInit (idx := 1) M.1 (by decide +kernel) M.2.1 (z_wi 1577 (by decide +kernel) rfl) (z_wi 184 (by decide +kernel) rfl) (z_wi 185 (by decide +kernel) rfl) rfl (by decide) (by decide) (Nat.le_of_ble_eq_true rfl) ?_
  refine z_go2 M.1 4 [(.aload_n 0, 1), (.iconst 1, 1)] (6, [(0, z_r 156)], [.inl 1, z_r 156], Wc_364, 0, 0) (by decide +kernel) rfl ⟨trivial, trivial, trivial⟩ ?_
  refine z_putC (idx := 7) (ci := 12) (j := 0) (kd := 0) (w' := Wc_365) rfl M.1 (by decide +kernel) (by decide) (by decide +kernel) trivial ?_
  refine z_go2 M.1 9 [(.aload_n 0, 1), (.bipush 8, 2)] (12, [(0, z_r 156)], [.inl 8, z_r 156], Wc_365, 0, 0) (by decide +kernel) rfl ⟨trivial, trivial, trivial⟩ ?_
  refine z_newaC (n := 157) (aty := .int) (N := 8) (w' := Wc_366) Wn_365 rfl M.1 (by decide +kernel) M.2.1 (z_wi 235 (by decide +kernel) rfl) (by decide) (by decide) (by decide) (by decide) (by decide) ?_
  refine z_putFC (idx := 13) (ci := 12) (j := 2) (kd := 1) (w' := Wc_367) rfl M.1 (by decide +kernel) (by decide) rfl (fun r h => by injection h with h; subst h; rfl) (by decide +kernel) trivial ?_
  refine z_go2 M.1 17 [(.aload_n 0, 1), (.bipush 8, 2)] (20, [(0, z_r 156)], [.inl 8, z_r 156], Wc_367, 1, 8) (by decide +kernel) rfl ⟨trivial, trivial, trivial⟩ ?_
  refine z_newaC (n := 158) (aty := .int) (N := 8) (w' := Wc_368) Wn_367 rfl M.1 (by decide +kernel) M.2.1 (z_wi 235 (by decide +kernel) rfl) (by decide) (by decide) (by decide) (by decide) (by decide) ?_
  refine z_putFC (idx := 17) (ci := 12) (j := 3) (kd := 1) (w' := Wc_369) rfl M.1 (by decide +kernel) (by decide) rfl (fun r h => by injection h with h; subst h; rfl) (by decide +kernel) trivial ?_
  refine z_go2 M.1 25 [(.aload_n 0, 1), (.bipush 8, 2)] (28, [(0, z_r 156)], [.inl 8, z_r 156], Wc_369, 2, 16) (by decide +kernel) rfl ⟨trivial, trivial, trivial⟩ ?_
  refine z_newaC (n := 159) (aty := .int) (N := 8) (w' := Wc_370) Wn_369 rfl M.1 (by decide +kernel) M.2.1 (z_wi 235 (by decide +kernel) rfl) (by decide) (by decide) (by decide) (by decide) (by decide) ?_
  refine z_putFC (idx := 20) (ci := 12) (j := 4) (kd := 1) (w' := Wc_371) rfl M.1 (by decide +kernel) (by decide) rfl (fun r h => by injection h with h; subst h; rfl) (by decide +kernel) trivial ?_
  refine z_go2 M.1 33 [(.aload_n 0, 1), (.bipush 8, 2)] (36, [(0, z_r 156)], [.inl 8, z_r 156], Wc_371, 3, 24) (by decide +kernel) rfl ⟨trivial, trivial, trivial⟩ ?_
  refine z_newaC (n := 160) (aty := .int) (N := 8) (w' := Wc_372) Wn_371 rfl M.1 (by decide +kernel) M.2.1 (z_wi 235 (by decide +kernel) rfl) (by decide) (by decide) (by decide) (by decide) (by decide) ?_
  refine z_putFC (idx := 23) (ci := 12) (j := 5) (kd := 1) (w' := Wc_373) rfl M.1 (by decide +kernel) (by decide) rfl (fun r h => by injection h with h; subst h; rfl) (by decide +kernel) trivial ?_
  refine z_go2 M.1 41 [(.aload_n 0, 1), (.bipush 8, 2)] (44, [(0, z_r 156)], [.inl 8, z_r 156], Wc_373, 4, 32) (by decide +kernel) rfl ⟨trivial, trivial, trivial⟩ ?_
  refine z_newaC (n := 161) (aty := .int) (N := 8) (w' := Wc_374) Wn_373 rfl M.1 (by decide +kernel) M.2.1 (z_wi 235 (by decide +kernel) rfl) (by decide) (by decide) (by decide) (by decide) (by decide) ?_
  refine z_putFC (idx := 26) (ci := 12) (j := 6) (kd := 1) (w' := Wc_375) rfl M.1 (by decide +kernel) (by decide) rfl (fun r h => by injection h with h; subst h; rfl) (by decide +kernel) trivial ?_
  refine z_go2 M.1 49 [(.aload_n 0, 1), (.bipush 8, 2)] (52, [(0, z_r 156)], [.inl 8, z_r 156], Wc_375, 5, 40) (by decide +kernel) rfl ⟨trivial, trivial, trivial⟩ ?_
  refine z_newaC (n := 162) (aty := .int) (N := 8) (w' := Wc_376) Wn_375 rfl M.1 (by decide +kernel) M.2.1 (z_wi 235 (by decide +kernel) rfl) (by decide) (by decide) (by decide) (by decide) (by decide) ?_
  refine z_putFC (idx := 29) (ci := 12) (j := 7) (kd := 1) (w' := Wc_377) rfl M.1 (by decide +kernel) (by decide) rfl (fun r h => by injection h with h; subst h; rfl) (by decide +kernel) trivial ?_
  refine z_go2 M.1 57 [(.aload_n 0, 1), (.bipush 6, 2)] (60, [(0, z_r 156)], [.inl 6, z_r 156], Wc_377, 6, 48) (by decide +kernel) rfl ⟨trivial, trivial, trivial⟩ ?_
  refine z_newaC (n := 163) (aty := .int) (N := 6) (w' := Wc_378) Wn_377 rfl M.1 (by decide +kernel) M.2.1 (z_wi 235 (by decide +kernel) rfl) (by decide) (by decide) (by decide) (by decide) (by decide) ?_
  refine z_putFC (idx := 32) (ci := 12) (j := 8) (kd := 1) (w' := Wc_379) rfl M.1 (by decide +kernel) (by decide) rfl (fun r h => by injection h with h; subst h; rfl) (by decide +kernel) trivial ?_
  exact z_vret M (by decide +kernel) rfl (by decide) (by decide) ⟨rfl, rfl⟩
def Wc_380 : z_W := z_wr Wc_379 78 25 (z_r 156)
theorem Wn_380 : Wc_380.2.2.2 = 164 := Wn_379
def Wc_381 : z_W := z_wr Wc_380 78 26 (.inl (-1))
theorem Wn_381 : Wc_381.2.2.2 = 164 := Wn_380
def Wc_382 : z_W := z_nw Wc_381 (2, 3)
theorem Wn_382 : Wc_382.2.2.2 = 165 := congrArg (· + 1) Wn_381
def Wc_383 : z_W := (Wc_382.1, Wc_382.2.1, z_uS Wc_382.2.2.1 164 (Int32.toNatClampNeg 0) (-1), Wc_382.2.2.2)
theorem Wn_383 : Wc_383.2.2.2 = 165 := Wn_382
def Wc_384 : z_W := (Wc_383.1, Wc_383.2.1, z_uS Wc_383.2.2.1 164 (Int32.toNatClampNeg 1) (-1), Wc_383.2.2.2)
theorem Wn_384 : Wc_384.2.2.2 = 165 := Wn_383
def Wc_385 : z_W := (Wc_384.1, Wc_384.2.1, z_uS Wc_384.2.2.1 164 (Int32.toNatClampNeg 2) (-1), Wc_384.2.2.2)
theorem Wn_385 : Wc_385.2.2.2 = 165 := Wn_384
def Wc_386 : z_W := z_wr Wc_385 78 27 (z_r 164)
theorem Wn_386 : Wc_386.2.2.2 = 165 := Wn_385
def Wc_387 : z_W := z_nw Wc_386 (2, 3)
theorem Wn_387 : Wc_387.2.2.2 = 166 := congrArg (· + 1) Wn_386
def Wc_388 : z_W := z_wr Wc_387 78 28 (z_r 165)
theorem Wn_388 : Wc_388.2.2.2 = 166 := Wn_387
def Wc_389 : z_W := z_nw Wc_388 (2, 3)
theorem Wn_389 : Wc_389.2.2.2 = 167 := congrArg (· + 1) Wn_388
def Wc_390 : z_W := z_wr Wc_389 78 29 (z_r 166)
theorem Wn_390 : Wc_390.2.2.2 = 167 := Wn_389
def Wc_391 : z_W := z_nw Wc_390 (2, 30)
theorem Wn_391 : Wc_391.2.2.2 = 168 := congrArg (· + 1) Wn_390
def Wc_392 : z_W := z_wr Wc_391 78 30 (z_r 167)
theorem Wn_392 : Wc_392.2.2.2 = 168 := Wn_391
def Wc_393 : z_W := z_nw Wc_392 (2, 6)
theorem Wn_393 : Wc_393.2.2.2 = 169 := congrArg (· + 1) Wn_392
def Wc_394 : z_W := z_wr Wc_393 78 32 (z_r 168)
theorem Wn_394 : Wc_394.2.2.2 = 169 := Wn_393
def Wc_395 : z_W := z_nw Wc_394 (2, 6)
theorem Wn_395 : Wc_395.2.2.2 = 170 := congrArg (· + 1) Wn_394
def Wc_396 : z_W := z_wr Wc_395 78 33 (z_r 169)
theorem Wn_396 : Wc_396.2.2.2 = 170 := Wn_395
def Wc_397 : z_W := z_nw Wc_396 (2, 6)
theorem Wn_397 : Wc_397.2.2.2 = 171 := congrArg (· + 1) Wn_396
def Wc_398 : z_W := z_wr Wc_397 78 34 (z_r 170)
theorem Wn_398 : Wc_398.2.2.2 = 171 := Wn_397
def Wc_399 : z_W := z_nw Wc_398 (2, 6)
theorem Wn_399 : Wc_399.2.2.2 = 172 := congrArg (· + 1) Wn_398
def Wc_400 : z_W := z_wr Wc_399 78 35 (z_r 171)
theorem Wn_400 : Wc_400.2.2.2 = 172 := Wn_399
def Wc_401 : z_W := z_nw Wc_400 (2, 6)
theorem Wn_401 : Wc_401.2.2.2 = 173 := congrArg (· + 1) Wn_400
def Wc_402 : z_W := z_wr Wc_401 78 36 (z_r 172)
theorem Wn_402 : Wc_402.2.2.2 = 173 := Wn_401
def Wc_403 : z_W := z_nw Wc_402 (2, 6)
theorem Wn_403 : Wc_403.2.2.2 = 174 := congrArg (· + 1) Wn_402
def Wc_404 : z_W := z_wr Wc_403 78 37 (z_r 173)
theorem Wn_404 : Wc_404.2.2.2 = 174 := Wn_403
def Wc_405 : z_W := z_nw Wc_404 (2, 6)
theorem Wn_405 : Wc_405.2.2.2 = 175 := congrArg (· + 1) Wn_404
def Wc_406 : z_W := z_wr Wc_405 78 38 (z_r 174)
theorem Wn_406 : Wc_406.2.2.2 = 175 := Wn_405
def Wc_407 : z_W := z_nw Wc_406 (2, 6)
theorem Wn_407 : Wc_407.2.2.2 = 176 := congrArg (· + 1) Wn_406
def Wc_408 : z_W := z_wr Wc_407 78 39 (z_r 175)
theorem Wn_408 : Wc_408.2.2.2 = 176 := Wn_407
def Wc_409 : z_W := z_nw Wc_408 (2, 6)
theorem Wn_409 : Wc_409.2.2.2 = 177 := congrArg (· + 1) Wn_408
def Wc_410 : z_W := z_wr Wc_409 78 40 (z_r 176)
theorem Wn_410 : Wc_410.2.2.2 = 177 := Wn_409
def Wc_411 : z_W := z_nw Wc_410 (2, 600)
theorem Wn_411 : Wc_411.2.2.2 = 178 := congrArg (· + 1) Wn_410
def Wc_412 : z_W := z_wr Wc_411 78 42 (z_r 177)
theorem Wn_412 : Wc_412.2.2.2 = 178 := Wn_411
def Wc_413 : z_W := z_nw Wc_412 (2, 600)
theorem Wn_413 : Wc_413.2.2.2 = 179 := congrArg (· + 1) Wn_412
def Wc_414 : z_W := z_wr Wc_413 78 43 (z_r 178)
theorem Wn_414 : Wc_414.2.2.2 = 179 := Wn_413
def Wc_415 : z_W := z_nw Wc_414 (2, 600)
theorem Wn_415 : Wc_415.2.2.2 = 180 := congrArg (· + 1) Wn_414
def Wc_416 : z_W := z_wr Wc_415 78 44 (z_r 179)
theorem Wn_416 : Wc_416.2.2.2 = 180 := Wn_415
def Wc_417 : z_W := z_nw Wc_416 (2, 601)
theorem Wn_417 : Wc_417.2.2.2 = 181 := congrArg (· + 1) Wn_416
def Wc_418 : z_W := z_wr Wc_417 78 45 (z_r 180)
theorem Wn_418 : Wc_418.2.2.2 = 181 := Wn_417
def Wc_419 : z_W := z_nw Wc_418 (2, 2000)
theorem Wn_419 : Wc_419.2.2.2 = 182 := congrArg (· + 1) Wn_418
def Wc_420 : z_W := z_wr Wc_419 78 46 (z_r 181)
theorem Wn_420 : Wc_420.2.2.2 = 182 := Wn_419
def Wc_421 : z_W := z_nw Wc_420 (2, 2000)
theorem Wn_421 : Wc_421.2.2.2 = 183 := congrArg (· + 1) Wn_420
def Wc_422 : z_W := z_wr Wc_421 78 47 (z_r 182)
theorem Wn_422 : Wc_422.2.2.2 = 183 := Wn_421
def Wc_423 : z_W := z_nw Wc_422 (3, 240)
theorem Wn_423 : Wc_423.2.2.2 = 184 := congrArg (· + 1) Wn_422
def Wc_424 : z_W := z_wr Wc_423 78 48 (z_r 183)
theorem Wn_424 : Wc_424.2.2.2 = 184 := Wn_423
def Wc_425 : z_W := z_nw Wc_424 (2, 8)
theorem Wn_425 : Wc_425.2.2.2 = 185 := congrArg (· + 1) Wn_424
def Wc_426 : z_W := z_wr Wc_425 78 49 (z_r 184)
theorem Wn_426 : Wc_426.2.2.2 = 185 := Wn_425
def Wc_427 : z_W := z_nw Wc_426 (4, 30)
theorem Wn_427 : Wc_427.2.2.2 = 186 := congrArg (· + 1) Wn_426
def Wc_428 : z_W := z_wr Wc_427 78 50 (z_r 185)
theorem Wn_428 : Wc_428.2.2.2 = 186 := Wn_427
def Wc_429 : z_W := z_nw Wc_428 (4, 31)
theorem Wn_429 : Wc_429.2.2.2 = 187 := congrArg (· + 1) Wn_428
def Wc_430 : z_W := z_wr Wc_429 78 55 (z_r 186)
theorem Wn_430 : Wc_430.2.2.2 = 187 := Wn_429
def Wc_431 : z_W := z_nw Wc_430 (2, 31)
theorem Wn_431 : Wc_431.2.2.2 = 188 := congrArg (· + 1) Wn_430
def Wc_432 : z_W := z_wr Wc_431 78 56 (z_r 187)
theorem Wn_432 : Wc_432.2.2.2 = 188 := Wn_431
def Wc_433 : z_W := z_nw Wc_432 (2, 31)
theorem Wn_433 : Wc_433.2.2.2 = 189 := congrArg (· + 1) Wn_432
def Wc_434 : z_W := z_wr Wc_433 78 57 (z_r 188)
theorem Wn_434 : Wc_434.2.2.2 = 189 := Wn_433
def Wc_435 : z_W := z_nw Wc_434 (2, 31)
theorem Wn_435 : Wc_435.2.2.2 = 190 := congrArg (· + 1) Wn_434
def Wc_436 : z_W := z_wr Wc_435 78 58 (z_r 189)
theorem Wn_436 : Wc_436.2.2.2 = 190 := Wn_435
def Wc_437 : z_W := z_nw Wc_436 (2, 31)
theorem Wn_437 : Wc_437.2.2.2 = 191 := congrArg (· + 1) Wn_436
def Wc_438 : z_W := z_wr Wc_437 78 59 (z_r 190)
theorem Wn_438 : Wc_438.2.2.2 = 191 := Wn_437
def Wc_439 : z_W := z_nw Wc_438 (3, 930)
theorem Wn_439 : Wc_439.2.2.2 = 192 := congrArg (· + 1) Wn_438
def Wc_440 : z_W := z_wr Wc_439 78 60 (z_r 191)
theorem Wn_440 : Wc_440.2.2.2 = 192 := Wn_439
def Wc_441 : z_W := z_nw Wc_440 (3, 30)
theorem Wn_441 : Wc_441.2.2.2 = 193 := congrArg (· + 1) Wn_440
def Wc_442 : z_W := z_wr Wc_441 78 61 (z_r 192)
theorem Wn_442 : Wc_442.2.2.2 = 193 := Wn_441
theorem ci_187_M_init : z_Run (zg 2 114 28162) zm_M_init [z_r 78] Wc_187 (zq none Wc_442) := by
  refine z_body (by decide) zf_M_ok (Nat.le_of_ble_eq_true rfl) (fun X M => ?_)
  show z_G X zm_M_init (0, [(0, z_r 78)], [], Wc_187, 0, 0)
  refine z_go2 M.1 0 [(.aload_n 0, 1)] (1, [(0, z_r 78)], [z_r 78], Wc_187, 0, 0) (by decide +kernel) rfl ⟨trivial, trivial⟩ ?_
  refine z_objInit (idx := 1) M.1 (by decide +kernel) M.2.1 (z_wi 1515 (by decide +kernel) rfl) (z_wi 184 (by decide +kernel) rfl) (z_wi 185 (by decide +kernel) rfl) rfl (by decide) (by decide) (Nat.le_of_ble_eq_true rfl) ?_
  refine z_go2 M.1 4 [(.aload_n 0, 1), (.sipush 1200, 3)] (8, [(0, z_r 78)], [.inl 1200, z_r 78], Wc_187, 0, 0) (by decide +kernel) rfl ⟨trivial, trivial, trivial⟩ ?_
  refine z_newaC (n := 79) (aty := .int) (N := 1200) (w' := Wc_188) Wn_187 rfl M.1 (by decide +kernel) M.2.1 (z_wi 235 (by decide +kernel) rfl) (by decide) (by decide) (by decide) (by decide) (by decide) ?_
  refine z_putFC (idx := 7) (ci := 14) (j := 3) (kd := 1) (w' := Wc_189) rfl M.1 (by decide +kernel) (by decide) rfl (fun r h => by injection h with h; subst h; rfl) (by decide +kernel) trivial ?_
  refine z_go2 M.1 13 [(.aload_n 0, 1), (.sipush 1200, 3)] (17, [(0, z_r 78)], [.inl 1200, z_r 78], Wc_189, 1, 1200) (by decide +kernel) rfl ⟨trivial, trivial, trivial⟩ ?_
  refine z_newaC (n := 80) (aty := .int) (N := 1200) (w' := Wc_190) Wn_189 rfl M.1 (by decide +kernel) M.2.1 (z_wi 235 (by decide +kernel) rfl) (by decide) (by decide) (by decide) (by decide) (by decide) ?_
  refine z_putFC (idx := 13) (ci := 14) (j := 4) (kd := 1) (w' := Wc_191) rfl M.1 (by decide +kernel) (by decide) rfl (fun r h => by injection h with h; subst h; rfl) (by decide +kernel) trivial ?_
  refine z_go2 M.1 22 [(.aload_n 0, 1), (.sipush 1200, 3)] (26, [(0, z_r 78)], [.inl 1200, z_r 78], Wc_191, 2, 2400) (by decide +kernel) rfl ⟨trivial, trivial, trivial⟩ ?_
  refine z_newaC (n := 81) (aty := .int) (N := 1200) (w' := Wc_192) Wn_191 rfl M.1 (by decide +kernel) M.2.1 (z_wi 235 (by decide +kernel) rfl) (by decide) (by decide) (by decide) (by decide) (by decide) ?_
  refine z_putFC (idx := 16) (ci := 14) (j := 5) (kd := 1) (w' := Wc_193) rfl M.1 (by decide +kernel) (by decide) rfl (fun r h => by injection h with h; subst h; rfl) (by decide +kernel) trivial ?_
  refine z_go2 M.1 31 [(.aload_n 0, 1), (.sipush 1200, 3)] (35, [(0, z_r 78)], [.inl 1200, z_r 78], Wc_193, 3, 3600) (by decide +kernel) rfl ⟨trivial, trivial, trivial⟩ ?_
  refine z_newaC (n := 82) (aty := .int) (N := 1200) (w' := Wc_194) Wn_193 rfl M.1 (by decide +kernel) M.2.1 (z_wi 235 (by decide +kernel) rfl) (by decide) (by decide) (by decide) (by decide) (by decide) ?_
  refine z_putFC (idx := 19) (ci := 14) (j := 6) (kd := 1) (w' := Wc_195) rfl M.1 (by decide +kernel) (by decide) rfl (fun r h => by injection h with h; subst h; rfl) (by decide +kernel) trivial ?_
  refine z_go2 M.1 40 [(.aload_n 0, 1), (.sipush 1200, 3)] (44, [(0, z_r 78)], [.inl 1200, z_r 78], Wc_195, 4, 4800) (by decide +kernel) rfl ⟨trivial, trivial, trivial⟩ ?_
  refine z_newaC (n := 83) (aty := .int) (N := 1200) (w' := Wc_196) Wn_195 rfl M.1 (by decide +kernel) M.2.1 (z_wi 235 (by decide +kernel) rfl) (by decide) (by decide) (by decide) (by decide) (by decide) ?_
  refine z_putFC (idx := 22) (ci := 14) (j := 7) (kd := 1) (w' := Wc_197) rfl M.1 (by decide +kernel) (by decide) rfl (fun r h => by injection h with h; subst h; rfl) (by decide +kernel) trivial ?_
  refine z_go2 M.1 49 [(.aload_n 0, 1), (.sipush 1200, 3)] (53, [(0, z_r 78)], [.inl 1200, z_r 78], Wc_197, 5, 6000) (by decide +kernel) rfl ⟨trivial, trivial, trivial⟩ ?_
  refine z_newaC (n := 84) (aty := .int) (N := 1200) (w' := Wc_198) Wn_197 rfl M.1 (by decide +kernel) M.2.1 (z_wi 235 (by decide +kernel) rfl) (by decide) (by decide) (by decide) (by decide) (by decide) ?_
  refine z_putFC (idx := 25) (ci := 14) (j := 8) (kd := 1) (w' := Wc_199) rfl M.1 (by decide +kernel) (by decide) rfl (fun r h => by injection h with h; subst h; rfl) (by decide +kernel) trivial ?_
  refine z_go2 M.1 58 [(.aload_n 0, 1), (.sipush 1200, 3)] (62, [(0, z_r 78)], [.inl 1200, z_r 78], Wc_199, 6, 7200) (by decide +kernel) rfl ⟨trivial, trivial, trivial⟩ ?_
  refine z_newaC (n := 85) (aty := .int) (N := 1200) (w' := Wc_200) Wn_199 rfl M.1 (by decide +kernel) M.2.1 (z_wi 235 (by decide +kernel) rfl) (by decide) (by decide) (by decide) (by decide) (by decide) ?_
  refine z_putFC (idx := 28) (ci := 14) (j := 9) (kd := 1) (w' := Wc_201) rfl M.1 (by decide +kernel) (by decide) rfl (fun r h => by injection h with h; subst h; rfl) (by decide +kernel) trivial ?_
  refine z_go2 M.1 67 [(.aload_n 0, 1)] (68, [(0, z_r 78)], [z_r 78], Wc_201, 7, 8400) (by decide +kernel) rfl ⟨trivial, trivial⟩ ?_
  refine z_newC (idx := 31) (n := 86) (ci := 13) (r := (RX13, TX13, 12)) (w' := Wc_202) Wn_201 rfl M.1 (by decide +kernel) M.2.1 rfl (z_wi 1516 (by decide +kernel) rfl) (z_wi 1517 (by decide +kernel) rfl) (z_wi 167 (by decide +kernel) rfl) (by decide) (by decide) ?_
  refine z_go2 M.1 71 [(.dup, 1)] (72, [(0, z_r 78)], [z_r 86, z_r 86, z_r 78], Wc_202, 8, 8412) (by decide +kernel) rfl ⟨rfl, trivial⟩ ?_
  refine z_callI M.1 (av := []) (st := [z_r 86, z_r 78]) (a := 86) (by decide +kernel) ci_202_MW_init M.2.1 zl_M_33 rfl rfl zi_MW_init ⟨by decide, by decide, by decide, by decide⟩ rfl (Nat.le_of_ble_eq_true rfl) (fun v w' hv => ?_)
  obtain ⟨rfl, rfl⟩ := hv
  show z_G X zm_M_init (75, [(0, z_r 78)], [z_r 86, z_r 78], Wc_224, 19, 11466)
  refine z_putFC (idx := 34) (ci := 14) (j := 10) (kd := 1) (w' := Wc_225) rfl M.1 (by decide +kernel) (by decide) rfl (fun r h => by injection h with h; subst h; rfl) (by decide +kernel) trivial ?_
  refine z_go2 M.1 78 [(.aload_n 0, 1)] (79, [(0, z_r 78)], [z_r 78], Wc_225, 19, 11466) (by decide +kernel) rfl ⟨trivial, trivial⟩ ?_
  refine z_newC (idx := 31) (n := 98) (ci := 13) (r := (RX13, TX13, 12)) (w' := Wc_226) Wn_225 rfl M.1 (by decide +kernel) M.2.1 rfl (z_wi 1516 (by decide +kernel) rfl) (z_wi 1517 (by decide +kernel) rfl) (z_wi 167 (by decide +kernel) rfl) (by decide) (by decide) ?_
  refine z_go2 M.1 82 [(.dup, 1)] (83, [(0, z_r 78)], [z_r 98, z_r 98, z_r 78], Wc_226, 20, 11478) (by decide +kernel) rfl ⟨rfl, trivial⟩ ?_
  refine z_callI M.1 (av := []) (st := [z_r 98, z_r 78]) (a := 98) (by decide +kernel) ci_226_MW_init M.2.1 zl_M_33 rfl rfl zi_MW_init ⟨by decide, by decide, by decide, by decide⟩ rfl (Nat.le_of_ble_eq_true rfl) (fun v w' hv => ?_)
  obtain ⟨rfl, rfl⟩ := hv
  show z_G X zm_M_init (86, [(0, z_r 78)], [z_r 98, z_r 78], Wc_248, 31, 14532)
  refine z_putFC (idx := 38) (ci := 14) (j := 11) (kd := 1) (w' := Wc_249) rfl M.1 (by decide +kernel) (by decide) rfl (fun r h => by injection h with h; subst h; rfl) (by decide +kernel) trivial ?_
  refine z_go2 M.1 89 [(.aload_n 0, 1)] (90, [(0, z_r 78)], [z_r 78], Wc_249, 31, 14532) (by decide +kernel) rfl ⟨trivial, trivial⟩ ?_
  refine z_newC (idx := 31) (n := 110) (ci := 13) (r := (RX13, TX13, 12)) (w' := Wc_250) Wn_249 rfl M.1 (by decide +kernel) M.2.1 rfl (z_wi 1516 (by decide +kernel) rfl) (z_wi 1517 (by decide +kernel) rfl) (z_wi 167 (by decide +kernel) rfl) (by decide) (by decide) ?_
  refine z_go2 M.1 93 [(.dup, 1)] (94, [(0, z_r 78)], [z_r 110, z_r 110, z_r 78], Wc_250, 32, 14544) (by decide +kernel) rfl ⟨rfl, trivial⟩ ?_
  refine z_callI M.1 (av := []) (st := [z_r 110, z_r 78]) (a := 110) (by decide +kernel) ci_250_MW_init M.2.1 zl_M_33 rfl rfl zi_MW_init ⟨by decide, by decide, by decide, by decide⟩ rfl (Nat.le_of_ble_eq_true rfl) (fun v w' hv => ?_)
  obtain ⟨rfl, rfl⟩ := hv
  show z_G X zm_M_init (97, [(0, z_r 78)], [z_r 110, z_r 78], Wc_272, 43, 17598)
  refine z_putFC (idx := 41) (ci := 14) (j := 12) (kd := 1) (w' := Wc_273) rfl M.1 (by decide +kernel) (by decide) rfl (fun r h => by injection h with h; subst h; rfl) (by decide +kernel) trivial ?_
  refine z_go2 M.1 100 [(.aload_n 0, 1), (.sipush 1200, 3)] (104, [(0, z_r 78)], [.inl 1200, z_r 78], Wc_273, 43, 17598) (by decide +kernel) rfl ⟨trivial, trivial, trivial⟩ ?_
  refine z_newaC (n := 122) (aty := .int) (N := 1200) (w' := Wc_274) Wn_273 rfl M.1 (by decide +kernel) M.2.1 (z_wi 235 (by decide +kernel) rfl) (by decide) (by decide) (by decide) (by decide) (by decide) ?_
  refine z_putFC (idx := 44) (ci := 14) (j := 14) (kd := 1) (w' := Wc_275) rfl M.1 (by decide +kernel) (by decide) rfl (fun r h => by injection h with h; subst h; rfl) (by decide +kernel) trivial ?_
  refine z_go2 M.1 109 [(.aload_n 0, 1), (.sipush 1200, 3)] (113, [(0, z_r 78)], [.inl 1200, z_r 78], Wc_275, 44, 18798) (by decide +kernel) rfl ⟨trivial, trivial, trivial⟩ ?_
  refine z_newaC (n := 123) (aty := .int) (N := 1200) (w' := Wc_276) Wn_275 rfl M.1 (by decide +kernel) M.2.1 (z_wi 235 (by decide +kernel) rfl) (by decide) (by decide) (by decide) (by decide) (by decide) ?_
  refine z_putFC (idx := 47) (ci := 14) (j := 15) (kd := 1) (w' := Wc_277) rfl M.1 (by decide +kernel) (by decide) rfl (fun r h => by injection h with h; subst h; rfl) (by decide +kernel) trivial ?_
  refine z_go2 M.1 118 [(.aload_n 0, 1), (.iconst 3, 1)] (120, [(0, z_r 78)], [.inl 3, z_r 78], Wc_277, 45, 19998) (by decide +kernel) rfl ⟨trivial, trivial, trivial⟩ ?_
  refine z_newaC (n := 124) (aty := .int) (N := 3) (w' := Wc_278) Wn_277 rfl M.1 (by decide +kernel) M.2.1 (z_wi 235 (by decide +kernel) rfl) (by decide) (by decide) (by decide) (by decide) (by decide) ?_
  refine z_go2 M.1 122 [(.dup, 1), (.iconst 0, 1), (.bipush 15, 2)] (126, [(0, z_r 78)], [.inl 15, .inl 0, z_r 124, z_r 124, z_r 78], Wc_278, 46, 20001) (by decide +kernel) rfl ⟨rfl, trivial, trivial, trivial⟩ ?_
  refine z_iastC (len := 3) (w' := Wc_279) rfl M.1 (by decide +kernel) (by decide +kernel) (show vp_in 0 3 by unfold vp_in; decide) ?_
  refine z_go2 M.1 127 [(.dup, 1), (.iconst 1, 1), (.bipush 15, 2)] (131, [(0, z_r 78)], [.inl 15, .inl 1, z_r 124, z_r 124, z_r 78], Wc_279, 46, 20001) (by decide +kernel) rfl ⟨rfl, trivial, trivial, trivial⟩ ?_
  refine z_iastC (len := 3) (w' := Wc_280) rfl M.1 (by decide +kernel) (by decide +kernel) (show vp_in 1 3 by unfold vp_in; decide) ?_
  refine z_go2 M.1 132 [(.dup, 1), (.iconst 2, 1), (.bipush 15, 2)] (136, [(0, z_r 78)], [.inl 15, .inl 2, z_r 124, z_r 124, z_r 78], Wc_280, 46, 20001) (by decide +kernel) rfl ⟨rfl, trivial, trivial, trivial⟩ ?_
  refine z_iastC (len := 3) (w' := Wc_281) rfl M.1 (by decide +kernel) (by decide +kernel) (show vp_in 2 3 by unfold vp_in; decide) ?_
  refine z_putFC (idx := 50) (ci := 14) (j := 17) (kd := 1) (w' := Wc_282) rfl M.1 (by decide +kernel) (by decide) rfl (fun r h => by injection h with h; subst h; rfl) (by decide +kernel) trivial ?_
  refine z_go2 M.1 140 [(.aload_n 0, 1), (.iconst 3, 1)] (142, [(0, z_r 78)], [.inl 3, z_r 78], Wc_282, 46, 20001) (by decide +kernel) rfl ⟨trivial, trivial, trivial⟩ ?_
  refine z_newaC (n := 125) (aty := .int) (N := 3) (w' := Wc_283) Wn_282 rfl M.1 (by decide +kernel) M.2.1 (z_wi 235 (by decide +kernel) rfl) (by decide) (by decide) (by decide) (by decide) (by decide) ?_
  refine z_go2 M.1 144 [(.dup, 1), (.iconst 0, 1), (.bipush 15, 2)] (148, [(0, z_r 78)], [.inl 15, .inl 0, z_r 125, z_r 125, z_r 78], Wc_283, 47, 20004) (by decide +kernel) rfl ⟨rfl, trivial, trivial, trivial⟩ ?_
  refine z_iastC (len := 3) (w' := Wc_284) rfl M.1 (by decide +kernel) (by decide +kernel) (show vp_in 0 3 by unfold vp_in; decide) ?_
  refine z_go2 M.1 149 [(.dup, 1), (.iconst 1, 1), (.bipush 15, 2)] (153, [(0, z_r 78)], [.inl 15, .inl 1, z_r 125, z_r 125, z_r 78], Wc_284, 47, 20004) (by decide +kernel) rfl ⟨rfl, trivial, trivial, trivial⟩ ?_
  refine z_iastC (len := 3) (w' := Wc_285) rfl M.1 (by decide +kernel) (by decide +kernel) (show vp_in 1 3 by unfold vp_in; decide) ?_
  refine z_go2 M.1 154 [(.dup, 1), (.iconst 2, 1), (.bipush 15, 2)] (158, [(0, z_r 78)], [.inl 15, .inl 2, z_r 125, z_r 125, z_r 78], Wc_285, 47, 20004) (by decide +kernel) rfl ⟨rfl, trivial, trivial, trivial⟩ ?_
  refine z_iastC (len := 3) (w' := Wc_286) rfl M.1 (by decide +kernel) (by decide +kernel) (show vp_in 2 3 by unfold vp_in; decide) ?_
  refine z_putFC (idx := 53) (ci := 14) (j := 18) (kd := 1) (w' := Wc_287) rfl M.1 (by decide +kernel) (by decide) rfl (fun r h => by injection h with h; subst h; rfl) (by decide +kernel) trivial ?_
  refine z_go2 M.1 162 [(.aload_n 0, 1), (.iconst 3, 1)] (164, [(0, z_r 78)], [.inl 3, z_r 78], Wc_287, 47, 20004) (by decide +kernel) rfl ⟨trivial, trivial, trivial⟩ ?_
  refine z_newaC (n := 126) (aty := .int) (N := 3) (w' := Wc_288) Wn_287 rfl M.1 (by decide +kernel) M.2.1 (z_wi 235 (by decide +kernel) rfl) (by decide) (by decide) (by decide) (by decide) (by decide) ?_
  refine z_go2 M.1 166 [(.dup, 1), (.iconst 0, 1), (.bipush 15, 2)] (170, [(0, z_r 78)], [.inl 15, .inl 0, z_r 126, z_r 126, z_r 78], Wc_288, 48, 20007) (by decide +kernel) rfl ⟨rfl, trivial, trivial, trivial⟩ ?_
  refine z_iastC (len := 3) (w' := Wc_289) rfl M.1 (by decide +kernel) (by decide +kernel) (show vp_in 0 3 by unfold vp_in; decide) ?_
  refine z_go2 M.1 171 [(.dup, 1), (.iconst 1, 1), (.bipush 15, 2)] (175, [(0, z_r 78)], [.inl 15, .inl 1, z_r 126, z_r 126, z_r 78], Wc_289, 48, 20007) (by decide +kernel) rfl ⟨rfl, trivial, trivial, trivial⟩ ?_
  refine z_iastC (len := 3) (w' := Wc_290) rfl M.1 (by decide +kernel) (by decide +kernel) (show vp_in 1 3 by unfold vp_in; decide) ?_
  refine z_go2 M.1 176 [(.dup, 1), (.iconst 2, 1), (.bipush 15, 2)] (180, [(0, z_r 78)], [.inl 15, .inl 2, z_r 126, z_r 126, z_r 78], Wc_290, 48, 20007) (by decide +kernel) rfl ⟨rfl, trivial, trivial, trivial⟩ ?_
  refine z_iastC (len := 3) (w' := Wc_291) rfl M.1 (by decide +kernel) (by decide +kernel) (show vp_in 2 3 by unfold vp_in; decide) ?_
  refine z_putFC (idx := 56) (ci := 14) (j := 19) (kd := 1) (w' := Wc_292) rfl M.1 (by decide +kernel) (by decide) rfl (fun r h => by injection h with h; subst h; rfl) (by decide +kernel) trivial ?_
  refine z_go2 M.1 184 [(.aload_n 0, 1), (.iconst 4, 1)] (186, [(0, z_r 78)], [.inl 4, z_r 78], Wc_292, 48, 20007) (by decide +kernel) rfl ⟨trivial, trivial, trivial⟩ ?_
  refine z_newaC (n := 127) (aty := .int) (N := 4) (w' := Wc_293) Wn_292 rfl M.1 (by decide +kernel) M.2.1 (z_wi 235 (by decide +kernel) rfl) (by decide) (by decide) (by decide) (by decide) (by decide) ?_
  refine z_go2 M.1 188 [(.dup, 1), (.iconst 0, 1), (.bipush 15, 2)] (192, [(0, z_r 78)], [.inl 15, .inl 0, z_r 127, z_r 127, z_r 78], Wc_293, 49, 20011) (by decide +kernel) rfl ⟨rfl, trivial, trivial, trivial⟩ ?_
  refine z_iastC (len := 4) (w' := Wc_294) rfl M.1 (by decide +kernel) (by decide +kernel) (show vp_in 0 4 by unfold vp_in; decide) ?_
  refine z_go2 M.1 193 [(.dup, 1), (.iconst 1, 1), (.bipush 15, 2)] (197, [(0, z_r 78)], [.inl 15, .inl 1, z_r 127, z_r 127, z_r 78], Wc_294, 49, 20011) (by decide +kernel) rfl ⟨rfl, trivial, trivial, trivial⟩ ?_
  refine z_iastC (len := 4) (w' := Wc_295) rfl M.1 (by decide +kernel) (by decide +kernel) (show vp_in 1 4 by unfold vp_in; decide) ?_
  refine z_go2 M.1 198 [(.dup, 1), (.iconst 2, 1), (.bipush 15, 2)] (202, [(0, z_r 78)], [.inl 15, .inl 2, z_r 127, z_r 127, z_r 78], Wc_295, 49, 20011) (by decide +kernel) rfl ⟨rfl, trivial, trivial, trivial⟩ ?_
  refine z_iastC (len := 4) (w' := Wc_296) rfl M.1 (by decide +kernel) (by decide +kernel) (show vp_in 2 4 by unfold vp_in; decide) ?_
  refine z_go2 M.1 203 [(.dup, 1), (.iconst 3, 1), (.bipush 15, 2)] (207, [(0, z_r 78)], [.inl 15, .inl 3, z_r 127, z_r 127, z_r 78], Wc_296, 49, 20011) (by decide +kernel) rfl ⟨rfl, trivial, trivial, trivial⟩ ?_
  refine z_iastC (len := 4) (w' := Wc_297) rfl M.1 (by decide +kernel) (by decide +kernel) (show vp_in 3 4 by unfold vp_in; decide) ?_
  refine z_putFC (idx := 59) (ci := 14) (j := 20) (kd := 1) (w' := Wc_298) rfl M.1 (by decide +kernel) (by decide) rfl (fun r h => by injection h with h; subst h; rfl) (by decide +kernel) trivial ?_
  refine z_go2 M.1 211 [(.aload_n 0, 1), (.iconst 3, 1)] (213, [(0, z_r 78)], [.inl 3, z_r 78], Wc_298, 49, 20011) (by decide +kernel) rfl ⟨trivial, trivial, trivial⟩ ?_
  refine z_newaC (n := 128) (aty := .int) (N := 3) (w' := Wc_299) Wn_298 rfl M.1 (by decide +kernel) M.2.1 (z_wi 235 (by decide +kernel) rfl) (by decide) (by decide) (by decide) (by decide) (by decide) ?_
  refine z_go2 M.1 215 [(.dup, 1), (.iconst 0, 1), (.bipush 7, 2)] (219, [(0, z_r 78)], [.inl 7, .inl 0, z_r 128, z_r 128, z_r 78], Wc_299, 50, 20014) (by decide +kernel) rfl ⟨rfl, trivial, trivial, trivial⟩ ?_
  refine z_iastC (len := 3) (w' := Wc_300) rfl M.1 (by decide +kernel) (by decide +kernel) (show vp_in 0 3 by unfold vp_in; decide) ?_
  refine z_go2 M.1 220 [(.dup, 1), (.iconst 1, 1), (.bipush 7, 2)] (224, [(0, z_r 78)], [.inl 7, .inl 1, z_r 128, z_r 128, z_r 78], Wc_300, 50, 20014) (by decide +kernel) rfl ⟨rfl, trivial, trivial, trivial⟩ ?_
  refine z_iastC (len := 3) (w' := Wc_301) rfl M.1 (by decide +kernel) (by decide +kernel) (show vp_in 1 3 by unfold vp_in; decide) ?_
  refine z_go2 M.1 225 [(.dup, 1), (.iconst 2, 1), (.bipush 7, 2)] (229, [(0, z_r 78)], [.inl 7, .inl 2, z_r 128, z_r 128, z_r 78], Wc_301, 50, 20014) (by decide +kernel) rfl ⟨rfl, trivial, trivial, trivial⟩ ?_
  refine z_iastC (len := 3) (w' := Wc_302) rfl M.1 (by decide +kernel) (by decide +kernel) (show vp_in 2 3 by unfold vp_in; decide) ?_
  refine z_putFC (idx := 62) (ci := 14) (j := 21) (kd := 1) (w' := Wc_303) rfl M.1 (by decide +kernel) (by decide) rfl (fun r h => by injection h with h; subst h; rfl) (by decide +kernel) trivial ?_
  refine z_go2 M.1 233 [(.aload_n 0, 1), (.iconst 3, 1)] (235, [(0, z_r 78)], [.inl 3, z_r 78], Wc_303, 50, 20014) (by decide +kernel) rfl ⟨trivial, trivial, trivial⟩ ?_
  refine z_newaC (n := 129) (aty := .int) (N := 3) (w' := Wc_304) Wn_303 rfl M.1 (by decide +kernel) M.2.1 (z_wi 235 (by decide +kernel) rfl) (by decide) (by decide) (by decide) (by decide) (by decide) ?_
  refine z_go2 M.1 237 [(.dup, 1), (.iconst 0, 1), (.iconst (-1), 1)] (240, [(0, z_r 78)], [.inl (-1), .inl 0, z_r 129, z_r 129, z_r 78], Wc_304, 51, 20017) (by decide +kernel) rfl ⟨rfl, trivial, trivial, trivial⟩ ?_
  refine z_iastC (len := 3) (w' := Wc_305) rfl M.1 (by decide +kernel) (by decide +kernel) (show vp_in 0 3 by unfold vp_in; decide) ?_
  refine z_go2 M.1 241 [(.dup, 1), (.iconst 1, 1), (.iconst (-1), 1)] (244, [(0, z_r 78)], [.inl (-1), .inl 1, z_r 129, z_r 129, z_r 78], Wc_305, 51, 20017) (by decide +kernel) rfl ⟨rfl, trivial, trivial, trivial⟩ ?_
  refine z_iastC (len := 3) (w' := Wc_306) rfl M.1 (by decide +kernel) (by decide +kernel) (show vp_in 1 3 by unfold vp_in; decide) ?_
  refine z_go2 M.1 245 [(.dup, 1), (.iconst 2, 1), (.iconst (-1), 1)] (248, [(0, z_r 78)], [.inl (-1), .inl 2, z_r 129, z_r 129, z_r 78], Wc_306, 51, 20017) (by decide +kernel) rfl ⟨rfl, trivial, trivial, trivial⟩ ?_
  refine z_iastC (len := 3) (w' := Wc_307) rfl M.1 (by decide +kernel) (by decide +kernel) (show vp_in 2 3 by unfold vp_in; decide) ?_
  refine z_putFC (idx := 65) (ci := 14) (j := 22) (kd := 1) (w' := Wc_308) rfl M.1 (by decide +kernel) (by decide) rfl (fun r h => by injection h with h; subst h; rfl) (by decide +kernel) trivial ?_
  refine z_go2 M.1 252 [(.aload_n 0, 1), (.iconst 3, 1)] (254, [(0, z_r 78)], [.inl 3, z_r 78], Wc_308, 51, 20017) (by decide +kernel) rfl ⟨trivial, trivial, trivial⟩ ?_
  refine z_newaC (n := 130) (aty := .int) (N := 3) (w' := Wc_309) Wn_308 rfl M.1 (by decide +kernel) M.2.1 (z_wi 235 (by decide +kernel) rfl) (by decide) (by decide) (by decide) (by decide) (by decide) ?_
  refine z_putFC (idx := 68) (ci := 14) (j := 23) (kd := 1) (w' := Wc_310) rfl M.1 (by decide +kernel) (by decide) rfl (fun r h => by injection h with h; subst h; rfl) (by decide +kernel) trivial ?_
  refine z_go2 M.1 259 [(.aload_n 0, 1), (.iconst 3, 1)] (261, [(0, z_r 78)], [.inl 3, z_r 78], Wc_310, 52, 20020) (by decide +kernel) rfl ⟨trivial, trivial, trivial⟩ ?_
  refine z_anewC (idx := 71) (n := 131) (N := 3) (w' := Wc_311) Wn_310 rfl M.1 (by decide +kernel) M.2.1 (z_wi 1571 (by decide +kernel) rfl) (by decide) (by decide) (by decide) (by decide) (by decide) ?_
  refine z_go2 M.1 264 [(.dup, 1), (.iconst 0, 1)] (266, [(0, z_r 78)], [.inl 0, z_r 131, z_r 131, z_r 78], Wc_311, 53, 20023) (by decide +kernel) rfl ⟨rfl, trivial, trivial⟩ ?_
  refine z_newC (idx := 71) (n := 132) (ci := 12) (r := (RX12, TX12, 9)) (w' := Wc_312) Wn_311 rfl M.1 (by decide +kernel) M.2.1 rfl (z_wi 1571 (by decide +kernel) rfl) (z_wi 1573 (by decide +kernel) rfl) (z_wi 168 (by decide +kernel) rfl) (by decide) (by decide) ?_
  refine z_go2 M.1 269 [(.dup, 1)] (270, [(0, z_r 78)], [z_r 132, z_r 132, .inl 0, z_r 131, z_r 131, z_r 78], Wc_312, 54, 20032) (by decide +kernel) rfl ⟨rfl, trivial⟩ ?_
  refine z_callI M.1 (av := []) (st := [z_r 132, .inl 0, z_r 131, z_r 131, z_r 78]) (a := 132) (by decide +kernel) ci_312_MF_init M.2.1 zl_M_73 rfl rfl zi_MF_init ⟨by decide, by decide, by decide, by decide⟩ rfl (Nat.le_of_ble_eq_true rfl) (fun v w' hv => ?_)
  obtain ⟨rfl, rfl⟩ := hv
  show z_G X zm_M_init (273, [(0, z_r 78)], [z_r 132, .inl 0, z_r 131, z_r 131, z_r 78], Wc_327, 61, 20086)
  refine z_aastC (len := 3) (w' := Wc_328) rfl M.1 (by decide +kernel) (by decide +kernel) (show vp_in 0 3 by unfold vp_in; decide) (by decide +kernel) ?_
  refine z_go2 M.1 274 [(.dup, 1), (.iconst 1, 1)] (276, [(0, z_r 78)], [.inl 1, z_r 131, z_r 131, z_r 78], Wc_328, 61, 20086) (by decide +kernel) rfl ⟨rfl, trivial, trivial⟩ ?_
  refine z_newC (idx := 71) (n := 140) (ci := 12) (r := (RX12, TX12, 9)) (w' := Wc_329) Wn_328 rfl M.1 (by decide +kernel) M.2.1 rfl (z_wi 1571 (by decide +kernel) rfl) (z_wi 1573 (by decide +kernel) rfl) (z_wi 168 (by decide +kernel) rfl) (by decide) (by decide) ?_
  refine z_go2 M.1 279 [(.dup, 1)] (280, [(0, z_r 78)], [z_r 140, z_r 140, .inl 1, z_r 131, z_r 131, z_r 78], Wc_329, 62, 20095) (by decide +kernel) rfl ⟨rfl, trivial⟩ ?_
  refine z_callI M.1 (av := []) (st := [z_r 140, .inl 1, z_r 131, z_r 131, z_r 78]) (a := 140) (by decide +kernel) ci_329_MF_init M.2.1 zl_M_73 rfl rfl zi_MF_init ⟨by decide, by decide, by decide, by decide⟩ rfl (Nat.le_of_ble_eq_true rfl) (fun v w' hv => ?_)
  obtain ⟨rfl, rfl⟩ := hv
  show z_G X zm_M_init (283, [(0, z_r 78)], [z_r 140, .inl 1, z_r 131, z_r 131, z_r 78], Wc_344, 69, 20149)
  refine z_aastC (len := 3) (w' := Wc_345) rfl M.1 (by decide +kernel) (by decide +kernel) (show vp_in 1 3 by unfold vp_in; decide) (by decide +kernel) ?_
  refine z_go2 M.1 284 [(.dup, 1), (.iconst 2, 1)] (286, [(0, z_r 78)], [.inl 2, z_r 131, z_r 131, z_r 78], Wc_345, 69, 20149) (by decide +kernel) rfl ⟨rfl, trivial, trivial⟩ ?_
  refine z_newC (idx := 71) (n := 148) (ci := 12) (r := (RX12, TX12, 9)) (w' := Wc_346) Wn_345 rfl M.1 (by decide +kernel) M.2.1 rfl (z_wi 1571 (by decide +kernel) rfl) (z_wi 1573 (by decide +kernel) rfl) (z_wi 168 (by decide +kernel) rfl) (by decide) (by decide) ?_
  refine z_go2 M.1 289 [(.dup, 1)] (290, [(0, z_r 78)], [z_r 148, z_r 148, .inl 2, z_r 131, z_r 131, z_r 78], Wc_346, 70, 20158) (by decide +kernel) rfl ⟨rfl, trivial⟩ ?_
  refine z_callI M.1 (av := []) (st := [z_r 148, .inl 2, z_r 131, z_r 131, z_r 78]) (a := 148) (by decide +kernel) ci_346_MF_init M.2.1 zl_M_73 rfl rfl zi_MF_init ⟨by decide, by decide, by decide, by decide⟩ rfl (Nat.le_of_ble_eq_true rfl) (fun v w' hv => ?_)
  obtain ⟨rfl, rfl⟩ := hv
  show z_G X zm_M_init (293, [(0, z_r 78)], [z_r 148, .inl 2, z_r 131, z_r 131, z_r 78], Wc_361, 77, 20212)
  refine z_aastC (len := 3) (w' := Wc_362) rfl M.1 (by decide +kernel) (by decide +kernel) (show vp_in 2 3 by unfold vp_in; decide) (by decide +kernel) ?_
  refine z_putFC (idx := 74) (ci := 14) (j := 24) (kd := 1) (w' := Wc_363) rfl M.1 (by decide +kernel) (by decide) rfl (fun r h => by injection h with h; subst h; rfl) (by decide +kernel) trivial ?_
  refine z_go2 M.1 297 [(.aload_n 0, 1)] (298, [(0, z_r 78)], [z_r 78], Wc_363, 77, 20212) (by decide +kernel) rfl ⟨trivial, trivial⟩ ?_
  refine z_newC (idx := 71) (n := 156) (ci := 12) (r := (RX12, TX12, 9)) (w' := Wc_364) Wn_363 rfl M.1 (by decide +kernel) M.2.1 rfl (z_wi 1571 (by decide +kernel) rfl) (z_wi 1573 (by decide +kernel) rfl) (z_wi 168 (by decide +kernel) rfl) (by decide) (by decide) ?_
  refine z_go2 M.1 301 [(.dup, 1)] (302, [(0, z_r 78)], [z_r 156, z_r 156, z_r 78], Wc_364, 78, 20221) (by decide +kernel) rfl ⟨rfl, trivial⟩ ?_
  refine z_callI M.1 (av := []) (st := [z_r 156, z_r 78]) (a := 156) (by decide +kernel) ci_364_MF_init M.2.1 zl_M_73 rfl rfl zi_MF_init ⟨by decide, by decide, by decide, by decide⟩ rfl (Nat.le_of_ble_eq_true rfl) (fun v w' hv => ?_)
  obtain ⟨rfl, rfl⟩ := hv
  show z_G X zm_M_init (305, [(0, z_r 78)], [z_r 156, z_r 78], Wc_379, 85, 20275)
  refine z_putFC (idx := 78) (ci := 14) (j := 25) (kd := 1) (w' := Wc_380) rfl M.1 (by decide +kernel) (by decide) rfl (fun r h => by injection h with h; subst h; rfl) (by decide +kernel) trivial ?_
  refine z_go2 M.1 308 [(.aload_n 0, 1), (.iconst (-1), 1)] (310, [(0, z_r 78)], [.inl (-1), z_r 78], Wc_380, 85, 20275) (by decide +kernel) rfl ⟨trivial, trivial, trivial⟩ ?_
  refine z_putC (idx := 82) (ci := 14) (j := 26) (kd := 0) (w' := Wc_381) rfl M.1 (by decide +kernel) (by decide) (by decide +kernel) trivial ?_
  refine z_go2 M.1 313 [(.aload_n 0, 1), (.iconst 3, 1)] (315, [(0, z_r 78)], [.inl 3, z_r 78], Wc_381, 85, 20275) (by decide +kernel) rfl ⟨trivial, trivial, trivial⟩ ?_
  refine z_newaC (n := 164) (aty := .int) (N := 3) (w' := Wc_382) Wn_381 rfl M.1 (by decide +kernel) M.2.1 (z_wi 235 (by decide +kernel) rfl) (by decide) (by decide) (by decide) (by decide) (by decide) ?_
  refine z_go2 M.1 317 [(.dup, 1), (.iconst 0, 1), (.iconst (-1), 1)] (320, [(0, z_r 78)], [.inl (-1), .inl 0, z_r 164, z_r 164, z_r 78], Wc_382, 86, 20278) (by decide +kernel) rfl ⟨rfl, trivial, trivial, trivial⟩ ?_
  refine z_iastC (len := 3) (w' := Wc_383) rfl M.1 (by decide +kernel) (by decide +kernel) (show vp_in 0 3 by unfold vp_in; decide) ?_
  refine z_go2 M.1 321 [(.dup, 1), (.iconst 1, 1), (.iconst (-1), 1)] (324, [(0, z_r 78)], [.inl (-1), .inl 1, z_r 164, z_r 164, z_r 78], Wc_383, 86, 20278) (by decide +kernel) rfl ⟨rfl, trivial, trivial, trivial⟩ ?_
  refine z_iastC (len := 3) (w' := Wc_384) rfl M.1 (by decide +kernel) (by decide +kernel) (show vp_in 1 3 by unfold vp_in; decide) ?_
  refine z_go2 M.1 325 [(.dup, 1), (.iconst 2, 1), (.iconst (-1), 1)] (328, [(0, z_r 78)], [.inl (-1), .inl 2, z_r 164, z_r 164, z_r 78], Wc_384, 86, 20278) (by decide +kernel) rfl ⟨rfl, trivial, trivial, trivial⟩ ?_
  refine z_iastC (len := 3) (w' := Wc_385) rfl M.1 (by decide +kernel) (by decide +kernel) (show vp_in 2 3 by unfold vp_in; decide) ?_
  refine z_putFC (idx := 86) (ci := 14) (j := 27) (kd := 1) (w' := Wc_386) rfl M.1 (by decide +kernel) (by decide) rfl (fun r h => by injection h with h; subst h; rfl) (by decide +kernel) trivial ?_
  refine z_go2 M.1 332 [(.aload_n 0, 1), (.iconst 3, 1)] (334, [(0, z_r 78)], [.inl 3, z_r 78], Wc_386, 86, 20278) (by decide +kernel) rfl ⟨trivial, trivial, trivial⟩ ?_
  refine z_newaC (n := 165) (aty := .int) (N := 3) (w' := Wc_387) Wn_386 rfl M.1 (by decide +kernel) M.2.1 (z_wi 235 (by decide +kernel) rfl) (by decide) (by decide) (by decide) (by decide) (by decide) ?_
  refine z_putFC (idx := 89) (ci := 14) (j := 28) (kd := 1) (w' := Wc_388) rfl M.1 (by decide +kernel) (by decide) rfl (fun r h => by injection h with h; subst h; rfl) (by decide +kernel) trivial ?_
  refine z_go2 M.1 339 [(.aload_n 0, 1), (.iconst 3, 1)] (341, [(0, z_r 78)], [.inl 3, z_r 78], Wc_388, 87, 20281) (by decide +kernel) rfl ⟨trivial, trivial, trivial⟩ ?_
  refine z_newaC (n := 166) (aty := .int) (N := 3) (w' := Wc_389) Wn_388 rfl M.1 (by decide +kernel) M.2.1 (z_wi 235 (by decide +kernel) rfl) (by decide) (by decide) (by decide) (by decide) (by decide) ?_
  refine z_putFC (idx := 92) (ci := 14) (j := 29) (kd := 1) (w' := Wc_390) rfl M.1 (by decide +kernel) (by decide) rfl (fun r h => by injection h with h; subst h; rfl) (by decide +kernel) trivial ?_
  refine z_go2 M.1 346 [(.aload_n 0, 1), (.bipush 30, 2)] (349, [(0, z_r 78)], [.inl 30, z_r 78], Wc_390, 88, 20284) (by decide +kernel) rfl ⟨trivial, trivial, trivial⟩ ?_
  refine z_newaC (n := 167) (aty := .int) (N := 30) (w' := Wc_391) Wn_390 rfl M.1 (by decide +kernel) M.2.1 (z_wi 235 (by decide +kernel) rfl) (by decide) (by decide) (by decide) (by decide) (by decide) ?_
  refine z_putFC (idx := 95) (ci := 14) (j := 30) (kd := 1) (w' := Wc_392) rfl M.1 (by decide +kernel) (by decide) rfl (fun r h => by injection h with h; subst h; rfl) (by decide +kernel) trivial ?_
  refine z_go2 M.1 354 [(.aload_n 0, 1), (.bipush 6, 2)] (357, [(0, z_r 78)], [.inl 6, z_r 78], Wc_392, 89, 20314) (by decide +kernel) rfl ⟨trivial, trivial, trivial⟩ ?_
  refine z_newaC (n := 168) (aty := .int) (N := 6) (w' := Wc_393) Wn_392 rfl M.1 (by decide +kernel) M.2.1 (z_wi 235 (by decide +kernel) rfl) (by decide) (by decide) (by decide) (by decide) (by decide) ?_
  refine z_putFC (idx := 98) (ci := 14) (j := 32) (kd := 1) (w' := Wc_394) rfl M.1 (by decide +kernel) (by decide) rfl (fun r h => by injection h with h; subst h; rfl) (by decide +kernel) trivial ?_
  refine z_go2 M.1 362 [(.aload_n 0, 1), (.bipush 6, 2)] (365, [(0, z_r 78)], [.inl 6, z_r 78], Wc_394, 90, 20320) (by decide +kernel) rfl ⟨trivial, trivial, trivial⟩ ?_
  refine z_newaC (n := 169) (aty := .int) (N := 6) (w' := Wc_395) Wn_394 rfl M.1 (by decide +kernel) M.2.1 (z_wi 235 (by decide +kernel) rfl) (by decide) (by decide) (by decide) (by decide) (by decide) ?_
  refine z_putFC (idx := 101) (ci := 14) (j := 33) (kd := 1) (w' := Wc_396) rfl M.1 (by decide +kernel) (by decide) rfl (fun r h => by injection h with h; subst h; rfl) (by decide +kernel) trivial ?_
  refine z_go2 M.1 370 [(.aload_n 0, 1), (.bipush 6, 2)] (373, [(0, z_r 78)], [.inl 6, z_r 78], Wc_396, 91, 20326) (by decide +kernel) rfl ⟨trivial, trivial, trivial⟩ ?_
  refine z_newaC (n := 170) (aty := .int) (N := 6) (w' := Wc_397) Wn_396 rfl M.1 (by decide +kernel) M.2.1 (z_wi 235 (by decide +kernel) rfl) (by decide) (by decide) (by decide) (by decide) (by decide) ?_
  refine z_putFC (idx := 104) (ci := 14) (j := 34) (kd := 1) (w' := Wc_398) rfl M.1 (by decide +kernel) (by decide) rfl (fun r h => by injection h with h; subst h; rfl) (by decide +kernel) trivial ?_
  refine z_go2 M.1 378 [(.aload_n 0, 1), (.bipush 6, 2)] (381, [(0, z_r 78)], [.inl 6, z_r 78], Wc_398, 92, 20332) (by decide +kernel) rfl ⟨trivial, trivial, trivial⟩ ?_
  refine z_newaC (n := 171) (aty := .int) (N := 6) (w' := Wc_399) Wn_398 rfl M.1 (by decide +kernel) M.2.1 (z_wi 235 (by decide +kernel) rfl) (by decide) (by decide) (by decide) (by decide) (by decide) ?_
  refine z_putFC (idx := 107) (ci := 14) (j := 35) (kd := 1) (w' := Wc_400) rfl M.1 (by decide +kernel) (by decide) rfl (fun r h => by injection h with h; subst h; rfl) (by decide +kernel) trivial ?_
  refine z_go2 M.1 386 [(.aload_n 0, 1), (.bipush 6, 2)] (389, [(0, z_r 78)], [.inl 6, z_r 78], Wc_400, 93, 20338) (by decide +kernel) rfl ⟨trivial, trivial, trivial⟩ ?_
  refine z_newaC (n := 172) (aty := .int) (N := 6) (w' := Wc_401) Wn_400 rfl M.1 (by decide +kernel) M.2.1 (z_wi 235 (by decide +kernel) rfl) (by decide) (by decide) (by decide) (by decide) (by decide) ?_
  refine z_putFC (idx := 110) (ci := 14) (j := 36) (kd := 1) (w' := Wc_402) rfl M.1 (by decide +kernel) (by decide) rfl (fun r h => by injection h with h; subst h; rfl) (by decide +kernel) trivial ?_
  refine z_go2 M.1 394 [(.aload_n 0, 1), (.bipush 6, 2)] (397, [(0, z_r 78)], [.inl 6, z_r 78], Wc_402, 94, 20344) (by decide +kernel) rfl ⟨trivial, trivial, trivial⟩ ?_
  refine z_newaC (n := 173) (aty := .int) (N := 6) (w' := Wc_403) Wn_402 rfl M.1 (by decide +kernel) M.2.1 (z_wi 235 (by decide +kernel) rfl) (by decide) (by decide) (by decide) (by decide) (by decide) ?_
  refine z_putFC (idx := 113) (ci := 14) (j := 37) (kd := 1) (w' := Wc_404) rfl M.1 (by decide +kernel) (by decide) rfl (fun r h => by injection h with h; subst h; rfl) (by decide +kernel) trivial ?_
  refine z_go2 M.1 402 [(.aload_n 0, 1), (.bipush 6, 2)] (405, [(0, z_r 78)], [.inl 6, z_r 78], Wc_404, 95, 20350) (by decide +kernel) rfl ⟨trivial, trivial, trivial⟩ ?_
  refine z_newaC (n := 174) (aty := .int) (N := 6) (w' := Wc_405) Wn_404 rfl M.1 (by decide +kernel) M.2.1 (z_wi 235 (by decide +kernel) rfl) (by decide) (by decide) (by decide) (by decide) (by decide) ?_
  refine z_putFC (idx := 116) (ci := 14) (j := 38) (kd := 1) (w' := Wc_406) rfl M.1 (by decide +kernel) (by decide) rfl (fun r h => by injection h with h; subst h; rfl) (by decide +kernel) trivial ?_
  refine z_go2 M.1 410 [(.aload_n 0, 1), (.bipush 6, 2)] (413, [(0, z_r 78)], [.inl 6, z_r 78], Wc_406, 96, 20356) (by decide +kernel) rfl ⟨trivial, trivial, trivial⟩ ?_
  refine z_newaC (n := 175) (aty := .int) (N := 6) (w' := Wc_407) Wn_406 rfl M.1 (by decide +kernel) M.2.1 (z_wi 235 (by decide +kernel) rfl) (by decide) (by decide) (by decide) (by decide) (by decide) ?_
  refine z_putFC (idx := 119) (ci := 14) (j := 39) (kd := 1) (w' := Wc_408) rfl M.1 (by decide +kernel) (by decide) rfl (fun r h => by injection h with h; subst h; rfl) (by decide +kernel) trivial ?_
  refine z_go2 M.1 418 [(.aload_n 0, 1), (.bipush 6, 2)] (421, [(0, z_r 78)], [.inl 6, z_r 78], Wc_408, 97, 20362) (by decide +kernel) rfl ⟨trivial, trivial, trivial⟩ ?_
  refine z_newaC (n := 176) (aty := .int) (N := 6) (w' := Wc_409) Wn_408 rfl M.1 (by decide +kernel) M.2.1 (z_wi 235 (by decide +kernel) rfl) (by decide) (by decide) (by decide) (by decide) (by decide) ?_
  refine z_putFC (idx := 122) (ci := 14) (j := 40) (kd := 1) (w' := Wc_410) rfl M.1 (by decide +kernel) (by decide) rfl (fun r h => by injection h with h; subst h; rfl) (by decide +kernel) trivial ?_
  refine z_go2 M.1 426 [(.aload_n 0, 1), (.sipush 600, 3)] (430, [(0, z_r 78)], [.inl 600, z_r 78], Wc_410, 98, 20368) (by decide +kernel) rfl ⟨trivial, trivial, trivial⟩ ?_
  refine z_newaC (n := 177) (aty := .int) (N := 600) (w' := Wc_411) Wn_410 rfl M.1 (by decide +kernel) M.2.1 (z_wi 235 (by decide +kernel) rfl) (by decide) (by decide) (by decide) (by decide) (by decide) ?_
  refine z_putFC (idx := 125) (ci := 14) (j := 42) (kd := 1) (w' := Wc_412) rfl M.1 (by decide +kernel) (by decide) rfl (fun r h => by injection h with h; subst h; rfl) (by decide +kernel) trivial ?_
  refine z_go2 M.1 435 [(.aload_n 0, 1), (.sipush 600, 3)] (439, [(0, z_r 78)], [.inl 600, z_r 78], Wc_412, 99, 20968) (by decide +kernel) rfl ⟨trivial, trivial, trivial⟩ ?_
  refine z_newaC (n := 178) (aty := .int) (N := 600) (w' := Wc_413) Wn_412 rfl M.1 (by decide +kernel) M.2.1 (z_wi 235 (by decide +kernel) rfl) (by decide) (by decide) (by decide) (by decide) (by decide) ?_
  refine z_putFC (idx := 128) (ci := 14) (j := 43) (kd := 1) (w' := Wc_414) rfl M.1 (by decide +kernel) (by decide) rfl (fun r h => by injection h with h; subst h; rfl) (by decide +kernel) trivial ?_
  refine z_go2 M.1 444 [(.aload_n 0, 1), (.sipush 600, 3)] (448, [(0, z_r 78)], [.inl 600, z_r 78], Wc_414, 100, 21568) (by decide +kernel) rfl ⟨trivial, trivial, trivial⟩ ?_
  refine z_newaC (n := 179) (aty := .int) (N := 600) (w' := Wc_415) Wn_414 rfl M.1 (by decide +kernel) M.2.1 (z_wi 235 (by decide +kernel) rfl) (by decide) (by decide) (by decide) (by decide) (by decide) ?_
  refine z_putFC (idx := 131) (ci := 14) (j := 44) (kd := 1) (w' := Wc_416) rfl M.1 (by decide +kernel) (by decide) rfl (fun r h => by injection h with h; subst h; rfl) (by decide +kernel) trivial ?_
  refine z_go2 M.1 453 [(.aload_n 0, 1), (.sipush 601, 3)] (457, [(0, z_r 78)], [.inl 601, z_r 78], Wc_416, 101, 22168) (by decide +kernel) rfl ⟨trivial, trivial, trivial⟩ ?_
  refine z_newaC (n := 180) (aty := .int) (N := 601) (w' := Wc_417) Wn_416 rfl M.1 (by decide +kernel) M.2.1 (z_wi 235 (by decide +kernel) rfl) (by decide) (by decide) (by decide) (by decide) (by decide) ?_
  refine z_putFC (idx := 134) (ci := 14) (j := 45) (kd := 1) (w' := Wc_418) rfl M.1 (by decide +kernel) (by decide) rfl (fun r h => by injection h with h; subst h; rfl) (by decide +kernel) trivial ?_
  refine z_go2 M.1 462 [(.aload_n 0, 1), (.sipush 2000, 3)] (466, [(0, z_r 78)], [.inl 2000, z_r 78], Wc_418, 102, 22769) (by decide +kernel) rfl ⟨trivial, trivial, trivial⟩ ?_
  refine z_newaC (n := 181) (aty := .int) (N := 2000) (w' := Wc_419) Wn_418 rfl M.1 (by decide +kernel) M.2.1 (z_wi 235 (by decide +kernel) rfl) (by decide) (by decide) (by decide) (by decide) (by decide) ?_
  refine z_putFC (idx := 137) (ci := 14) (j := 46) (kd := 1) (w' := Wc_420) rfl M.1 (by decide +kernel) (by decide) rfl (fun r h => by injection h with h; subst h; rfl) (by decide +kernel) trivial ?_
  refine z_go2 M.1 471 [(.aload_n 0, 1), (.sipush 2000, 3)] (475, [(0, z_r 78)], [.inl 2000, z_r 78], Wc_420, 103, 24769) (by decide +kernel) rfl ⟨trivial, trivial, trivial⟩ ?_
  refine z_newaC (n := 182) (aty := .int) (N := 2000) (w' := Wc_421) Wn_420 rfl M.1 (by decide +kernel) M.2.1 (z_wi 235 (by decide +kernel) rfl) (by decide) (by decide) (by decide) (by decide) (by decide) ?_
  refine z_putFC (idx := 140) (ci := 14) (j := 47) (kd := 1) (w' := Wc_422) rfl M.1 (by decide +kernel) (by decide) rfl (fun r h => by injection h with h; subst h; rfl) (by decide +kernel) trivial ?_
  refine z_go2 M.1 480 [(.aload_n 0, 1), (.sipush 240, 3)] (484, [(0, z_r 78)], [.inl 240, z_r 78], Wc_422, 104, 26769) (by decide +kernel) rfl ⟨trivial, trivial, trivial⟩ ?_
  refine z_newaC (n := 183) (aty := .boolean) (N := 240) (w' := Wc_423) Wn_422 rfl M.1 (by decide +kernel) M.2.1 (z_wi 1570 (by decide +kernel) rfl) (by decide) (by decide) (by decide) (by decide) (by decide) ?_
  refine z_putFC (idx := 143) (ci := 14) (j := 48) (kd := 1) (w' := Wc_424) rfl M.1 (by decide +kernel) (by decide) rfl (fun r h => by injection h with h; subst h; rfl) (by decide +kernel) trivial ?_
  refine z_go2 M.1 489 [(.aload_n 0, 1), (.bipush 8, 2)] (492, [(0, z_r 78)], [.inl 8, z_r 78], Wc_424, 105, 27009) (by decide +kernel) rfl ⟨trivial, trivial, trivial⟩ ?_
  refine z_newaC (n := 184) (aty := .int) (N := 8) (w' := Wc_425) Wn_424 rfl M.1 (by decide +kernel) M.2.1 (z_wi 235 (by decide +kernel) rfl) (by decide) (by decide) (by decide) (by decide) (by decide) ?_
  refine z_putFC (idx := 147) (ci := 14) (j := 49) (kd := 1) (w' := Wc_426) rfl M.1 (by decide +kernel) (by decide) rfl (fun r h => by injection h with h; subst h; rfl) (by decide +kernel) trivial ?_
  refine z_go2 M.1 497 [(.aload_n 0, 1), (.bipush 30, 2)] (500, [(0, z_r 78)], [.inl 30, z_r 78], Wc_426, 106, 27017) (by decide +kernel) rfl ⟨trivial, trivial, trivial⟩ ?_
  refine z_newaC (n := 185) (aty := .char) (N := 30) (w' := Wc_427) Wn_426 rfl M.1 (by decide +kernel) M.2.1 (z_wi 311 (by decide +kernel) rfl) (by decide) (by decide) (by decide) (by decide) (by decide) ?_
  refine z_putFC (idx := 150) (ci := 14) (j := 50) (kd := 1) (w' := Wc_428) rfl M.1 (by decide +kernel) (by decide) rfl (fun r h => by injection h with h; subst h; rfl) (by decide +kernel) trivial ?_
  refine z_go2 M.1 505 [(.aload_n 0, 1), (.bipush 31, 2)] (508, [(0, z_r 78)], [.inl 31, z_r 78], Wc_428, 107, 27047) (by decide +kernel) rfl ⟨trivial, trivial, trivial⟩ ?_
  refine z_newaC (n := 186) (aty := .char) (N := 31) (w' := Wc_429) Wn_428 rfl M.1 (by decide +kernel) M.2.1 (z_wi 311 (by decide +kernel) rfl) (by decide) (by decide) (by decide) (by decide) (by decide) ?_
  refine z_putFC (idx := 154) (ci := 14) (j := 55) (kd := 1) (w' := Wc_430) rfl M.1 (by decide +kernel) (by decide) rfl (fun r h => by injection h with h; subst h; rfl) (by decide +kernel) trivial ?_
  refine z_go2 M.1 513 [(.aload_n 0, 1), (.bipush 31, 2)] (516, [(0, z_r 78)], [.inl 31, z_r 78], Wc_430, 108, 27078) (by decide +kernel) rfl ⟨trivial, trivial, trivial⟩ ?_
  refine z_newaC (n := 187) (aty := .int) (N := 31) (w' := Wc_431) Wn_430 rfl M.1 (by decide +kernel) M.2.1 (z_wi 235 (by decide +kernel) rfl) (by decide) (by decide) (by decide) (by decide) (by decide) ?_
  refine z_putFC (idx := 157) (ci := 14) (j := 56) (kd := 1) (w' := Wc_432) rfl M.1 (by decide +kernel) (by decide) rfl (fun r h => by injection h with h; subst h; rfl) (by decide +kernel) trivial ?_
  refine z_go2 M.1 521 [(.aload_n 0, 1), (.bipush 31, 2)] (524, [(0, z_r 78)], [.inl 31, z_r 78], Wc_432, 109, 27109) (by decide +kernel) rfl ⟨trivial, trivial, trivial⟩ ?_
  refine z_newaC (n := 188) (aty := .int) (N := 31) (w' := Wc_433) Wn_432 rfl M.1 (by decide +kernel) M.2.1 (z_wi 235 (by decide +kernel) rfl) (by decide) (by decide) (by decide) (by decide) (by decide) ?_
  refine z_putFC (idx := 160) (ci := 14) (j := 57) (kd := 1) (w' := Wc_434) rfl M.1 (by decide +kernel) (by decide) rfl (fun r h => by injection h with h; subst h; rfl) (by decide +kernel) trivial ?_
  refine z_go2 M.1 529 [(.aload_n 0, 1), (.bipush 31, 2)] (532, [(0, z_r 78)], [.inl 31, z_r 78], Wc_434, 110, 27140) (by decide +kernel) rfl ⟨trivial, trivial, trivial⟩ ?_
  refine z_newaC (n := 189) (aty := .int) (N := 31) (w' := Wc_435) Wn_434 rfl M.1 (by decide +kernel) M.2.1 (z_wi 235 (by decide +kernel) rfl) (by decide) (by decide) (by decide) (by decide) (by decide) ?_
  refine z_putFC (idx := 163) (ci := 14) (j := 58) (kd := 1) (w' := Wc_436) rfl M.1 (by decide +kernel) (by decide) rfl (fun r h => by injection h with h; subst h; rfl) (by decide +kernel) trivial ?_
  refine z_go2 M.1 537 [(.aload_n 0, 1), (.bipush 31, 2)] (540, [(0, z_r 78)], [.inl 31, z_r 78], Wc_436, 111, 27171) (by decide +kernel) rfl ⟨trivial, trivial, trivial⟩ ?_
  refine z_newaC (n := 190) (aty := .int) (N := 31) (w' := Wc_437) Wn_436 rfl M.1 (by decide +kernel) M.2.1 (z_wi 235 (by decide +kernel) rfl) (by decide) (by decide) (by decide) (by decide) (by decide) ?_
  refine z_putFC (idx := 166) (ci := 14) (j := 59) (kd := 1) (w' := Wc_438) rfl M.1 (by decide +kernel) (by decide) rfl (fun r h => by injection h with h; subst h; rfl) (by decide +kernel) trivial ?_
  refine z_go2 M.1 545 [(.aload_n 0, 1), (.sipush 930, 3)] (549, [(0, z_r 78)], [.inl 930, z_r 78], Wc_438, 112, 27202) (by decide +kernel) rfl ⟨trivial, trivial, trivial⟩ ?_
  refine z_newaC (n := 191) (aty := .boolean) (N := 930) (w' := Wc_439) Wn_438 rfl M.1 (by decide +kernel) M.2.1 (z_wi 1570 (by decide +kernel) rfl) (by decide) (by decide) (by decide) (by decide) (by decide) ?_
  refine z_putFC (idx := 169) (ci := 14) (j := 60) (kd := 1) (w' := Wc_440) rfl M.1 (by decide +kernel) (by decide) rfl (fun r h => by injection h with h; subst h; rfl) (by decide +kernel) trivial ?_
  refine z_go2 M.1 554 [(.aload_n 0, 1), (.bipush 30, 2)] (557, [(0, z_r 78)], [.inl 30, z_r 78], Wc_440, 113, 28132) (by decide +kernel) rfl ⟨trivial, trivial, trivial⟩ ?_
  refine z_newaC (n := 192) (aty := .boolean) (N := 30) (w' := Wc_441) Wn_440 rfl M.1 (by decide +kernel) M.2.1 (z_wi 1570 (by decide +kernel) rfl) (by decide) (by decide) (by decide) (by decide) (by decide) ?_
  refine z_putFC (idx := 172) (ci := 14) (j := 61) (kd := 1) (w' := Wc_442) rfl M.1 (by decide +kernel) (by decide) rfl (fun r h => by injection h with h; subst h; rfl) (by decide +kernel) trivial ?_
  exact z_vret M (by decide +kernel) rfl (by decide) (by decide) ⟨rfl, rfl⟩
def Wc_443 : z_W := z_nw Wc_442 (5, 1)
theorem Wn_443 : Wc_443.2.2.2 = 194 := congrArg (· + 1) Wn_442
